-- ===== what constructors leave =====
theorem zsub1 {a : Nat} (h : 1 ≤ a) : nI a - (1 : Int32) = nI (a - 1) := pk_sub (b := 1) h
section
variable {E : zE} {K n : Nat → Nat} {I : Nat → Nat → Int32} {F : Nat → Nat → Option Nat} {J : Nat → Nat → Int64} {cb sb : Nat} {Q : zO → zH → Prop}
/-- Part.ofField(place, length) -/
theorem c_ofField {a b : Nat} (ha : 1 ≤ a ∧ a ≤ 100) (hb : b ≤ 100) (hG : HG E K F) (hcb : 1 ≤ cb) (hsb : 3 ≤ sb)
    (w : ∀ q K' I' F', K q = 0 → GR (fun _ => False) (K, n, I, F, J) (K', n, I', F', J) → HG E K' F' → cP K' n I' F' q (none, a - 1, b) → Q (.inl (some (.ref q))) (K', n, I', F', J)) :
    AW E m_Part_ofField (K, n, I, F, J) cb sb Q 0 [some (.int (nI a)), some (.int (nI b))] [] := by
  refine r_Part_ofField_0 ⟨0, 0, by omega, by omega, fun q hq => ?_⟩
  refine r_Part_ofField_3 (r_Part_init_0 ⟨va_up_s _ _ _, r_Part_ofField_12 ?_⟩)
  rw [zsub1 ha.1, zup_up, zup_up, zup_up]
  refine w q _ _ _ hq (GR.newO hq 2 _ _) ((hG.new 2 hq).arr (fun a ha => ?_)) ⟨va_up_s _ _ _, ?_, ?_, by show a - 1 ≤ 100; omega, hb, ?_⟩
  · by_cases e : a = q
    · subst e
      rw [va_up_s, va_up_s]
      funext j
      by_cases h : j = 0 <;> simp [va_up, h]
    · rw [va_up_n _ _ e, va_up_n _ _ e]
  · rw [va_up_s]; simp [va_up]
  · rw [va_up_s]; simp [va_up]
  · show va_up F q _ q 0 = none
    rw [va_up_s]; simp [va_up]
/-- Part.ofText(text) -/
theorem c_ofText {b : Nat} {ts : List Nat} (hb : K b = 20) (hn : n b = ts.length) (hl : ts.length ≤ 100) (ht : ∀ x ∈ ts, x < 128) (hI : ∀ k, k < ts.length → I b k = nI (ts.getD k 0)) (hf : ∀ x, K x = 4 ∨ K x = 2 → F x 0 ≠ some b) (hG : HG E K F) (hcb : 1 ≤ cb) (hsb : 3 ≤ sb)
    (w : ∀ q K' I' F', K q = 0 → GR (fun _ => False) (K, n, I, F, J) (K', n, I', F', J) → HG E K' F' → cP K' n I' F' q (some ts, 0, ts.length) → Q (.inl (some (.ref q))) (K', n, I', F', J)) :
    AW E m_Part_ofText (K, n, I, F, J) cb sb Q 0 [some (.ref b)] [] := by
  refine r_Part_ofText_0 ⟨0, 0, by omega, by omega, fun q hq => ?_⟩
  have hbq : b ≠ q := fun z => by rw [z, hq] at hb; cases hb
  refine r_Part_ofText_3 ⟨by rw [va_up_n _ _ hbq]; omega, r_Part_init_0 ⟨va_up_s _ _ _, r_Part_ofText_11 ?_⟩⟩
  rw [zup_up, zup_up]
  have hKb : va_up K q 2 b = 20 := by rw [va_up_n _ _ hbq]; exact hb
  have hG2 := (hG.new 2 hq).putB q b (Or.inr (va_up_s _ _ _)) hKb (fun x hx hf2 => by
    by_cases e : x = q
    · subst e; rw [va_up_s] at hf2; cases hf2
    · rw [va_up_n _ _ e] at hx hf2; exact hf x hx hf2)
  refine w q _ _ _ hq ?_ hG2 ⟨va_up_s _ _ _, ?_, ?_, by show 0 ≤ 100; omega, hl, rfl, ht, b, ?_, hKb, hn, fun k hk => ?_⟩
  · rw [zup_up]; exact GR.newO hq 2 _ _
  · rw [va_up_s]; simp [va_up]; rfl
  · rw [va_up_s]; simp [va_up, hn]
  · rw [zup_s]
  · rw [va_up_n _ _ hbq]; exact hI k hk
/-- the list of a new object -/
theorem c_newList {M : zM} {pc : Nat} {lv : List (Option Value)} {st : List Value} {l : Nat} (hG : HG E K F) (hq : K l = 0) (hc0 : 0 ≤ cb)
    (w : ∀ I' F', GR (fun a => a = l) (va_up K l 10, n, va_up I l (fun _ => 0), va_up F l (fun _ => none), J) (va_up K l 10, n, I', F', J) → GR (fun _ => False) (K, n, I, F, J) (va_up K l 10, n, I', F', J) → HG E (va_up K l 10) F' → cL E (va_up K l 10) n I' F' l [] 0 → Q (.inl none) (va_up K l 10, n, I', F', J)) :
    AW E m_ArrayList_init (va_up K l 10, n, va_up I l (fun _ => 0), va_up F l (fun _ => none), J) cb sb Q 0 [some (.ref l)] [] := by
  refine c_listInit (va_up_s _ _ _) (by rw [va_up_s]) (hG.new 10 hq) (fun I' F' g hG' hL => w I' F' g ?_ hG' hL)
  exact GR.trans (GR.newO hq 10 _ _) (g.mono (S' := fun a => a = l) (fun _ _ z => z)) (fun a ha z => absurd (by show K a = 0; rw [z]; exact hq) ha)
/-- new Rows(): its <init> -/
theorem c_rowsInit {w0 : Nat} (hw : K w0 = 5) (hG : HG E K F) (hcb : 1 ≤ cb) (hsb : 3 ≤ sb)
    (w : ∀ l K' I' F', K l = 0 → GR (fun a => a = w0) (K, n, I, F, J) (K', n, I', F', J) → HG E K' F' → cW E K' n I' F' w0 l [] 0 0 → Q (.inl none) (K', n, I', F', J)) :
    AW E m_Rows_init (K, n, I, F, J) cb sb Q 0 [some (.ref w0)] [] := by
  refine r_Rows_init_0 ⟨0, 0, by omega, by omega, fun l hl => r_Rows_init_8 (c_newList (M := m_Rows_init) (pc := 0) (lv := []) (st := []) hG hl (by omega) (fun I1 F1 g1 g2 hG1 hL1 => ?_))⟩
  have hwl : w0 ≠ l := fun z => by rw [z, hl] at hw; cases hw
  have hK : va_up K l 10 w0 = 5 := by rw [va_up_n _ _ hwl]; exact hw
  refine r_Rows_init_12 ⟨hK, hK, ?_⟩
  have g3 : GR (fun a => a = w0) (va_up K l 10, n, I1, F1, J) (va_up K l 10, n, zup I1 w0 1 (0 : Int32), zup F1 w0 0 (some l), J) := fun a ha => ⟨rfl, rfl, fun hn => ⟨zup_n _ _ _ hn, zup_n _ _ _ hn, rfl⟩⟩
  refine w l _ _ _ hl (GR.trans (g2.mono (fun _ _ z => z.elim)) g3 (fun _ _ z => z)) (hG1.put w0 0 _ (by omega) (by omega) (by omega)) ⟨hK, zup_s _ _ _ _, hL1.fr g3 (fun z => hwl z.symm) (fun e he hk z => by rw [z] at hk; omega), zup_s _ _ _ _, by simp, by simp, by omega, by simp⟩
end
