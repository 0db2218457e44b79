-- ===== parts, keys, tests, statements =====
abbrev zPart : Type := Option (List Nat) × Nat × Nat
abbrev zKey : Type := Nat × Nat × Bool × Bool
abbrev zTest : Type := Bool × zPart × Nat × zPart
abbrev zStm : Type := List zKey × List zTest × List zPart × List zPart × Bool × Nat × Nat × Nat
def zB (b : Bool) : Int32 := if b then 1 else 0
theorem zB_0 (b : Bool) : zB b = 0 ↔ b = false := by cases b <;> simp [zB]
theorem zB_01 (b : Bool) : zB b = 0 ∨ zB b = 1 := by cases b <;> simp [zB]
def dig (u : Nat) : Nat := if 48 ≤ u ∧ u ≤ 57 then u - 48 else 0
def poct (p : zPart) (r : List Nat) (k : Nat) : Nat := if k < p.2.2 then (match p.1 with | none => oct r (p.2.1 + k) | some t => t.getD k 0) else 32
/-- the first difference of two rows of numbers from k on -/
def fdif (x y : Nat → Nat) : Nat → Nat → Int
  | _, 0 => 0
  | k, d + 1 => if x k = y k then fdif x y (k + 1) d else (x k : Int) - (y k : Int)
def zdg (b : Bool) (u : Nat) : Nat := if b then dig u else u
def cmpP (p : zPart) (r : List Nat) (p' : zPart) (r' : List Nat) (b : Bool) : Int := fdif (fun k => zdg b (poct p r k)) (fun k => zdg b (poct p' r' k)) 0 (max p.2.2 p'.2.2)
def kpart (k : zKey) : zPart := (none, k.1, k.2.1)
def cmpK (k : zKey) (r r' : List Nat) : Int := cmpP (kpart k) r (kpart k) r' k.2.2.2
def cmpR : List zKey → List Nat → List Nat → Int
  | [], _, _ => 0
  | k :: ks, r, r' => if cmpK k r r' = 0 then cmpR ks r r' else if k.2.2.1 then - cmpK k r r' else cmpK k r r'
def tval (t : zTest) (r : List Nat) : Bool :=
  let d := cmpP t.2.1 r t.2.2.2 r false
  if t.2.2.1 = 61 then decide (d = 0) else if t.2.2.1 = 35 then decide (d ≠ 0) else if t.2.2.1 = 60 then decide (d < 0) else decide (0 < d)
def tfold (r : List Nat) : List zTest → Bool → Bool
  | [], b => b
  | t :: ts, b => tfold r ts (if t.1 then b || tval t r else b && tval t r)
def keepsB (st : zStm) (r : List Nat) : Bool := match st.2.1 with
  | [] => true
  | t :: ts => tfold r ts (tval t r) != st.2.2.2.2.1
/-- the part p -/
def cP (K n : Nat → Nat) (I : Nat → Nat → Int32) (F : Nat → Nat → Option Nat) (p : Nat) (t : zPart) : Prop :=
  K p = 2 ∧ I p 1 = nI t.2.1 ∧ I p 2 = nI t.2.2 ∧ t.2.1 ≤ 100 ∧ t.2.2 ≤ 100 ∧ match t.1 with
    | none => F p 0 = none
    | some ts => ts.length = t.2.2 ∧ (∀ x ∈ ts, x < 128) ∧ ∃ b, F p 0 = some b ∧ K b = 20 ∧ n b = t.2.2 ∧ ∀ k, k < t.2.2 → I b k = nI (ts.getD k 0)
def cK (K n : Nat → Nat) (I : Nat → Nat → Int32) (F : Nat → Nat → Option Nat) (a : Nat) (k : zKey) : Prop :=
  K a = 1 ∧ I a 1 = zB k.2.2.1 ∧ I a 2 = zB k.2.2.2 ∧ ∃ p, F a 0 = some p ∧ cP K n I F p (kpart k)
def cT (K n : Nat → Nat) (I : Nat → Nat → Int32) (F : Nat → Nat → Option Nat) (a : Nat) (t : zTest) : Prop :=
  K a = 7 ∧ I a 0 = zB t.1 ∧ I a 2 = nI t.2.2.1 ∧ t.2.2.1 < 256 ∧ ∃ p p', F a 1 = some p ∧ cP K n I F p t.2.1 ∧ F a 3 = some p' ∧ cP K n I F p' t.2.2.2
/-- the list l holds what ts says, one by one -/
def cA (E : zE) (K n : Nat → Nat) (I : Nat → Nat → Int32) (F : Nat → Nat → Option Nat) {α : Type} (C : Nat → α → Prop) (l : Nat) (ts : List α) : Prop :=
  ∃ xs cap, cL E K n I F l xs cap ∧ cap ≤ 100 ∧ xs.length = ts.length ∧ ∀ i t, ts[i]? = some t → C (xs.getD i 0) t
def cSt (E : zE) (K n : Nat → Nat) (I : Nat → Nat → Int32) (F : Nat → Nat → Option Nat) (s : Nat) (st : zStm) : Prop :=
  K s = 6 ∧ I s 4 = zB st.2.2.2.2.1 ∧ I s 5 = nI st.2.2.2.2.2.1 ∧ I s 6 = nI st.2.2.2.2.2.2.1 ∧ I s 7 = nI st.2.2.2.2.2.2.2 ∧ st.2.2.2.2.2.1 ≤ 9999 ∧ st.2.2.2.2.2.2.1 ≤ 9999 ∧ st.2.2.2.2.2.2.2 ≤ 500 ∧
  ∃ l0 l1 l2 l3, F s 0 = some l0 ∧ F s 1 = some l1 ∧ F s 2 = some l2 ∧ F s 3 = some l3 ∧ cA E K n I F (cK K n I F) l0 st.1 ∧ cA E K n I F (cT K n I F) l1 st.2.1 ∧ cA E K n I F (cP K n I F) l2 st.2.2.1 ∧ cA E K n I F (cP K n I F) l3 st.2.2.2.1
/-- what does not belong to the statements s -/
def zFor (K : Nat → Nat) (F : Nat → Nat → Option Nat) (s a : Nat) : Prop :=
  (K a ≠ 1 ∧ K a ≠ 2 ∧ K a ≠ 6 ∧ K a ≠ 7 ∧ K a ≠ 10 ∧ K a ≠ 23 ∧ K a ≠ 20) ∨ (K a = 10 ∧ ∀ j, j < 4 → F s j ≠ some a) ∨ (K a = 23 ∧ ∀ j l, j < 4 → F s j = some l → F l 1 ≠ some a) ∨ (K a = 20 ∧ ∃ x, K x = 4 ∧ F x 0 = some a)
section
variable {E : zE} {K n K' n' : Nat → Nat} {I I' : Nat → Nat → Int32} {F F' : Nat → Nat → Option Nat} {J J' : Nat → Nat → Int64} {S : Nat → Prop}
theorem cP.fr {p : Nat} {t : zPart} (h : cP K n I F p t) (g : GR S (K, n, I, F, J) (K', n', I', F', J')) (hp : ¬ S p) (hb : ∀ b, F p 0 = some b → ¬ S b) : cP K' n' I' F' p t := by
  obtain ⟨h1, h2, h3, h4, h5, h6⟩ := h
  obtain ⟨g1, g2, g3⟩ := g p (by show K p ≠ 0; omega)
  obtain ⟨g3, g4, -⟩ := g3 hp
  dsimp only at g1 g2 g3 g4
  refine ⟨by rw [g1]; exact h1, by rw [g3]; exact h2, by rw [g3]; exact h3, h4, h5, ?_⟩
  obtain ⟨t1, t2, t3⟩ := t
  cases t1 with
  | none => show F' p 0 = none; rw [g4]; exact h6
  | some ts =>
    obtain ⟨a1, a2, b, a3, a4, a5, a6⟩ := h6
    obtain ⟨k1, k2, k3⟩ := g b (by show K b ≠ 0; omega)
    obtain ⟨k3, -, -⟩ := k3 (hb b a3)
    dsimp only at k1 k2 k3
    exact ⟨a1, a2, b, by rw [g4]; exact a3, by rw [k1]; exact a4, by rw [k2]; exact a5, by rw [k3]; exact a6⟩
theorem cP.frF {p s : Nat} {t : zPart} (h : cP K n I F p t) (g : GR S (K, n, I, F, J) (K', n', I', F', J')) (hG : HG E K F) (hS : ∀ a, K a ≠ 0 → S a → zFor K F s a) : cP K' n' I' F' p t := by
  have h1 := h.1
  refine h.fr g (fun z => ?_) (fun b hb z => ?_)
  · rcases hS p (by omega) z with q | q | q | q <;> omega
  · have hk := hG.2.2.2.2.1 p b h1 hb
    rcases hS b (by omega) z with q | q | q | ⟨q, x, q1, q2⟩
    · omega
    · omega
    · omega
    · exact hG.2.2.2.2.2 p x b h1 q1 hb q2
theorem cK.frF {p s : Nat} {t : zKey} (h : cK K n I F p t) (g : GR S (K, n, I, F, J) (K', n', I', F', J')) (hG : HG E K F) (hS : ∀ a, K a ≠ 0 → S a → zFor K F s a) : cK K' n' I' F' p t := by
  obtain ⟨h1, h2, h3, q, h4, h5⟩ := h
  obtain ⟨g1, g2, g3⟩ := g p (by show K p ≠ 0; omega)
  obtain ⟨g3, g4, -⟩ := g3 (fun z => by rcases hS p (by omega) z with q | q | q | q <;> omega)
  dsimp only at g1 g2 g3 g4
  exact ⟨by rw [g1]; exact h1, by rw [g3]; exact h2, by rw [g3]; exact h3, q, by rw [g4]; exact h4, h5.frF g hG hS⟩
theorem cT.frF {p s : Nat} {t : zTest} (h : cT K n I F p t) (g : GR S (K, n, I, F, J) (K', n', I', F', J')) (hG : HG E K F) (hS : ∀ a, K a ≠ 0 → S a → zFor K F s a) : cT K' n' I' F' p t := by
  obtain ⟨h1, h2, h3, h4, q, q', h5, h6, h7, h8⟩ := h
  obtain ⟨g1, g2, g3⟩ := g p (by show K p ≠ 0; omega)
  obtain ⟨g3, g4, -⟩ := g3 (fun z => by rcases hS p (by omega) z with q | q | q | q <;> omega)
  dsimp only at g1 g2 g3 g4
  exact ⟨by rw [g1]; exact h1, by rw [g3]; exact h2, by rw [g3]; exact h3, h4, q, q', by rw [g4]; exact h5, h6.frF g hG hS, by rw [g4]; exact h7, h8.frF g hG hS⟩
theorem cA.frF {α : Type} {C C' : Nat → α → Prop} {l s j : Nat} {ts : List α} (h : cA E K n I F C l ts) (g : GR S (K, n, I, F, J) (K', n', I', F', J')) (hS : ∀ a, K a ≠ 0 → S a → zFor K F s a) (hj : j < 4) (hl : F s j = some l) (hC : ∀ a t, C a t → C' a t) : cA E K' n' I' F' C' l ts := by
  obtain ⟨xs, cap, h1, h2, h3, h4⟩ := h
  have hk := h1.1
  refine ⟨xs, cap, h1.fr g (fun z => ?_) (fun e he hke z => ?_), h2, h3, fun i t ht => hC _ _ (h4 i t ht)⟩
  · rcases hS l (by omega) z with q | ⟨-, q⟩ | q | q
    · omega
    · exact q j hj hl
    · omega
    · omega
  · rcases hS e (by omega) z with q | q | ⟨-, q⟩ | q
    · omega
    · omega
    · exact q j l hj hl he
    · omega
theorem cSt.frF {s : Nat} {st : zStm} (h : cSt E K n I F s st) (g : GR S (K, n, I, F, J) (K', n', I', F', J')) (hG : HG E K F) (hS : ∀ a, K a ≠ 0 → S a → zFor K F s a) : cSt E K' n' I' F' s st := by
  obtain ⟨h1, h2, h3, h4, h5, h6, h7, h8, l0, l1, l2, l3, f0, f1, f2, f3, a0, a1, a2, a3⟩ := h
  obtain ⟨g1, g2, g3⟩ := g s (by show K s ≠ 0; omega)
  obtain ⟨g3, g4, -⟩ := g3 (fun z => by rcases hS s (by omega) z with q | q | q | q <;> omega)
  dsimp only at g1 g2 g3 g4
  exact ⟨by rw [g1]; exact h1, by rw [g3]; exact h2, by rw [g3]; exact h3, by rw [g3]; exact h4, by rw [g3]; exact h5, h6, h7, h8, l0, l1, l2, l3, by rw [g4]; exact f0, by rw [g4]; exact f1, by rw [g4]; exact f2, by rw [g4]; exact f3,
    a0.frF g hS (by decide) f0 (fun a t q => q.frF g hG hS), a1.frF g hS (by decide) f1 (fun a t q => q.frF g hG hS), a2.frF g hS (by decide) f2 (fun a t q => q.frF g hG hS), a3.frF g hS (by decide) f3 (fun a t q => q.frF g hG hS)⟩
end
section
variable {E : zE} {K n : Nat → Nat} {I : Nat → Nat → Int32} {F : Nat → Nat → Option Nat} {J : Nat → Nat → Int64} {cb sb : Nat} {Q : zO → zH → Prop}
theorem c_isDigit {x : Int32} (w : Q (.inl (some (.int (if ¬ x < (48 : Int32) ∧ ¬ (57 : Int32) < x then 1 else 0)))) (K, n, I, F, J)) : AW E m_Su_isDigit (K, n, I, F, J) cb sb Q 0 [some (.int x)] [] := by
  refine r_Su_isDigit_0 ⟨fun h => ?_, fun h => ⟨fun h2 => ?_, fun h2 => ?_⟩⟩
  · rw [if_neg (fun z => z.1 h)] at w; exact w
  · rw [if_neg (fun z => z.2 h2)] at w; exact w
  · rw [if_pos ⟨h, h2⟩] at w; exact w
theorem c_digitOf {u : Nat} (hu : u < 256) (w : Q (.inl (some (.int (nI (dig u))))) (K, n, I, F, J)) : AW E m_Su_digitOf (K, n, I, F, J) cb sb Q 0 [some (.int (nI u))] [] := by
  refine r_Su_digitOf_0 (c_isDigit (r_Su_digitOf_4 ?_))
  have key : ∀ u : Nat, u < 256 → ((¬ nI u < (48 : Int32) ∧ ¬ (57 : Int32) < nI u) ↔ (48 ≤ u ∧ u ≤ 57)) ∧ (48 ≤ u ∧ u ≤ 57 → nI u - (48 : Int32) = nI (dig u)) := by decide +kernel
  obtain ⟨k1, k2⟩ := key u hu
  by_cases h : 48 ≤ u ∧ u ≤ 57
  · rw [if_pos (k1.mpr h), k2 h]
    exact ⟨fun z => absurd z (by decide), fun _ => w⟩
  · rw [if_neg (fun z => h (k1.mp z))]
    unfold dig at w
    rw [if_neg h] at w
    exact ⟨fun _ => w, fun z => absurd rfl z⟩
theorem dig_lt (u : Nat) : dig u < 10 := by unfold dig; split <;> omega
theorem poct_lt {p : Nat} {t : zPart} {r : List Nat} (hP : cP K n I F p t) (hr : ∀ x ∈ r, x < 256) (k : Nat) : poct t r k < 256 := by
  obtain ⟨-, -, -, -, -, h6⟩ := hP
  obtain ⟨t1, t2, t3⟩ := t
  unfold poct
  dsimp only
  split
  · cases t1 with
    | none => exact oct_lt hr _
    | some ts =>
      obtain ⟨a1, a2, -⟩ := h6
      dsimp only at a1 ⊢
      have := a2 _ (zgetD_mem (xs := ts) (i := k) (by omega))
      omega
  · omega
theorem c_partOct {p a k : Nat} {t : zPart} {r : List Nat} (hP : cP K n I F p t) (hR : cR K n I F a r) (hk : k < 2 ^ 30) (w : Q (.inl (some (.int (nI (poct t r k))))) (K, n, I, F, J)) : AW E m_Part_octetAt (K, n, I, F, J) cb sb Q 0 [some (.ref p), some (.ref a), some (.int (nI k))] [] := by
  obtain ⟨h1, h2, h3, h4, h5, h6⟩ := hP
  obtain ⟨t1, t2, t3⟩ := t
  dsimp only at h2 h3 h4 h5
  refine r_Part_octetAt_0 (br_f (nI_pos (by omega)) ⟨h1, ?_⟩)
  rw [h3]
  refine pk_lt k t3 (fun h => ?_) (fun h => ?_) rfl rfl (by omega) (by omega)
  · unfold poct at w
    dsimp only at w
    rw [if_pos h] at w
    cases t1 with
    | none =>
      have h6 : F p 0 = none := h6
      refine ⟨fun _ => ⟨hR.1, ?_⟩, fun z hz => by rw [h6] at hz; cases hz⟩
      rw [h2, nI_add]
      exact c_octetAt hR (by omega) (r_Part_octetAt_32 w)
    | some ts =>
      obtain ⟨a1, a2, b, a3, a4, a5, a6⟩ := h6
      dsimp only at a1 a5 a6
      refine ⟨fun z => absurd (a3.symm.trans z) (by simp), fun z hz => ?_⟩
      cases a3.symm.trans hz
      refine ⟨a4, k, rfl, by omega, by omega, ?_⟩
      rw [a6 k h]
      exact w
  · unfold poct at w
    rw [if_neg (by show ¬ k < t3; omega)] at w
    exact w
theorem zsub_zero {a b : Nat} (ha : a < 256) (hb : b < 256) : (nI a - nI b = 0 ↔ a = b) ∧ (nI a - nI b).toInt = (a : Int) - b := by
  have e := pk_sub_toInt (a := a) (b := b) (by omega) (by omega)
  refine ⟨⟨fun h => ?_, fun h => ?_⟩, e⟩
  · rw [h] at e
    have : (0 : Int32).toInt = 0 := by decide
    omega
  · subst h
    rw [pk_sub (Nat.le_refl a), Nat.sub_self]
    rfl
/-- compareParts -/
theorem c_cmpPL {p a p' a' : Nat} {t t' : zPart} {r r' : List Nat} {b : Bool} (hP : cP K n I F p t) (hR : cR K n I F a r) (hP' : cP K n I F p' t') (hR' : cR K n I F a' r') {N : Nat} (hN : N ≤ 100) : ∀ (d k : Nat), k + d = N →
    (∀ x : Int32, x.toInt = fdif (fun k => zdg b (poct t r k)) (fun k => zdg b (poct t' r' k)) k d → -256 < x.toInt ∧ x.toInt < 256 → Q (.inl (some (.int x))) (K, n, I, F, J)) →
    AW E m_Su_compareParts (K, n, I, F, J) cb sb Q 16 [some (.ref p), some (.ref a), some (.ref p'), some (.ref a'), some (.int (zB b)), some (.int (nI N)), some (.int (nI k)), none, none, none] []
  | 0, k, hk, w => r_Su_compareParts_16 (br_t (nI_le (by omega) (by omega)) (w 0 (by unfold fdif; decide) (by decide)))
  | d + 1, k, hk, w => by
    have hu := poct_lt hP hR.2.2.1 k
    have hu' := poct_lt hP' hR'.2.2.1 k
    have fin : ∀ u u' : Nat, u < 256 → u' < 256 → u = zdg b (poct t r k) → u' = zdg b (poct t' r' k) → ((nI u - nI u' = 0 → AW E m_Su_compareParts (K, n, I, F, J) cb sb Q 16 [some (.ref p), some (.ref a), some (.ref p'), some (.ref a'), some (.int (zB b)), some (.int (nI N)), some (.int (nI k + (1 : Int32))), none, none, none] []) ∧ (¬ nI u - nI u' = 0 → Q (.inl (some (.int (nI u - nI u')))) (K, n, I, F, J))) := by
      intro u u' l1 l2 e1 e2
      obtain ⟨z1, z2⟩ := zsub_zero l1 l2
      refine ⟨fun h => ?_, fun h => ?_⟩
      · rw [nI_1]
        refine c_cmpPL hP hR hP' hR' hN d (k + 1) (by omega) (fun x hx hb => w x ?_ hb)
        rw [fdif, ← e1, ← e2, if_pos (z1.mp h)]
        exact hx
      · refine w _ ?_ (by omega)
        rw [fdif, ← e1, ← e2, if_neg (fun q => h (z1.mpr q))]
        exact z2
    refine r_Su_compareParts_16 (br_f (nI_ge (by omega) (by omega)) ⟨hP.1, c_partOct hP hR (by omega) ?_⟩)
    refine r_Su_compareParts_30 ⟨hP'.1, c_partOct hP' hR' (by omega) ?_⟩
    refine r_Su_compareParts_39 ⟨fun h => ?_, fun h => ?_⟩
    · have hbf := (zB_0 b).mp h
      exact fin _ _ hu hu' (by rw [hbf]; rfl) (by rw [hbf]; rfl)
    · have hbt : b = true := by cases b <;> simp_all [zB]
      refine c_digitOf hu (r_Su_compareParts_51 (c_digitOf hu' (r_Su_compareParts_56 ?_)))
      have := dig_lt (poct t r k)
      have := dig_lt (poct t' r' k)
      exact fin _ _ (by omega) (by omega) (by rw [hbt]; rfl) (by rw [hbt]; rfl)
theorem c_cmpP {p a p' a' : Nat} {t t' : zPart} {r r' : List Nat} {b : Bool} (hP : cP K n I F p t) (hR : cR K n I F a r) (hP' : cP K n I F p' t') (hR' : cR K n I F a' r')
    (w : ∀ x : Int32, x.toInt = cmpP t r t' r' b → -256 < x.toInt ∧ x.toInt < 256 → Q (.inl (some (.int x))) (K, n, I, F, J)) :
    AW E m_Su_compareParts (K, n, I, F, J) cb sb Q 0 [some (.ref p), some (.ref a), some (.ref p'), some (.ref a'), some (.int (zB b)), none, none, none, none, none] [] := by
  refine r_Su_compareParts_0 ⟨hP.1, hP'.1, ?_⟩
  have l1 := hP.2.2.2.2.1
  have l2 := hP'.2.2.2.2.1
  rw [hP.2.2.1, hP'.2.2.1]
  exact c_max (by omega) (by omega) (r_Su_compareParts_11 (c_cmpPL hP hR hP' hR' (by omega) (max t.2.2 t'.2.2) 0 (by omega) w))
end
