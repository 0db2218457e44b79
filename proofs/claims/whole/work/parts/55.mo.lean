-- ===== the reference: summing =====
def padT (r : List Nat) (e : Nat) : List Nat := r ++ List.replicate (e - r.length) 32
def setD (f : Nat) : Nat → List Nat → Nat → List Nat
  | 0, r, _ => r
  | k + 1, r, v => setD f k (r.set (f + k) (48 + v % 10)) (v / 10)
theorem wnum_set (f : Nat) : ∀ (k : Nat) (r : List Nat) (v : Nat), f + k ≤ r.length → wnum f k r v = setD f k r v
  | 0, r, v, _ => rfl
  | k + 1, r, v, h => by
    unfold wnum setD
    have e : zput r (f + k) (48 + v % 10) = r.set (f + k) (48 + v % 10) := if_pos (by omega)
    rw [e]
    exact wnum_set f k _ _ (by rw [List.length_set]; omega)
theorem wnum_pad (f k : Nat) (r : List Nat) (v : Nat) : wnum f (k + 1) r v = setD f (k + 1) (padT r (f + k + 1)) v := by
  unfold wnum setD
  have e : zput r (f + k) (48 + v % 10) = (padT r (f + k + 1)).set (f + k) (48 + v % 10) := by
    unfold zput padT
    by_cases h : f + k < r.length
    · rw [if_pos h, show f + k + 1 - r.length = 0 by omega, List.replicate_zero, List.append_nil]
    · rw [if_neg h, show f + k + 1 - r.length = (f + k - r.length) + 1 by omega, List.replicate_succ', ← List.append_assoc]
      rw [List.set_append_right _ _ (by simp; omega)]
      simp
      have : f + k - (r.length + (f + k - r.length)) = 0 := by omega
      rw [this]; rfl
  rw [e]
  refine wnum_set f k _ _ ?_
  unfold padT
  simp; omega
theorem fitF_nil (h r : List Nat) : fitF h r [] = true := rfl
theorem fitF_cons (h r : List Nat) (f : zPart) (fs : List zPart) : fitF h r (f :: fs) = if sumN f h r < 10 ^ f.2.2 then fitF h r fs else false := rfl
theorem padT_len (r : List Nat) (e : Nat) : (padT r e).length = max r.length e := by unfold padT; simp; omega
section
variable {E : zE} {B : (Nat → Nat → Int32) × (Nat → Nat → Int64)} {K n : Nat → Nat} {F : Nat → Nat → Option Nat} {J : Nat → Nat → Int64} {m : Nat} {A : Nat → Nat} {T : Nat → Int64} {cb sb : Nat} {Q : zO → zH → Prop}
theorem mo_summedL {I : Nat → Nat → Int32} {V : Nat → Nat → Int32} {s a b : Nat} {f : zPart} {ra rb : List Nat} (h : MS B K n I F J m A V T) (hs : sR V s f) (hs4 : s < 4) (ha : mRT V 19 20 a ra) (hb : mRT V 19 20 b rb)
    (w : Q (.inl (some (.long (if sumN f ra rb < 10 ^ f.2.2 then lN (sumN f ra rb) else (-1 : Int64))))) (K, n, I, F, J)) : ∀ (d k : Nat), k + d = f.2.2 →
    AW E m_Mo_summed (K, n, I, F, J) cb sb Q 6 [some (.ref m), some (.int (nI s)), some (.int (nI a)), some (.int (nI b)), some (.long (lN (10 ^ k))), none, some (.int (nI k)), none] [] := by
  obtain ⟨s1, s2, s3, s4, s5, s6⟩ := hs
  have hf : f = (none, f.2.1, f.2.2) := by obtain ⟨f1, f2, f3⟩ := f; dsimp only at s3; rw [s3]
  have e2 : (2 : Int32) * nI s = nI (2 * s) := pk_mul 2 s
  have bd : ∀ i, i < 2 → 2 * s + i < n (A 9) := fun i hi => by rw [h.sz (by decide)]; show 2 * s + i < 16; omega
  obtain ⟨b1, b2⟩ := sumN_lt s6 ra rb
  intro d
  induction d with
  | zero =>
    intro k hk
    have ek : k = f.2.2 := by omega
    refine r_Mo_summed_6 ⟨h.K9, _, h.f (f := 9) (by decide), h.k (by decide), 2 * s + 1, by rw [e2, nI_1], bd 1 (by decide), by omega, ?_⟩
    rw [h.a (by decide), s2]
    refine br_t ((nI_leI (by omega) (by omega)).mpr (by omega)) ⟨_, h.f (f := 19) (by decide), _, h.f (f := 20) (by decide), 2 * s, e2, bd 0 (by decide), by omega, ?_⟩
    rw [s1, nI_pred]
    refine mo_asNum h ha (by omega) (r_Mo_summed_67 ⟨h.K9, _, h.f (f := 19) (by decide), _, h.f (f := 20) (by decide), _, h.f (f := 9) (by decide), h.k (by decide), 2 * s, e2, bd 0 (by decide), by omega, 2 * s + 1, by rw [e2, nI_1], bd 1 (by decide), by omega, ?_⟩)
    rw [h.a (by decide), s1, s2, nI_pred]
    refine mo_asNum h hb (by omega) (r_Mo_summed_99 ?_)
    rw [lN_add, ek]
    have es : numIn (none, f.2.1, f.2.2) ra 0 f.2.2 0 + numIn (none, f.2.1, f.2.2) rb 0 f.2.2 0 = sumN f ra rb := by unfold sumN; rw [← hf]
    rw [es]
    have hge := lg_cmp_ge (lN (sumN f ra rb)) (lN (10 ^ f.2.2))
    rw [lN_le b2 b1] at hge
    refine ⟨fun z => ?_, fun z => ?_⟩
    · rw [if_neg (by have := hge.mp z; omega)] at w; exact w
    · rw [if_pos (by have := fun y => z (hge.mpr y); exact Nat.lt_of_not_le this)] at w; exact w
  | succ d ih =>
    intro k hk
    refine r_Mo_summed_6 ⟨h.K9, _, h.f (f := 9) (by decide), h.k (by decide), 2 * s + 1, by rw [e2, nI_1], bd 1 (by decide), by omega, ?_⟩
    rw [h.a (by decide), s2]
    refine br_f (nI_ge (by omega) (by omega)) ?_
    have e10 : lN (10 ^ k) * (10 : Int64) = lN (10 ^ (k + 1)) := by
      show lN (10 ^ k) * lN 10 = _
      rw [lN_mul, Nat.pow_succ]
    rw [e10, nI_1]
    exact ih (k + 1) (by omega)
theorem mo_summed {I : Nat → Nat → Int32} {V : Nat → Nat → Int32} {s a b : Nat} {f : zPart} {ra rb : List Nat} (h : MS B K n I F J m A V T) (hs : sR V s f) (hs4 : s < 4) (ha : mRT V 19 20 a ra) (hb : mRT V 19 20 b rb)
    (w : Q (.inl (some (.long (if sumN f ra rb < 10 ^ f.2.2 then lN (sumN f ra rb) else (-1 : Int64))))) (K, n, I, F, J)) :
    AW E m_Mo_summed (K, n, I, F, J) cb sb Q 0 [some (.ref m), some (.int (nI s)), some (.int (nI a)), some (.int (nI b)), none, none, none, none] [] :=
  r_Mo_summed_0 (mo_summedL h hs hs4 ha hb w f.2.2 0 (by omega))
/-- digits are written from behind -/
theorem mo_tuDL {a b s fr : Nat} (ha : a < 150) : ∀ (k : Nat) (v : Nat) (r : List Nat) (I : Nat → Nat → Int32) (V : Nat → Nat → Int32), fr + k ≤ r.length → v < 2 ^ 62 → MS B K n I F J m A V T → mRT V 19 20 a r →
    (∀ I' V', MS B K n I' F J m A V' T → mRT V' 19 20 a (setD fr k r v) → (∀ f j, ¬ (f = 19 ∧ 100 * a ≤ j ∧ j < 100 * a + 100) → V' f j = V f j) → AW E m_Mo_takesUp (K, n, I', F, J) cb sb Q 120 [some (.ref m), some (.int (nI a)), some (.int (nI b)), none, some (.int (nI s + (1 : Int32))), none, none, none, none, none] []) →
    AW E m_Mo_takesUp (K, n, I, F, J) cb sb Q 238 [some (.ref m), some (.int (nI a)), some (.int (nI b)), none, some (.int (nI s)), some (.long (lN v)), none, some (.int (nI fr)), none, some (.int (nI (fr + k) - (1 : Int32)))] []
  | 0, v, r, I, V, hl, hv, h, hr, w => by
    have hl2 := hr.1.2.1
    refine r_Mo_takesUp_238 (br_t ?_ (w I V h hr (fun _ _ _ => rfl)))
    rw [Nat.add_zero]
    cases fr with
    | zero => decide
    | succ q => rw [nI_pred]; exact nI_lt (by omega) (by omega)
  | k + 1, v, r, I, V, hl, hv, h, hr, w => by
    have hl2 := hr.1.2.1
    rw [show fr + (k + 1) = (fr + k) + 1 by omega, nI_pred]
    have ex : (100 : Int32) * nI a + nI (fr + k) = nI (100 * a + (fr + k)) := by
      show nI 100 * nI a + _ = _
      rw [pk_mul, nI_add]
    refine r_Mo_takesUp_238 (br_f (nI_nlt (by omega) (by omega)) ⟨h.K9, _, h.f (f := 19) (by decide), h.k (by decide), 100 * a + (fr + k), ex, by rw [h.sz (by decide)]; show 100 * a + (fr + k) < 15000; omega, by omega, ?_⟩)
    have e1 : (48 : Int32) + (lN v - lN v / (10 : Int64) * (10 : Int64)).toInt32 = nI (48 + v % 10) := by
      have := pk_lRem (a := v) (b := 10) (by omega) (by omega) (by omega)
      rw [show (10 : Int64) = lN 10 from rfl, this, lN_i]
      show nI 48 + _ = _
      rw [nI_add]
    have e2 : lN v / (10 : Int64) = lN (v / 10) := pk_lDiv (b := 10) (by omega) (by omega) (by omega)
    have e3 : nI (fr + k) + ((-1) : Int32) = nI (fr + k) - (1 : Int32) := by
      rw [Int32.sub_eq_add_neg]
    rw [e1, e2, e3]
    have hr2 : mRT (zup V 19 (100 * a + (fr + k)) (nI (48 + v % 10))) 19 20 a (r.set (fr + k) (48 + v % 10)) := by
      obtain ⟨⟨r1, r2, r3, r4⟩, r5, r6, r7⟩ := hr
      refine ⟨⟨by rw [zup_n _ _ _ (by decide), List.length_set]; exact r1, by rw [List.length_set]; exact r2, fun y hy => ?_, fun j hj => ?_⟩, r5, r6, r7⟩
      · rcases List.mem_or_eq_of_mem_set hy with q | q
        · exact r3 y q
        · omega
      · rw [List.length_set] at hj
        rw [zup_at]
        by_cases e : j = fr + k
        · subst e
          rw [if_pos ⟨rfl, rfl⟩]
          simp [List.getD_eq_getElem?_getD, List.getElem?_set, hj]
        · rw [if_neg (fun z => e (by omega)), r4 j hj]
          congr 1
          rw [List.getD_eq_getElem?_getD, List.getD_eq_getElem?_getD, List.getElem?_set, if_neg (fun z => e z.symm)]
    refine mo_tuDL ha k (v / 10) _ _ _ (by rw [List.length_set]; omega) (by omega) (h.up (f := 19) (by decide) (100 * a + (fr + k)) (nI (48 + v % 10))) hr2 (fun I' V' h' r' f' => w I' V' h' r' (fun f j q => ?_))
    rw [f' f j q, zup_at, if_neg (fun z => q ⟨z.1, by omega, by omega⟩)]
/-- blanks up to the field's end -/
theorem mo_tuPL {a b s fr len : Nat} {r : List Nat} (ha : a < 150) (hfl : fr + len ≤ 100) (hlen : 1 ≤ len) : ∀ (d k v : Nat) (I : Nat → Nat → Int32) (V : Nat → Nat → Int32), k + d = fr + len ∨ (d = 0 ∧ fr + len ≤ k ∧ k ≤ 100) → r.length ≤ k → v < 2 ^ 62 → MS B K n I F J m A V T → mRT V 19 20 a r → (∀ j, r.length ≤ j → j < k → V 19 (100 * a + j) = nI 32) →
    (∀ I' V', MS B K n I' F J m A V' T → mRT V' 19 20 a (wnum fr len r v) → (∀ f j, ¬ (f = 19 ∧ 100 * a ≤ j ∧ j < 100 * a + 100) → ¬ (f = 20 ∧ j = a) → V' f j = V f j) → AW E m_Mo_takesUp (K, n, I', F, J) cb sb Q 120 [some (.ref m), some (.int (nI a)), some (.int (nI b)), none, some (.int (nI s + (1 : Int32))), none, none, none, none, none] []) →
    AW E m_Mo_takesUp (K, n, I, F, J) cb sb Q 177 [some (.ref m), some (.int (nI a)), some (.int (nI b)), none, some (.int (nI s)), some (.long (lN v)), none, some (.int (nI fr)), some (.int (nI (fr + len))), some (.int (nI k))] []
  | 0, k, v, I, V, hk, hrk, hv, h, hr, h32, w => by
    obtain ⟨⟨r1, r2, r3, r4⟩, r5, r6, r7⟩ := id hr
    have hdone : ∀ x, x = nI (max r.length (fr + len)) → AW E m_Mo_takesUp (K, n, (zup I (A 20) a x), F, J) cb sb Q 238 [some (.ref m), some (.int (nI a)), some (.int (nI b)), none, some (.int (nI s)), some (.long (lN v)), none, some (.int (nI fr)), none, some (.int (nI (fr + len) - (1 : Int32)))] [] := fun x hx => by
      subst hx
      have hp : mRT (zup V 20 a (nI (max r.length (fr + len)))) 19 20 a (padT r (fr + len)) := by
        refine ⟨⟨by rw [zup_s, padT_len], by rw [padT_len]; omega, fun y hy => ?_, fun j hj => ?_⟩, r5, r6, r7⟩
        · unfold padT at hy
          rcases List.mem_append.mp hy with q | q
          · exact r3 y q
          · have := List.eq_of_mem_replicate q; omega
        · rw [zup_n _ _ _ (by decide)]
          rw [padT_len] at hj
          unfold padT
          by_cases e : j < r.length
          · rw [r4 j e]; congr 1
            simp [List.getD_eq_getElem?_getD, List.getElem?_append_left e]
          · rw [h32 j (by omega) (by omega)]; congr 1
            rw [List.getD_eq_getElem?_getD, List.getElem?_append_right (by omega), List.getElem?_replicate, if_pos (by omega)]; rfl
      obtain ⟨l, rfl⟩ : ∃ l, len = l + 1 := ⟨len - 1, by omega⟩
      refine mo_tuDL ha (l + 1) v _ _ _ (by rw [padT_len]; omega) hv (h.up (f := 20) (by decide) a _) hp (fun I' V' h' r' f' => w I' V' h' ?_ (fun f j q1 q2 => ?_))
      · rw [wnum_pad]; exact r'
      · rw [f' f j q1, zup_at, if_neg q2]
    refine r_Mo_takesUp_177 (br_t ((nI_leI (by omega) (by omega)).mpr (by omega)) ⟨h.K9, _, h.f (f := 20) (by decide), h.k (by decide), a, rfl, by rw [h.sz (by decide)]; exact ha, by omega, ?_⟩)
    rw [h.a (by decide), r1]
    refine pk_le (fr + len) r.length (fun q => hdone _ ?_) (fun q => hdone _ ?_) rfl rfl (by omega) (by omega)
    · rw [Nat.max_eq_left q]
    · rw [Nat.max_eq_right (by omega)]
  | d + 1, k, v, I, V, hk, hrk, hv, h, hr, h32, w => by
    have ex : (100 : Int32) * nI a + nI k = nI (100 * a + k) := by
      show nI 100 * nI a + _ = _
      rw [pk_mul, nI_add]
    refine r_Mo_takesUp_177 (br_f (nI_ge (by omega) (by omega)) ⟨h.K9, _, h.f (f := 19) (by decide), h.k (by decide), 100 * a + k, ex, by rw [h.sz (by decide)]; show 100 * a + k < 15000; omega, by omega, ?_⟩)
    rw [nI_1]
    have hr2 : mRT (zup V 19 (100 * a + k) (nI 32)) 19 20 a r := by
      obtain ⟨⟨r1, r2, r3, r4⟩, r5, r6, r7⟩ := hr
      exact ⟨⟨by rw [zup_n _ _ _ (by decide)]; exact r1, r2, r3, fun j hj => by rw [zup_at, if_neg (fun z => by omega)]; exact r4 j hj⟩, r5, r6, r7⟩
    refine mo_tuPL ha hfl hlen d (k + 1) v _ _ (by omega) (by omega) hv (h.up (f := 19) (by decide) (100 * a + k) (nI 32)) hr2 (fun j h1 h2 => ?_) (fun I' V' h' r' f' => w I' V' h' r' (fun f j q1 q2 => ?_))
    · rw [zup_at]
      by_cases e : j = k
      · rw [if_pos ⟨rfl, by omega⟩]
      · rw [if_neg (fun z => e (by omega))]; exact h32 j h1 (by omega)
    · rw [f' f j q1 q2, zup_at, if_neg (fun z => q1 ⟨z.1, by omega, by omega⟩)]
/-- the sums are written -/
theorem mo_tuWL {st : zStm} {a b mo : Nat} {ra rb : List Nat} (ha : a < 150) (hb : b < 150) (hok : okS st) (hT : ∀ s f, st.2.2.1[s]? = some f → T s = lN (sumN f ra rb)) : ∀ (fs : List zPart) (s : Nat) (r : List Nat) (I : Nat → Nat → Int32) (V : Nat → Nat → Int32), st.2.2.1.drop s = fs → s ≤ st.2.2.1.length → MS B K n I F J m A V T → mRT V 19 20 a r → V 5 3 = nI st.2.2.1.length → (∀ i f, st.2.2.1[i]? = some f → sR V i f) → V 21 a = nI mo → V 21 b = nI 1 →
    (∀ I' V', MS B K n I' F J m A V' T → mRT V' 19 20 a (wsF fs (fs.map fun f => sumN f ra rb) r) → V' 21 a = nI (mo + 1) → (∀ f j, ¬ (f = 19 ∧ 100 * a ≤ j ∧ j < 100 * a + 100) → ¬ (f = 20 ∧ j = a) → ¬ (f = 21 ∧ j = a) → V' f j = V f j) → Q (.inl (some (.int 1))) (K, n, I', F, J)) →
    AW E m_Mo_takesUp (K, n, I, F, J) cb sb Q 120 [some (.ref m), some (.int (nI a)), some (.int (nI b)), none, some (.int (nI s)), none, none, none, none, none] []
  | [], s, r, I, V, hd, hs, h, hr, h53, hsR, h21, h21b, w => by
    have e : st.2.2.1.length ≤ s := List.drop_eq_nil_iff.mp hd
    have h4 := hok.1.2.2.1
    refine r_Mo_takesUp_120 ⟨h.K9, _, h.f (f := 5) (by decide), h.k (by decide), 3, rfl, by rw [h.sz (by decide)]; decide, by decide, ?_⟩
    rw [h.a (by decide), h53]
    refine br_t ((nI_leI (by omega) (by omega)).mpr (by omega)) ⟨_, h.f (f := 21) (by decide), h.k (by decide), a, rfl, by rw [h.sz (by decide)]; exact ha, by omega, b, rfl, by rw [h.sz (by decide)]; exact hb, by omega, ?_⟩
    rw [h.a (by decide), h21, h21b, nI_add]
    refine w _ _ (h.up (f := 21) (by decide) a (nI (mo + 1))) ?_ (zup_s _ _ _ _) (fun f j _ _ q => by rw [zup_at, if_neg q])
    obtain ⟨r1, r5⟩ := hr
    exact ⟨r1.fr (by rw [zup_n _ _ _ (by decide)]) (fun j _ _ => by rw [zup_n _ _ _ (by decide)]), r5⟩
  | f :: fs, s, r, I, V, hd, hs, h, hr, h53, hsR, h21, h21b, w => by
    obtain ⟨ef, ed, el⟩ := zdrop_at hd
    have h4 := hok.1.2.2.1
    obtain ⟨s1, s2, s3, s4, s5, s6⟩ := hsR s f ef
    obtain ⟨b1, b2⟩ := sumN_lt s6 ra rb
    have e2 : (2 : Int32) * nI s = nI (2 * s) := pk_mul 2 s
    have bd : ∀ i, i < 2 → 2 * s + i < n (A 9) := fun i hi => by rw [h.sz (by decide)]; show 2 * s + i < 16; omega
    have hl := hr.1.2.1
    refine r_Mo_takesUp_120 ⟨h.K9, _, h.f (f := 5) (by decide), h.k (by decide), 3, rfl, by rw [h.sz (by decide)]; decide, by decide, ?_⟩
    rw [h.a (by decide), h53]
    refine br_f (nI_ge (by omega) (by omega)) ⟨_, h.1.2.2.2.1, h.1.2.2.2.2.1, s, rfl, by rw [h.1.2.2.2.2.2]; omega, by omega, _, h.f (f := 9) (by decide), h.k (by decide), 2 * s, e2, bd 0 (by decide), by omega, 2 * s + 1, by rw [e2, nI_1], bd 1 (by decide), by omega, _, h.f (f := 20) (by decide), h.k (by decide), a, rfl, by rw [h.sz (by decide)]; exact ha, by omega, ?_⟩
    rw [h.a (by decide), s1, s2, nI_pred, h.a (by decide), hr.1.1, h.2.2.2.1, hT s f ef, nI_add]
    refine mo_tuPL ha s4 s5 (f.2.1 + f.2.2 - r.length) r.length _ _ _ (by omega) (by omega) (by omega) h hr (fun j h1 h2 => by omega) (fun I' V' h' r' f' => ?_)
    rw [nI_1]
    refine mo_tuWL ha hb hok hT fs (s + 1) _ I' V' ed (by omega) h' r' (by rw [f' 5 3 (by omega) (by omega)]; exact h53) (fun i g hg => (hsR i g hg).fr (fun j _ => f' 9 j (by omega) (by omega))) (by rw [f' 21 a (by omega) (by omega)]; exact h21) (by rw [f' 21 b (by omega) (by omega)]; exact h21b) (fun I2 V2 h2 r2 m2 f2 => w I2 V2 h2 r2 m2 (fun g j q1 q2 q3 => by rw [f2 g j q1 q2 q3, f' g j q1 q2]))
end
section
variable {E : zE} {B : (Nat → Nat → Int32) × (Nat → Nat → Int64)} {K n : Nat → Nat} {I : Nat → Nat → Int32} {F : Nat → Nat → Option Nat} {m : Nat} {A : Nat → Nat} {V : Nat → Nat → Int32} {cb sb : Nat} {Q : zO → zH → Prop}
/-- the sums are made -/
theorem mo_tuSL {st : zStm} {a b : Nat} {ra rb : List Nat} (hL : mL V st) (ha : mRT V 19 20 a ra) (hb : mRT V 19 20 b rb)
    (w1 : ∀ J' T', fitF ra rb st.2.2.1 = true → MS B K n I F J' m A V T' → (∀ s f, st.2.2.1[s]? = some f → T' s = lN (sumN f ra rb)) → AW E m_Mo_takesUp (K, n, I, F, J') cb sb Q 120 [some (.ref m), some (.int (nI a)), some (.int (nI b)), none, some (.int (0 : Int32)), none, none, none, none, none] [])
    (w0 : ∀ J' T', fitF ra rb st.2.2.1 = false → MS B K n I F J' m A V T' → Q (.inl (some (.int 0))) (K, n, zup I m 17 (4 : Int32), F, J')) :
    ∀ (d s : Nat) (ft : Bool) (J : Nat → Nat → Int64) (T : Nat → Int64), s + d = st.2.2.1.length → MS B K n I F J m A V T → (ft && fitF ra rb (st.2.2.1.drop s)) = fitF ra rb st.2.2.1 → (ft = true → ∀ i f, i < s → st.2.2.1[i]? = some f → T i = lN (sumN f ra rb)) →
    AW E m_Mo_takesUp (K, n, I, F, J) cb sb Q 50 [some (.ref m), some (.int (nI a)), some (.int (nI b)), some (.int (zB ft)), some (.int (nI s)), none, none, none, none, none] []
  | 0, s, ft, J, T, hs, h, hfit, hT => by
    have h4 := hL.1.1.2.2.1
    refine r_Mo_takesUp_50 ⟨h.K9, _, h.f (f := 5) (by decide), h.k (by decide), 3, rfl, by rw [h.sz (by decide)]; decide, by decide, ?_⟩
    rw [h.a (by decide), hL.2.1.2.2.1]
    rw [List.drop_of_length_le (by omega)] at hfit
    rw [fitF_nil, Bool.and_true] at hfit
    refine br_t ((nI_leI (by omega) (by omega)).mpr (by omega)) ⟨fun z => ?_, fun z => ?_⟩
    · have hft : ft = true := by
        cases ft
        · exact absurd rfl z
        · rfl
      exact w1 J T (by rw [← hft]; exact hfit.symm) h (fun i f hf => hT hft i f (by have := (List.getElem?_eq_some_iff.mp hf).1; omega) hf)
    · have hft : ft = false := (zB_0 ft).mp z
      exact w0 J T (by rw [← hft]; exact hfit.symm) h
  | d + 1, s, ft, J, T, hs, h, hfit, hT => by
    have h4 := hL.1.1.2.2.1
    have hsl : s < st.2.2.1.length := by omega
    obtain ⟨f, ef⟩ : ∃ f, st.2.2.1[s]? = some f := ⟨_, List.getElem?_eq_getElem hsl⟩
    have hsf := hL.2.2.2.2.1 s f ef
    have edr : st.2.2.1.drop s = f :: st.2.2.1.drop (s + 1) := by
      rw [List.drop_eq_getElem_cons hsl]
      congr 1
      exact Option.some.inj (by rw [← ef, List.getElem?_eq_getElem hsl])
    rw [edr, fitF_cons] at hfit
    obtain ⟨b1, b2⟩ := sumN_lt hsf.2.2.2.2.2 ra rb
    refine r_Mo_takesUp_50 ⟨h.K9, _, h.f (f := 5) (by decide), h.k (by decide), 3, rfl, by rw [h.sz (by decide)]; decide, by decide, ?_⟩
    rw [h.a (by decide), hL.2.1.2.2.1]
    refine br_f (nI_ge (by omega) (by omega)) ⟨_, h.1.2.2.2.1, mo_summed h hsf (by omega) ha hb (r_Mo_takesUp_75 ⟨h.1.2.2.2.2.1, s, rfl, by rw [h.1.2.2.2.2.2]; omega, by omega, ?_⟩)⟩
    have h2 := h.upJ s (if sumN f ra rb < 10 ^ f.2.2 then lN (sumN f ra rb) else (-1 : Int64))
    have rec9 : ∀ ft' : Bool, ft' = (ft && decide (sumN f ra rb < 10 ^ f.2.2)) → AW E m_Mo_takesUp (K, n, I, F, zup J (A 39) s (if sumN f ra rb < 10 ^ f.2.2 then lN (sumN f ra rb) else (-1 : Int64))) cb sb Q 50 [some (.ref m), some (.int (nI a)), some (.int (nI b)), some (.int (zB ft')), some (.int (nI s + (1 : Int32))), none, none, none, none, none] [] := fun ft' hft' => by
      rw [nI_1]
      refine mo_tuSL hL ha hb w1 w0 d (s + 1) ft' _ _ (by omega) h2 ?_ (fun q i g hi hg => ?_)
      · rw [← hfit, hft']
        by_cases c : sumN f ra rb < 10 ^ f.2.2
        · rw [if_pos c, decide_eq_true c, Bool.and_true]
        · rw [if_neg c, decide_eq_false c, Bool.and_false, Bool.false_and]
      · rw [hft'] at q
        have q' := Bool.and_eq_true_iff.mp q
        have c := of_decide_eq_true q'.2
        by_cases e : i = s
        · subst e
          rw [va_up_s, if_pos c, Option.some.inj (hg.symm.trans ef)]
        · rw [va_up_n _ _ e]; exact hT q'.1 i g (by omega) hg
    refine ⟨fun z => ?_, fun z => ⟨h.K9, _, h.1.2.2.2.1, h.1.2.2.2.2.1, s, rfl, by rw [h.1.2.2.2.2.2]; omega, by omega, ?_⟩⟩
    · have hft : ft = false := (zB_0 ft).mp z
      exact rec9 false (by rw [hft]; rfl)
    · have hft : ft = true := by
        cases ft
        · exact absurd rfl z
        · rfl
      rw [zup_s]
      have he := lg_cmp_eq (if sumN f ra rb < 10 ^ f.2.2 then lN (sumN f ra rb) else (-1 : Int64)) (-1 : Int64)
      by_cases c : sumN f ra rb < 10 ^ f.2.2
      · refine ⟨fun y => ?_, fun _ => rec9 true (by rw [hft, decide_eq_true c]; rfl)⟩
        have := he.mp y
        rw [if_pos c] at this
        have h9 : (lN (sumN f ra rb)).toInt = (-1 : Int64).toInt := by rw [this]
        rw [lN_toInt b1] at h9
        have : (-1 : Int64).toInt = -1 := by decide
        omega
      · refine ⟨fun _ => rec9 false (by rw [hft, decide_eq_false c]; rfl), fun y => absurd (he.mpr (by rw [if_neg c])) y⟩
theorem mo_takes {J : Nat → Nat → Int64} {T : Nat → Int64} {st : zStm} {a b mo : Nat} {ra rb : List Nat} (h : MS B K n I F J m A V T) (hL : mL V st) (ha : mRT V 19 20 a ra) (hb : mRT V 19 20 b rb) (ha1 : a < 150) (hb1 : b < 150) (h21 : V 21 a = nI mo) (h21b : V 21 b = nI 1)
    (w0 : tkS st ra rb = 0 → Q (.inl (some (.int 0))) (K, n, I, F, J))
    (w1 : ∀ I' J' T', tkS st ra rb = 1 → MS B K n I' F J' m A (zup V 0 17 (4 : Int32)) T' → Q (.inl (some (.int 0))) (K, n, I', F, J'))
    (w2 : ∀ I' J' T' V', tkS st ra rb = 2 → MS B K n I' F J' m A V' T' → mRT V' 19 20 a (takF st ra rb) → V' 21 a = nI (mo + 1) → (∀ f j, ¬ (f = 19 ∧ 100 * a ≤ j ∧ j < 100 * a + 100) → ¬ (f = 20 ∧ j = a) → ¬ (f = 21 ∧ j = a) → V' f j = V f j) → Q (.inl (some (.int 1))) (K, n, I', F, J')) :
    AW E m_Mo_takesUp (K, n, I, F, J) cb sb Q 0 [some (.ref m), some (.int (nI a)), some (.int (nI b)), none, none, none, none, none, none, none] [] := by
  have h6 := hL.1.1.1
  have h4 := hL.1.1.2.2.1
  unfold tkS at w0 w1 w2
  have e0 : ∀ {α : Type} (xs : List α), xs.length < 100 → (nI xs.length = 0 ↔ xs = []) := fun xs hx => by
    rw [← List.length_eq_zero_iff]
    exact nI_eq (b := 0) (by omega) (by omega)
  refine r_Mo_takesUp_0 ⟨h.K9, _, h.f (f := 5) (by decide), h.k (by decide), 1, rfl, by rw [h.sz (by decide)]; decide, by decide, ?_⟩
  rw [h.a (by decide), hL.2.1.1]
  refine ⟨fun z => w0 (if_pos (Or.inl ((e0 st.1 (by omega)).mp z))), fun z => ⟨3, rfl, by rw [h.sz (by decide)]; decide, by decide, ?_⟩⟩
  rw [hL.2.1.2.2.1]
  refine ⟨fun z2 => w0 (if_pos (Or.inr (Or.inl ((e0 st.2.2.1 (by omega)).mp z2)))), fun z2 => ⟨_, h.f (f := 19) (by decide), _, h.f (f := 20) (by decide), mo_byKeys h hL ha hb (r_Mo_takesUp_40 ⟨fun z3 => ?_, fun z3 => w0 (if_pos (Or.inr (Or.inr (fun y => z3 ((sgn_0 _).mpr y)))))⟩)⟩⟩
  have kn : ¬ (st.1 = [] ∨ st.2.2.1 = [] ∨ cmpR st.1 ra rb ≠ 0) := fun y => by
    rcases y with y | y | y
    · exact z ((e0 st.1 (by omega)).mpr y)
    · exact z2 ((e0 st.2.2.1 (by omega)).mpr y)
    · exact y ((sgn_0 _).mp z3)
  rw [if_neg kn] at w1 w2
  refine mo_tuSL hL ha hb (fun J' T' hfit h' hT => ?_) (fun J' T' hfit h' => ?_) st.2.2.1.length 0 true J T (by omega) h (by rw [Bool.true_and, List.drop_zero]) (fun _ i f hi => by omega)
  · rw [if_pos hfit] at w2
    exact mo_tuWL ha1 hb1 hL.1 hT st.2.2.1 0 ra I V rfl (by omega) h' ha hL.2.1.2.2.1 hL.2.2.2.2.1 h21 h21b (fun I2 V2 h2 r2 m2 f2 => w2 I2 J' T' V2 rfl h2 r2 m2 f2)
  · rw [if_neg (by rw [hfit]; decide)] at w1
    exact w1 _ J' T' rfl (h'.up0 17 4)
end
