-- ===== the reference: testing; what it holds of a text =====
def tsC (x : zTx) (L d q : Nat) : Option (List zTest) × Nat := if sat x L (sk x L q) = some 38 ∨ sat x L (sk x L q) = some 124 then testsF x L d (sat x L (sk x L q) == some 124) (sk x L q + 1) else (some [], sk x L q)
theorem testsF_s {x : zTx} {L d p : Nat} {b : Bool} : testsF x L (d + 1) b p = zbind (testP x L b p) fun t q => zbind (tsC x L d q) fun ts q => (some (t :: ts), q) := by
  conv => lhs; unfold testsF
  cases testP x L b p with
  | mk o q =>
  cases o with
  | none => rfl
  | some t =>
    simp only [zbind]
    unfold tsC
    split
    · rfl
    · rfl
def wyR (V : Nat → Nat → Int32) (i : Nat) (b : Bool) : Prop := V 8 (6 * i) = if b then 2 else 1
section
variable {E : zE} {B : (Nat → Nat → Int32) × (Nat → Nat → Int64)} {K n : Nat → Nat} {F : Nat → Nat → Option Nat} {J : Nat → Nat → Int64} {m : Nat} {A : Nat → Nat} {T : Nat → Int64} {cb sb : Nat} {Q : zO → zH → Prop} {x : zTx} {L : Nat}
theorem mo_tstL : ∀ (d c q : Nat) (I : Nat → Nat → Int32) (V : Nat → Nat → Int32), c + d = 10 → 1 ≤ c → q ≤ L → MS B K n I F J m A V T → mT V x L → V 0 3 = nI q → V 5 2 = nI c →
    (∀ q' I' V', tsC x L d q = (none, q') → MS B K n I' F J m A V' T → V' 0 3 = nI q' → pE V V' → Q (.inl (some (.int 0))) (K, n, I', F, J)) →
    (∀ ts q' I' V', tsC x L d q = (some ts, q') → MS B K n I' F J m A V' T → V' 0 3 = nI q' → V' 5 2 = nI (c + ts.length) → ts.length ≤ d → (∀ i t, ts[i]? = some t → tR V' (c + i) t ∧ wyR V' (c + i) t.1) → (∀ f j, ¬ (f = 0 ∧ j = 3) → ¬ (f = 5 ∧ j = 2) → ¬ (f = 8 ∧ 6 * c ≤ j) → ¬ (f = 11 ∧ 20 * c ≤ j ∧ j < 200) → V' f j = V f j) → q' ≤ L → Q (.inl (some (.int 1))) (K, n, I', F, J)) →
    AW E m_Mo_testing (K, n, I, F, J) cb sb Q 10 [some (.ref m), none] []
  | d, c, q, I, V, hcd, hc1, hqL, h, ht, hp, hc, w0, w1 => by
    have hk := sk_le (x := x) hqL
    have hb := fun u => @sat_b V x L (sk x L q) u ht
    have pV1 : pE V (zup V 0 3 (nI (sk x L q))) := (pE.refl V).up (Or.inl ⟨rfl, rfl⟩)
    have sg2 : ∀ {Q' : zO → zH → Prop} {I1 : Nat → Nat → Int32}, MS B K n I1 F J m A (zup V 0 3 (nI (sk x L q))) T → (∀ I2, MS B K n I2 F J m A (zup V 0 3 (nI (sk x L q))) T → Q' (.inl (some (.int (mO (sat x L (sk x L q)))))) (K, n, I2, F, J)) → AW E m_Mo_sign (K, n, I1, F, J) 0 0 Q' 0 [some (.ref m)] [] := fun {Q'} {I1} h1 w => by
      refine mo_sg h1 (pV1.mT ht) (zup_s _ _ _ _) hk.2 (fun I2 h2 => ?_)
      rw [zup2, sk_sk] at h2
      rw [sk_sk]
      exact w I2 h2
    unfold tsC at w0 w1
    -- a test more
    have more : sat x L (sk x L q) = some 38 ∨ sat x L (sk x L q) = some 124 → ∀ I1, MS B K n I1 F J m A (zup V 0 3 (nI (sk x L q))) T → AW E m_Mo_testing (K, n, I1, F, J) cb sb Q 32 [some (.ref m), none] [.int (mO (sat x L (sk x L q)))] := fun hor I1 h1 => by
      rw [if_pos hor] at w0 w1
      have hlt : sk x L q < L := by
        rcases hor with y | y
        · exact (sat_lx y).1
        · exact (sat_lx y).1
      have h2 := h1.up0 3 (nI (sk x L q + 1))
      rw [zup2] at h2
      have pV2 : pE V (zup V 0 3 (nI (sk x L q + 1))) := (pE.refl V).up (Or.inl ⟨rfl, rfl⟩)
      have pl : I1 m 3 + (1 : Int32) = nI (sk x L q + 1) := by rw [h1.o, zup_s, nI_1]
      have hc2 : zup V 0 3 (nI (sk x L q + 1)) 5 2 = nI c := by rw [zup_n _ _ _ (by decide)]; exact hc
      have tst : ∀ (b : Bool) (wy : Nat), (sat x L (sk x L q) == some 124) = b → nI wy = (if b then (2 : Int32) else 1) → AW E m_Mo_test (K, n, zup I1 m 3 (nI (sk x L q + 1)), F, J) 0 0 (zAft E m_Mo_testing cb sb Q 55 [some (.ref m), none] []) 0 [some (.ref m), some (.int (nI wy)), none, none, none] [] := fun b wy hbb hwy => by
        rw [hbb] at w0 w1
        refine mo_test (c := c) (b := b) h2 (pV2.mT ht) (zup_s _ _ _ _) (by omega) hc2 (by omega) (fun I3 V3 hcc h3 p3 hV3 => ?_) (fun q3 I3 V3 hcc e3 h3 p3 hV3 => ?_) (fun t q3 I3 V3 hcc e3 h3 p3 hc3 htb htr hwt hf3 hq3 => ?_)
        · have hd0 : d = 0 := by omega
          subst hd0
          refine r_Mo_testing_58 ⟨fun z => absurd rfl z, fun _ => w0 _ I3 V3 rfl h3 p3 (pV2.tr hV3)⟩
        · obtain ⟨d, rfl⟩ : ∃ d', d = d' + 1 := ⟨d - 1, by omega⟩
          rw [testsF_s, e3] at w0
          exact r_Mo_testing_58 ⟨fun z => absurd rfl z, fun _ => w0 _ I3 V3 rfl h3 p3 (pV2.tr hV3)⟩
        · obtain ⟨d, rfl⟩ : ∃ d', d = d' + 1 := ⟨d - 1, by omega⟩
          rw [testsF_s, e3] at w0 w1
          simp only [zbind] at w0 w1
          have pV3 : pE V V3 := fun f j a b => by rw [hf3 f j a (by omega) (by omega) (by omega), zup_at, if_neg a]
          refine r_Mo_testing_58 ⟨fun _ => mo_tstL d (c + 1) q3 I3 V3 (by omega) (by omega) hq3 h3 (pV3.mT ht) p3 hc3 (fun q4 I4 V4 e4 h4 p4 hV4 => ?_) (fun ts q4 I4 V4 e4 h4 p4 hc4 hl4 hr4 hf4 hq4 => ?_), fun z => absurd z (by decide)⟩
          · rw [e4] at w0
            exact w0 q4 I4 V4 rfl h4 p4 (pV3.tr hV4)
          · rw [e4] at w1
            refine w1 (t :: ts) q4 I4 V4 rfl h4 p4 (by rw [hc4]; congr 1; simp; omega) (by simp; omega) (fun i t' ht' => ?_) (fun f j a1 a2 a3 a4 => ?_) hq4
            · cases i with
              | zero =>
                have et := Option.some.inj ht'
                rw [← et]
                refine ⟨htr.fr (fun j hj => hf4 8 j (by omega) (by omega) (by omega) (by omega)) (fun j hj => hf4 11 j (by omega) (by omega) (by omega) (by omega)), ?_⟩
                show V4 8 (6 * (c + 0)) = _
                rw [Nat.add_zero, hf4 8 (6 * c) (by omega) (by omega) (by omega) (by omega), hwt, hwy, htb]
              | succ i =>
                have ht'' : ts[i]? = some t' := by simpa using ht'
                have := hr4 i t' ht''
                rw [show c + 1 + i = c + (i + 1) by omega] at this
                exact this
            · rw [hf4 f j a1 a2 (fun z => a3 ⟨z.1, by omega⟩) (fun z => a4 ⟨z.1, by omega, z.2.2⟩), hf3 f j a1 a2 a3 (fun z => a4 ⟨z.1, z.2.1, by omega⟩), zup_at, if_neg a1]
      refine r_Mo_testing_32 ⟨fun z => ⟨h1.K9, ?_⟩, fun z => ⟨h1.K9, ?_⟩⟩
      · rw [pl]
        refine tst true 2 ?_ rfl
        rcases hor with y | y
        · exact absurd ((mO_eq (c := 38) hb (by omega)).mpr y) z
        · rw [y]; rfl
      · rw [pl]
        refine tst false 1 ?_ rfl
        rw [(mO_eq (c := 38) hb (by omega)).mp z]; rfl
    refine r_Mo_testing_10 ⟨h.K9, mo_sg h ht hp hqL (fun I1 h1 => ?_)⟩
    refine r_Mo_testing_14 ⟨fun z => ⟨h1.K9, sg2 h1 (fun I2 h2 => more (Or.inl ((mO_eq (c := 38) hb (by omega)).mp z)) I2 h2)⟩, fun z => ⟨h1.K9, sg2 h1 (fun I2 h2 => r_Mo_testing_23 ⟨fun z2 => ?_, fun z2 => ⟨h2.K9, sg2 h2 (fun I3 h3 => more (Or.inr ((mO_eq (c := 124) hb (by omega)).mp z2)) I3 h3)⟩⟩)⟩⟩
    have hno : ¬ (sat x L (sk x L q) = some 38 ∨ sat x L (sk x L q) = some 124) := fun y => by
      rcases y with y | y
      · exact z ((mO_eq (c := 38) hb (by omega)).mpr y)
      · exact z2 ((mO_eq (c := 124) hb (by omega)).mpr y)
    rw [if_neg hno] at w1
    exact w1 [] _ I2 _ rfl h2 (zup_s _ _ _ _) (by rw [zup_n _ _ _ (by decide)]; exact hc) (by simp) (fun i t hi => by simp at hi) (fun f j a1 _ _ _ => by rw [zup_at, if_neg a1]) hk.2
/-- testing() -/
theorem mo_testing {p : Nat} {I : Nat → Nat → Int32} {V : Nat → Nat → Int32} (h : MS B K n I F J m A V T) (ht : mT V x L) (hp : V 0 3 = nI p) (hpL : p ≤ L) (hc : V 5 2 = nI 0)
    (w0 : ∀ q' I' V', testsF x L 10 false p = (none, q') → MS B K n I' F J m A V' T → V' 0 3 = nI q' → pE V V' → Q (.inl (some (.int 0))) (K, n, I', F, J))
    (w1 : ∀ ts q' I' V', testsF x L 10 false p = (some ts, q') → MS B K n I' F J m A V' T → V' 0 3 = nI q' → V' 5 2 = nI ts.length → ts.length ≤ 10 → 1 ≤ ts.length → (∀ i t, ts[i]? = some t → tR V' i t ∧ (1 ≤ i → wyR V' i t.1)) → (∀ f j, ¬ (f = 0 ∧ j = 3) → ¬ (f = 5 ∧ j = 2) → f ≠ 8 → ¬ (f = 11 ∧ j < 200) → V' f j = V f j) → q' ≤ L → Q (.inl (some (.int 1))) (K, n, I', F, J)) :
    AW E m_Mo_testing (K, n, I, F, J) cb sb Q 0 [some (.ref m), none] [] := by
  rw [testsF_s] at w0 w1
  refine r_Mo_testing_0 ⟨h.K9, mo_test (c := 0) (wy := 0) (b := false) h ht hp hpL hc (by omega) (fun I3 V3 hcc => by omega) (fun q3 I3 V3 hcc e3 h3 p3 hV3 => ?_) (fun t q3 I3 V3 hcc e3 h3 p3 hc3 htb htr hwt hf3 hq3 => ?_)⟩
  · rw [e3] at w0
    exact r_Mo_testing_5 ⟨fun z => absurd rfl z, fun _ => w0 _ I3 V3 rfl h3 p3 hV3⟩
  · rw [e3] at w0 w1
    simp only [zbind] at w0 w1
    have pV3 : pE V V3 := fun f j a b => hf3 f j a (by omega) (by omega) (by omega)
    refine r_Mo_testing_5 ⟨fun _ => mo_tstL 9 1 q3 I3 V3 (by omega) (by omega) hq3 h3 (pV3.mT ht) p3 hc3 (fun q4 I4 V4 e4 h4 p4 hV4 => ?_) (fun ts q4 I4 V4 e4 h4 p4 hc4 hl4 hr4 hf4 hq4 => ?_), fun z => absurd z (by decide)⟩
    · rw [e4] at w0
      exact w0 q4 I4 V4 rfl h4 p4 (pV3.tr hV4)
    · rw [e4] at w1
      refine w1 (t :: ts) q4 I4 V4 rfl h4 p4 (by rw [hc4]; congr 1; simp; omega) (by simp; omega) (by simp) (fun i t' ht' => ?_) (fun f j a1 a2 a3 a4 => ?_) hq4
      · cases i with
        | zero =>
          have et := Option.some.inj ht'
          rw [← et]
          exact ⟨htr.fr (fun j hj => hf4 8 j (by omega) (by omega) (by omega) (by omega)) (fun j hj => hf4 11 j (by omega) (by omega) (by omega) (by omega)), fun z => by omega⟩
        | succ i =>
          have ht'' : ts[i]? = some t' := by simpa using ht'
          have := hr4 i t' ht''
          rw [show 1 + i = i + 1 by omega] at this
          exact ⟨this.1, fun _ => this.2⟩
      · rw [hf4 f j a1 a2 (fun z => a3 z.1) (fun z => a4 ⟨z.1, z.2.2⟩), hf3 f j a1 a2 (fun z => a3 z.1) (fun z => a4 ⟨z.1, by omega⟩)]
end
