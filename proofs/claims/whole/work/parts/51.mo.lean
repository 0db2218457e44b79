-- ===== the reference: read() =====
/-- the first i arrays are kept -/
def KO (i : Nat) (V V' : Nat → Nat → Int32) : Prop := (∀ f j, ¬ (31 ≤ f ∧ f < 31 + i) → V' f j = V f j) ∧ ∀ f j, 4 ≤ f → f < 4 + i → j < asz (f + 27) → V' (f + 27) j = V f j
theorem KO.zero (V : Nat → Nat → Int32) : KO 0 V V := ⟨fun _ _ _ => rfl, fun f j h1 h2 => by omega⟩
theorem KO.step {i : Nat} {V V1 V2 : Nat → Nat → Int32} (hi : i < 8) (h : KO i V V1) (hf : ∀ h j, ¬ (h = 31 + i ∧ j < asz (31 + i)) → V2 h j = V1 h j) (hv : ∀ j, j < asz (31 + i) → V2 (31 + i) j = V1 (4 + i) j) : KO (i + 1) V V2 := by
  refine ⟨fun f j a => ?_, fun f j h1 h2 hj => ?_⟩
  · rw [hf f j (by omega)]; exact h.1 f j (by omega)
  · by_cases e : f = 4 + i
    · subst e
      rw [show 4 + i + 27 = 31 + i by omega] at hj ⊢
      rw [hv j hj]; exact h.1 _ j (by omega)
    · rw [hf (f + 27) j (by omega)]; exact h.2 f j h1 (by omega) hj
def TO (i : Nat) (V V' : Nat → Nat → Int32) : Prop := (∀ f j, ¬ (4 ≤ f ∧ f < 4 + i) → V' f j = V f j) ∧ ∀ f j, 4 ≤ f → f < 4 + i → j < asz (f + 27) → V' f j = V (f + 27) j
theorem TO.zero (V : Nat → Nat → Int32) : TO 0 V V := ⟨fun _ _ _ => rfl, fun f j h1 h2 => by omega⟩
theorem TO.step {i : Nat} {V V1 V2 : Nat → Nat → Int32} (hi : i < 8) (h : TO i V V1) (hf : ∀ h j, ¬ (h = 4 + i ∧ j < asz (31 + i)) → V2 h j = V1 h j) (hv : ∀ j, j < asz (31 + i) → V2 (4 + i) j = V1 (31 + i) j) : TO (i + 1) V V2 := by
  refine ⟨fun f j a => ?_, fun f j h1 h2 hj => ?_⟩
  · rw [hf f j (by omega)]; exact h.1 f j (by omega)
  · by_cases e : f = 4 + i
    · subst e
      rw [show 4 + i + 27 = 31 + i by omega] at hj ⊢
      rw [hv j hj]; exact h.1 _ j (by omega)
    · rw [hf f j (by omega)]; exact h.2 f j h1 (by omega) hj
section
variable {E : zE} {B : (Nat → Nat → Int32) × (Nat → Nat → Int64)} {K n : Nat → Nat} {F : Nat → Nat → Option Nat} {J : Nat → Nat → Int64} {m : Nat} {A : Nat → Nat} {T : Nat → Int64} {cb sb : Nat} {Q : zO → zH → Prop} {x : zTx} {L : Nat}
theorem mo_moveL {f g N : Nat} (hf : 0 < asz f) (hg : 0 < asz g) (hfg : f ≠ g) (hNf : N ≤ asz f) (hNg : N ≤ asz g) (hN : N < 100000) : ∀ (d i : Nat) (I : Nat → Nat → Int32) (V : Nat → Nat → Int32), i + d = N → MS B K n I F J m A V T →
    (∀ I' V', MS B K n I' F J m A V' T → (∀ h j, ¬ (h = g ∧ i ≤ j ∧ j < N) → V' h j = V h j) → (∀ j, i ≤ j → j < N → V' g j = V f j) → Q (.inl none) (K, n, I', F, J)) →
    AW E m_Mo_move (K, n, I, F, J) cb sb Q 2 [some (.ref (A f)), some (.ref (A g)), some (.int (nI N)), some (.int (nI i))] []
  | 0, i, I, V, hi, h, w => r_Mo_move_2 (br_t ((nI_leI (by omega) (by omega)).mpr (by omega)) (w I V h (fun _ _ _ => rfl) (fun j h1 h2 => by omega)))
  | d + 1, i, I, V, hi, h, w => by
    refine r_Mo_move_2 (br_f (nI_ge (by omega) (by omega)) ⟨h.k hf, i, rfl, by rw [h.sz hf]; omega, by omega, h.k hg, i, rfl, by rw [h.sz hg]; omega, by omega, ?_⟩)
    rw [h.a hf, nI_1]
    refine mo_moveL hf hg hfg hNf hNg hN d (i + 1) _ _ (by omega) (h.up hg i (V f i)) (fun I' V' h' f' v' => w I' V' h' (fun k j a => ?_) (fun j h1 h2 => ?_))
    · rw [f' k j (fun z => a ⟨z.1, by omega, z.2.2⟩), zup_at, if_neg (fun z => a ⟨z.1, by omega, by omega⟩)]
    · by_cases e : j = i
      · subst e; rw [f' g j (fun z => by omega), zup_s]
      · rw [v' j (by omega) h2, zup_n _ _ _ hfg]
theorem mo_move {f g N : Nat} {I : Nat → Nat → Int32} {V : Nat → Nat → Int32} (hf : 0 < asz f) (hg : 0 < asz g) (hfg : f ≠ g) (hNf : N ≤ asz f) (hNg : N ≤ asz g) (hN : N < 100000) (h : MS B K n I F J m A V T)
    (w : ∀ I' V', MS B K n I' F J m A V' T → (∀ h j, ¬ (h = g ∧ j < N) → V' h j = V h j) → (∀ j, j < N → V' g j = V f j) → Q (.inl none) (K, n, I', F, J)) :
    AW E m_Mo_move (K, n, I, F, J) cb sb Q 0 [some (.ref (A f)), some (.ref (A g)), some (.int (nI N)), none] [] :=
  r_Mo_move_0 (mo_moveL hf hg hfg hNf hNg hN N 0 I V (by omega) h (fun I' V' h' f' v' => w I' V' h' (fun k j a => f' k j (fun z => a ⟨z.1, z.2.2⟩)) (fun j hj => v' j (by omega) hj)))
theorem mo_keepOld {I : Nat → Nat → Int32} {V : Nat → Nat → Int32} (h : MS B K n I F J m A V T)
    (w : ∀ I' V', MS B K n I' F J m A V' T → (∀ f j, ¬ (31 ≤ f ∧ f ≤ 38) → V' f j = V f j) → (∀ f j, 4 ≤ f → f ≤ 11 → j < asz (f + 27) → V' (f + 27) j = V f j) → Q (.inl none) (K, n, I', F, J)) :
    AW E m_Mo_keepOld (K, n, I, F, J) cb sb Q 0 [some (.ref m)] [] := by
  refine r_Mo_keepOld_0 ⟨h.K9, _, h.f (f := 4) (by decide), _, h.f (f := 31) (by decide), mo_move (f := 4) (g := 31) (N := asz 31) (by decide) (by decide) (by decide) (by decide) (by decide) (by decide) h (fun I1 V1 h1 f1 v1 => ?_)⟩
  have k1 := KO.step (i := 0) (by omega) (KO.zero V) f1 v1
  refine r_Mo_keepOld_13 ⟨h1.K9, _, h1.f (f := 5) (by decide), _, h1.f (f := 32) (by decide), mo_move (f := 5) (g := 32) (N := asz 32) (by decide) (by decide) (by decide) (by decide) (by decide) (by decide) h1 (fun I2 V2 h2 f2 v2 => ?_)⟩
  have k2 := KO.step (i := 1) (by omega) k1 f2 v2
  refine r_Mo_keepOld_25 ⟨h2.K9, _, h2.f (f := 6) (by decide), _, h2.f (f := 33) (by decide), mo_move (f := 6) (g := 33) (N := asz 33) (by decide) (by decide) (by decide) (by decide) (by decide) (by decide) h2 (fun I3 V3 h3 f3 v3 => ?_)⟩
  have k3 := KO.step (i := 2) (by omega) k2 f3 v3
  refine r_Mo_keepOld_37 ⟨h3.K9, _, h3.f (f := 7) (by decide), _, h3.f (f := 34) (by decide), mo_move (f := 7) (g := 34) (N := asz 34) (by decide) (by decide) (by decide) (by decide) (by decide) (by decide) h3 (fun I4 V4 h4 f4 v4 => ?_)⟩
  have k4 := KO.step (i := 3) (by omega) k3 f4 v4
  refine r_Mo_keepOld_50 ⟨h4.K9, _, h4.f (f := 8) (by decide), _, h4.f (f := 35) (by decide), mo_move (f := 8) (g := 35) (N := asz 35) (by decide) (by decide) (by decide) (by decide) (by decide) (by decide) h4 (fun I5 V5 h5 f5 v5 => ?_)⟩
  have k5 := KO.step (i := 4) (by omega) k4 f5 v5
  refine r_Mo_keepOld_63 ⟨h5.K9, _, h5.f (f := 9) (by decide), _, h5.f (f := 36) (by decide), mo_move (f := 9) (g := 36) (N := asz 36) (by decide) (by decide) (by decide) (by decide) (by decide) (by decide) h5 (fun I6 V6 h6 f6 v6 => ?_)⟩
  have k6 := KO.step (i := 5) (by omega) k5 f6 v6
  refine r_Mo_keepOld_76 ⟨h6.K9, _, h6.f (f := 10) (by decide), _, h6.f (f := 37) (by decide), mo_move (f := 10) (g := 37) (N := asz 37) (by decide) (by decide) (by decide) (by decide) (by decide) (by decide) h6 (fun I7 V7 h7 f7 v7 => ?_)⟩
  have k7 := KO.step (i := 6) (by omega) k6 f7 v7
  refine r_Mo_keepOld_89 ⟨h7.K9, _, h7.f (f := 11) (by decide), _, h7.f (f := 38) (by decide), mo_move (f := 11) (g := 38) (N := asz 38) (by decide) (by decide) (by decide) (by decide) (by decide) (by decide) h7 (fun I8 V8 h8 f8 v8 => ?_)⟩
  have k8 := KO.step (i := 7) (by omega) k7 f8 v8
  exact r_Mo_keepOld_103 (w I8 V8 h8 (fun f j hf => k8.1 f j (by omega)) (fun f j hf hf2 hj => k8.2 f j hf (by omega) hj))
theorem mo_takeOld {I : Nat → Nat → Int32} {V : Nat → Nat → Int32} (h : MS B K n I F J m A V T)
    (w : ∀ I' V', MS B K n I' F J m A V' T → (∀ f j, ¬ (4 ≤ f ∧ f ≤ 11) → V' f j = V f j) → (∀ f j, 4 ≤ f → f ≤ 11 → j < asz (f + 27) → V' f j = V (f + 27) j) → Q (.inl none) (K, n, I', F, J)) :
    AW E m_Mo_takeOld (K, n, I, F, J) cb sb Q 0 [some (.ref m)] [] := by
  refine r_Mo_takeOld_0 ⟨h.K9, _, h.f (f := 31) (by decide), _, h.f (f := 4) (by decide), mo_move (f := 31) (g := 4) (N := asz 31) (by decide) (by decide) (by decide) (by decide) (by decide) (by decide) h (fun I1 V1 h1 f1 v1 => ?_)⟩
  have k1 := TO.step (i := 0) (by omega) (TO.zero V) f1 v1
  refine r_Mo_takeOld_13 ⟨h1.K9, _, h1.f (f := 32) (by decide), _, h1.f (f := 5) (by decide), mo_move (f := 32) (g := 5) (N := asz 32) (by decide) (by decide) (by decide) (by decide) (by decide) (by decide) h1 (fun I2 V2 h2 f2 v2 => ?_)⟩
  have k2 := TO.step (i := 1) (by omega) k1 f2 v2
  refine r_Mo_takeOld_25 ⟨h2.K9, _, h2.f (f := 33) (by decide), _, h2.f (f := 6) (by decide), mo_move (f := 33) (g := 6) (N := asz 33) (by decide) (by decide) (by decide) (by decide) (by decide) (by decide) h2 (fun I3 V3 h3 f3 v3 => ?_)⟩
  have k3 := TO.step (i := 2) (by omega) k2 f3 v3
  refine r_Mo_takeOld_37 ⟨h3.K9, _, h3.f (f := 34) (by decide), _, h3.f (f := 7) (by decide), mo_move (f := 34) (g := 7) (N := asz 34) (by decide) (by decide) (by decide) (by decide) (by decide) (by decide) h3 (fun I4 V4 h4 f4 v4 => ?_)⟩
  have k4 := TO.step (i := 3) (by omega) k3 f4 v4
  refine r_Mo_takeOld_50 ⟨h4.K9, _, h4.f (f := 35) (by decide), _, h4.f (f := 8) (by decide), mo_move (f := 35) (g := 8) (N := asz 35) (by decide) (by decide) (by decide) (by decide) (by decide) (by decide) h4 (fun I5 V5 h5 f5 v5 => ?_)⟩
  have k5 := TO.step (i := 4) (by omega) k4 f5 v5
  refine r_Mo_takeOld_63 ⟨h5.K9, _, h5.f (f := 36) (by decide), _, h5.f (f := 9) (by decide), mo_move (f := 36) (g := 9) (N := asz 36) (by decide) (by decide) (by decide) (by decide) (by decide) (by decide) h5 (fun I6 V6 h6 f6 v6 => ?_)⟩
  have k6 := TO.step (i := 5) (by omega) k5 f6 v6
  refine r_Mo_takeOld_76 ⟨h6.K9, _, h6.f (f := 37) (by decide), _, h6.f (f := 10) (by decide), mo_move (f := 37) (g := 10) (N := asz 37) (by decide) (by decide) (by decide) (by decide) (by decide) (by decide) h6 (fun I7 V7 h7 f7 v7 => ?_)⟩
  have k7 := TO.step (i := 6) (by omega) k6 f7 v7
  refine r_Mo_takeOld_89 ⟨h7.K9, _, h7.f (f := 38) (by decide), _, h7.f (f := 11) (by decide), mo_move (f := 38) (g := 11) (N := asz 38) (by decide) (by decide) (by decide) (by decide) (by decide) (by decide) h7 (fun I8 V8 h8 f8 v8 => ?_)⟩
  have k8 := TO.step (i := 7) (by omega) k7 f8 v8
  exact r_Mo_takeOld_103 (w I8 V8 h8 (fun f j hf => k8.1 f j (by omega)) (fun f j hf hf2 hj => k8.2 f j hf (by omega) hj))
/-- the loop of read(): what it leaves, before the old is taken back -/
theorem mo_readL : ∀ (d p mq : Nat) (b : Nat → Bool) (st : zStm) (I : Nat → Nat → Int32) (V : Nat → Nat → Int32), L < p + d → p ≤ L → MS B K n I F J m A V T → mT V x L → V 0 3 = nI p → mB V b st → mkB b mq →
    (∀ s q I' V', allF x L d mq st p = (some s, q) → MS B K n I' F J m A V' T → V' 0 2 = 0 → mSt V' s → (∀ f j, ¬ (f = 0 ∧ (j = 2 ∨ j = 3)) → ¬ (4 ≤ f ∧ f ≤ 11) → V' f j = V f j) → Q (.inl (some (.int (nI s.2.2.2.2.2.2.2)))) (K, n, I', F, J)) →
    (∀ q I1 V1, allF x L d mq st p = (none, q) → MS B K n I1 F J m A V1 T → V1 0 2 = 0 → (∀ f j, ¬ (f = 0 ∧ (j = 2 ∨ j = 3)) → ¬ (4 ≤ f ∧ f ≤ 11) → V1 f j = V f j) → AW E m_Mo_takeOld (K, n, I1, F, J) 0 0 (zAft E m_Mo_read cb sb Q 99 [none, none, some (.int (nI q))] []) 0 [some (.ref m)] []) →
    AW E m_Mo_read (K, n, I, F, J) cb sb Q 57 [some (.ref m), some (.int (1 : Int32)), none] []
  | 0, p, mq, b, st, I, V, hd, hpL, h, ht, hp, hS, hM, w1, w0 => by omega
  | d + 1, p, mq, b, st, I, V, hd, hpL, h, ht, hp, hS, hM, w1, w0 => by
    have hk := sk_le (x := x) hpL
    refine r_Mo_read_57 ⟨fun z => absurd z (by decide), fun _ => ⟨h.K9, mo_sg h ht hp hpL (fun I1 h1 => ?_)⟩⟩
    have pV1 : pE V (zup V 0 3 (nI (sk x L p))) := (pE.refl V).up (Or.inl ⟨rfl, rfl⟩)
    have hS1 : mB (zup V 0 3 (nI (sk x L p))) b st := hS.ext (fun j _ => by rw [zup_n _ _ _ (by decide)]) (fun j _ => by rw [zup_n _ _ _ (by decide)]) (fun j _ => by rw [zup_n _ _ _ (by decide)]) (fun j _ => by rw [zup_n _ _ _ (by decide)]) (fun j _ => by rw [zup_n _ _ _ (by decide)]) (fun j _ => by rw [zup_n _ _ _ (by decide)]) (fun j _ => by rw [zup_n _ _ _ (by decide)]) (fun j _ => by rw [zup_n _ _ _ (by decide)])
    by_cases hlt : sk x L p < L
    · have es : sat x L (sk x L p) = some (x (sk x L p)) := if_pos hlt
      have hxb := (ht.2.2 _ hlt).2
      rw [es]
      refine r_Mo_read_65 ⟨fun z => absurd z (nI_m1 hxb), fun _ => ⟨h1.K9, ?_⟩⟩
      have eA : allF x L (d + 1) mq st p = zbind (stmP x L mq st (sk x L p)) fun ks q => allF x L d (mq ||| zwb ks.1) (stm1 ks.2) q := by
        conv => lhs; unfold allF
        rw [if_pos hlt]
        unfold stmP
        cases wordP x L mq (sk x L p) with
        | mk o q =>
        cases o with
        | none => rfl
        | some k =>
          simp only [zbind]
          cases sayP x L k st q with
          | mk o2 q2 =>
          cases o2 with
          | none => rfl
          | some s =>
            simp only
            cases tkP x L [59] q2 with
            | mk o3 q3 => cases o3 <;> rfl
      rw [eA] at w1 w0
      refine mo_stm (p := sk x L p) h1 (pV1.mT ht) (zup_s _ _ _ _) hlt hS1 hM (fun q2 I2 V2 e2 h2 p2 hV2 => ?_) (fun k s q2 I2 V2 e2 h2 p2 hV2 hS2 hM2 hq2 => ?_)
      · rw [e2] at w0
        simp only [zbind] at w0
        refine r_Mo_read_73 (r_Mo_read_57 ⟨fun _ => ⟨h2.K9, ⟨fun _ => ?_, fun z => absurd rfl z⟩⟩, fun z => absurd rfl z⟩)
        rw [h2.o, p2]
        refine w0 q2 _ _ rfl (h2.up0 2 (0 : Int32)) (zup_s _ _ _ _) (fun f j a1 a2 => ?_)
        rw [zup_at, if_neg (fun z => a1 ⟨z.1, Or.inl z.2⟩), hV2 f j (by omega) (by omega), pV1 f j (by omega) (by omega)]
      · rw [e2] at w1 w0
        simp only [zbind] at w1 w0
        have hgt : sk x L p < q2 := by
          unfold stmP at e2
          rw [wordP_eq] at e2
          have hl := lwF_le (x := x) (L := L) (L - sk x L p) (sk x L p) (by omega)
          generalize lwF x L (L - sk x L p) (sk x L p) = q9 at hl e2
          cases hw : wdN x (sk x L p) q9 with
          | none => rw [hw] at e2; simp only [zbind] at e2; cases e2
          | some w =>
            rw [hw] at e2
            dsimp only at e2
            by_cases hf : mq &&& zwb w = 0
            · rw [if_pos hf] at e2
              simp only [zbind] at e2
              have h3 := ok_say (x := x) (L := L) (k := w) (st := st) hl.2
              cases hs : sayP x L w st q9 with
              | mk o3 q3 =>
              rw [hs] at e2 h3
              cases o3 with
              | none => dsimp only at e2; cases e2
              | some s3 =>
                dsimp only at e2
                unfold okP at h3
                dsimp only at h3
                have h4 := tkP_le (x := x) (L := L) (cs := [59]) h3.2
                cases ht4 : tkP x L [59] q3 with
                | mk o4 q4 =>
                rw [ht4] at e2 h4
                cases o4 with
                | none => dsimp only at e2; cases e2
                | some u =>
                  dsimp only at e2 h4
                  have e3 := (Prod.mk.inj e2).2
                  have := (h4.2 u rfl).2
                  omega
            · rw [if_neg hf] at e2
              simp only [zbind] at e2; cases e2
        have pV2 : pE V V2 := pV1.tr hV2
        refine r_Mo_read_73 (mo_readL d q2 _ _ (stm1 s) I2 V2 (by omega) hq2 h2 (pV2.mT ht) p2 hS2 hM2 (fun s3 q3 I3 V3 e3 h3 l3 hS3 hf3 => w1 s3 q3 I3 V3 e3 h3 l3 hS3 (fun f j a1 a2 => ?_)) (fun q3 I3 V3 e3 h3 l3 hf3 => w0 q3 I3 V3 e3 h3 l3 (fun f j a1 a2 => ?_)))
        · rw [hf3 f j a1 a2, pV2 f j (by omega) (by omega)]
        · rw [hf3 f j a1 a2, pV2 f j (by omega) (by omega)]
    · have es : sat x L (sk x L p) = none := if_neg hlt
      rw [es]
      have eA : allF x L (d + 1) mq st p = (some st, sk x L p) := by
        conv => lhs; unfold allF
        rw [if_neg hlt]
      rw [eA] at w1
      have h2 := h1.up0 2 (0 : Int32)
      refine r_Mo_read_65 ⟨fun _ => ⟨h1.K9, ⟨fun z => absurd z (by decide), fun _ => ⟨_, h1.f (f := 5) (by decide), h1.k (by decide), 0, rfl, by rw [h1.sz (by decide)]; decide, by decide, ?_⟩⟩⟩, fun z => absurd rfl z⟩
      rw [h2.a (by decide), zup_n _ _ _ (by decide), hS1.2.2.2.2]
      refine w1 st _ _ _ rfl h2 (zup_s _ _ _ _) ⟨b, hS1.ext (fun j _ => by rw [zup_n _ _ _ (by decide)]) (fun j _ => by rw [zup_n _ _ _ (by decide)]) (fun j _ => by rw [zup_n _ _ _ (by decide)]) (fun j _ => by rw [zup_n _ _ _ (by decide)]) (fun j _ => by rw [zup_n _ _ _ (by decide)]) (fun j _ => by rw [zup_n _ _ _ (by decide)]) (fun j _ => by rw [zup_n _ _ _ (by decide)]) (fun j _ => by rw [zup_n _ _ _ (by decide)])⟩ (fun f j a1 a2 => ?_)
      rw [zup_at, if_neg (fun z => a1 ⟨z.1, Or.inl z.2⟩), zup_at, if_neg (fun z => a1 ⟨z.1, Or.inr z.2⟩)]
/-- words and counts at 0 -/
theorem mo_rd0L : ∀ (d i : Nat) (I : Nat → Nat → Int32) (V : Nat → Nat → Int32), i + d = 5 → MS B K n I F J m A V T → (∀ j, j < i → V 5 j = 0) →
    (∀ I' V', MS B K n I' F J m A V' T → (∀ j, j < 5 → V' 5 j = 0) → (∀ f j, f ≠ 5 → V' f j = V f j) → AW E m_Mo_read (K, n, I', F, J) cb sb Q 57 [some (.ref m), some (.int (1 : Int32)), none] []) →
    AW E m_Mo_read (K, n, I, F, J) cb sb Q 37 [some (.ref m), some (.int (nI i)), none] []
  | 0, i, I, V, hi, h, h0, w => r_Mo_read_37 (br_t ((nI_leI (a := 5) (b := i) (by omega) (by omega)).mpr (by omega)) (w I V h (fun j hj => h0 j (by omega)) (fun _ _ _ => rfl)))
  | d + 1, i, I, V, hi, h, h0, w => by
    refine r_Mo_read_37 (br_f (nI_ge (a := i) (b := 5) (by omega) (by omega)) ⟨h.K9, _, h.f (f := 5) (by decide), h.k (by decide), i, rfl, by rw [h.sz (by decide)]; show i < 10; omega, by omega, ?_⟩)
    rw [nI_1]
    refine mo_rd0L d (i + 1) _ _ (by omega) (h.up (f := 5) (by decide) i 0) (fun j hj => ?_) (fun I' V' h' a1 a2 => w I' V' h' a1 (fun f j hf => ?_))
    · rw [zup_at]
      by_cases e : j = i
      · rw [if_pos ⟨rfl, e⟩]
      · rw [if_neg (fun z => e z.2)]; exact h0 j (by omega)
    · rw [a2 f j hf, zup_n _ _ _ hf]
theorem mo_rdwL : ∀ (d i : Nat) (I : Nat → Nat → Int32) (V : Nat → Nat → Int32), i + d = 7 → MS B K n I F J m A V T → (∀ j, j < i → V 4 j = 0) →
    (∀ I' V', MS B K n I' F J m A V' T → (∀ j, j < 7 → V' 4 j = 0) → (∀ f j, f ≠ 4 → V' f j = V f j) → AW E m_Mo_read (K, n, I', F, J) cb sb Q 37 [some (.ref m), some (.int (0 : Int32)), none] []) →
    AW E m_Mo_read (K, n, I, F, J) cb sb Q 16 [some (.ref m), some (.int (nI i)), none] []
  | 0, i, I, V, hi, h, h0, w => r_Mo_read_16 (br_t ((nI_leI (a := 7) (b := i) (by omega) (by omega)).mpr (by omega)) (w I V h (fun j hj => h0 j (by omega)) (fun _ _ _ => rfl)))
  | d + 1, i, I, V, hi, h, h0, w => by
    refine r_Mo_read_16 (br_f (nI_ge (a := i) (b := 7) (by omega) (by omega)) ⟨h.K9, _, h.f (f := 4) (by decide), h.k (by decide), i, rfl, by rw [h.sz (by decide)]; show i < 14; omega, by omega, ?_⟩)
    rw [nI_1]
    refine mo_rdwL d (i + 1) _ _ (by omega) (h.up (f := 4) (by decide) i 0) (fun j hj => ?_) (fun I' V' h' a1 a2 => w I' V' h' a1 (fun f j hf => ?_))
    · rw [zup_at]
      by_cases e : j = i
      · rw [if_pos ⟨rfl, e⟩]
      · rw [if_neg (fun z => e z.2)]; exact h0 j (by omega)
    · rw [a2 f j hf, zup_n _ _ _ hf]
/-- read() -/
theorem mo_read {I : Nat → Nat → Int32} {V : Nat → Nat → Int32} {st : zStm} (h : MS B K n I F J m A V T) (ht : mT V x L) (hS : mSt V st)
    (w1 : ∀ s q I' V', readP x L = (some s, q) → MS B K n I' F J m A V' T → V' 0 2 = 0 → mSt V' s → (∀ f j, ¬ (f = 0 ∧ (j = 0 ∨ j = 2 ∨ j = 3)) → ¬ (4 ≤ f ∧ f ≤ 11) → ¬ (31 ≤ f ∧ f ≤ 38) → V' f j = V f j) → Q (.inl (some (.int (nI s.2.2.2.2.2.2.2)))) (K, n, I', F, J))
    (w2 : ∀ q I' V', readP x L = (none, q) → MS B K n I' F J m A V' T → V' 0 2 = 0 → mSt V' st → (∀ f j, ¬ (f = 0 ∧ (j = 0 ∨ j = 2 ∨ j = 3)) → ¬ (4 ≤ f ∧ f ≤ 11) → ¬ (31 ≤ f ∧ f ≤ 38) → V' f j = V f j) → Q (.inl (some (.int ((-1 : Int32) - nI q)))) (K, n, I', F, J)) :
    AW E m_Mo_read (K, n, I, F, J) cb sb Q 0 [some (.ref m), none, none] [] := by
  have h1 := (h.up0 0 (0 : Int32)).up0 3 (0 : Int32)
  refine r_Mo_read_0 ⟨h.K9, mo_keepOld h1 (fun I2 V2 h2 f2 o2 => r_Mo_read_14 ?_)⟩
  refine mo_rdwL 7 0 I2 V2 (by omega) h2 (fun j hj => by omega) (fun I3 V3 h3 z3 f3 => mo_rd0L 5 0 I3 V3 (by omega) h3 (fun j hj => by omega) (fun I4 V4 h4 z4 f4 => ?_))
  have e4 : ∀ f j, f ≠ 4 → f ≠ 5 → V4 f j = V2 f j := fun f j a b => by rw [f4 f j b, f3 f j a]
  have ht4 : mT V4 x L := by
    have : mT V2 x L := by
      refine ⟨?_, ht.2.1, fun i hi => ?_⟩
      · rw [f2 0 2 (by omega), zup_k _ _ _ (by decide), zup_k _ _ _ (by decide)]; exact ht.1
      · rw [f2 1 i (by omega), zup_n _ _ _ (by decide), zup_n _ _ _ (by decide)]; exact ht.2.2 i hi
    refine ⟨by rw [e4 0 2 (by decide) (by decide)]; exact this.1, this.2.1, fun i hi => ?_⟩
    rw [e4 1 i (by decide) (by decide)]; exact this.2.2 i hi
  have hS4 : mB V4 (fun _ => false) stm0 := by
    refine ⟨⟨⟨⟨by decide, by decide, by decide, by decide⟩, fun f hf => (by cases hf)⟩, ⟨z4 1 (by decide), z4 2 (by decide), z4 3 (by decide), z4 4 (by decide)⟩, fun i k hk => (by cases hk), fun i t hk => (by cases hk), fun i t hk => (by cases hk), fun i t hk => (by cases hk)⟩, fun k hk => ?_, ⟨⟨fun _ => rfl, fun _ => rfl⟩, ⟨fun _ => ⟨rfl, rfl⟩, fun _ => rfl⟩, rfl, fun z => (by cases z.1), ⟨fun _ => rfl, fun _ => rfl⟩, ⟨fun _ => rfl, fun _ => rfl⟩, fun _ => rfl, fun _ => rfl⟩, ⟨fun z => (by cases z), fun z => (by cases z), by decide, by decide⟩, z4 0 (by decide)⟩
    rw [f4 4 k (by decide), z3 k hk]; rfl
  have hM4 : mkB (fun _ => false) 0 := by
    refine ⟨by decide, ?_, ?_, ?_, ?_, ?_, ?_⟩ <;> simp
  have p4 : V4 0 3 = nI 0 := by rw [e4 0 3 (by decide) (by decide), f2 0 3 (by omega), zup_s]; rfl
  have fr : ∀ V5 : Nat → Nat → Int32, (∀ f j, ¬ (f = 0 ∧ (j = 2 ∨ j = 3)) → ¬ (4 ≤ f ∧ f ≤ 11) → V5 f j = V4 f j) → ∀ f j, ¬ (f = 0 ∧ (j = 0 ∨ j = 2 ∨ j = 3)) → ¬ (4 ≤ f ∧ f ≤ 11) → ¬ (31 ≤ f ∧ f ≤ 38) → V5 f j = V f j := fun V5 h5 f j a1 a2 a3 => by
    rw [h5 f j (fun z => a1 ⟨z.1, by omega⟩) a2, e4 f j (by omega) (by omega), f2 f j a3, zup_at, if_neg (fun z => a1 ⟨z.1, by omega⟩), zup_at, if_neg (fun z => a1 ⟨z.1, by omega⟩)]
  refine mo_readL (L + 1) 0 0 _ stm0 I4 V4 (by omega) (by omega) h4 ht4 p4 hS4 hM4 (fun s q I5 V5 e5 h5 l5 hS5 f5 => w1 s q I5 V5 e5 h5 l5 hS5 (fr V5 f5)) (fun q I5 V5 e5 h5 l5 f5 => ?_)
  refine mo_takeOld h5 (fun I6 V6 h6 f6 o6 => r_Mo_read_102 (w2 q I6 V6 e5 h6 (by rw [f6 0 2 (by omega)]; exact l5) ?_ (fun f j a1 a2 a3 => by rw [f6 f j a2]; exact fr V5 f5 f j a1 a2 a3)))
  obtain ⟨b, hb⟩ := hS
  have back : ∀ f j, 4 ≤ f → f ≤ 11 → j < asz (f + 27) → V6 f j = V f j := fun f j a1 a2 hj => by
    rw [o6 f j a1 a2 hj, f5 (f + 27) j (by omega) (by omega), e4 (f + 27) j (by omega) (by omega), o2 f j a1 a2 hj, zup_n _ _ _ (by omega), zup_n _ _ _ (by omega)]
  exact ⟨b, hb.ext (fun j hj => back 4 j (by omega) (by omega) hj) (fun j hj => back 5 j (by omega) (by omega) hj) (fun j hj => back 6 j (by omega) (by omega) hj) (fun j hj => back 7 j (by omega) (by omega) hj) (fun j hj => back 8 j (by omega) (by omega) hj) (fun j hj => back 9 j (by omega) (by omega) hj) (fun j hj => back 10 j (by omega) (by omega) hj) (fun j hj => back 11 j (by omega) (by omega) hj)⟩
end
