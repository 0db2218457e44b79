-- ===== the reference: lists in a text =====
section
variable {x : zTx} {L : Nat} {α : Type}
/-- a list and its ; -/
def gT (x : zTx) (L : Nat) {α : Type} (G : Nat → Nat → Option (List α) × Nat) (d p : Nat) : Option (List α) × Nat := zbind (G d p) fun v q => zbind (tkP x L [59] q) fun _ q => (some v, q)
def gC (x : zTx) (L : Nat) {α : Type} (G : Nat → Nat → Option (List α) × Nat) (d q : Nat) : Option (List α) × Nat := if sat x L (sk x L q) = some 59 then (some [], sk x L q + 1) else if d = 0 then (none, sk x L q) else gT x L G d (sk x L q)
theorem tk59 {q : Nat} : tkP x L [59] q = if sat x L (sk x L q) = some 59 then (some 59, sk x L q + 1) else (none, sk x L q) := by
  by_cases h : sat x L (sk x L q) = some 59
  · rw [if_pos h, tkP_some h (by simp)]
  · rw [if_neg h, tkP_none (fun u hu e => h (by rw [e, List.mem_singleton.mp hu]))]
theorem gT_s {P : Nat → Option α × Nat} {G : Nat → Nat → Option (List α) × Nat} (hG : ∀ d p, G (d + 1) p = zbind (P p) fun k q => if d = 0 then (some [k], q) else if sat x L (sk x L q) = some 59 then (some [k], sk x L q) else zbind (G d (sk x L q)) fun ks q => (some (k :: ks), q)) (d p : Nat) :
    gT x L G (d + 1) p = zbind (P p) fun k q => zbind (gC x L G d q) fun ks q => (some (k :: ks), q) := by
  unfold gT
  rw [hG]
  cases hP : P p with
  | mk o q =>
  cases o with
  | none => rfl
  | some k =>
    simp only [zbind]
    unfold gC
    by_cases hd : d = 0
    · rw [if_pos hd]
      dsimp only
      rw [tk59]
      by_cases h : sat x L (sk x L q) = some 59
      · rw [if_pos h, if_pos h]
      · rw [if_neg h, if_neg h, if_pos hd]
    · rw [if_neg hd]
      by_cases h : sat x L (sk x L q) = some 59
      · rw [if_pos h, if_pos h]
        dsimp only
        rw [tk59, sk_sk, if_pos h]
      · rw [if_neg h, if_neg h, if_neg hd]
        unfold gT
        cases hq : G d (sk x L q) with
        | mk o2 q2 =>
        cases o2 with
        | none => rfl
        | some ks =>
          simp only [zbind]
          cases ht : tkP x L [59] q2 with
          | mk o3 q3 => cases o3 <;> rfl
end
def sumP (x : zTx) (L p : Nat) : Option zPart × Nat := zbind (fldP x L 9 p) fun f q => (some (none, f.1, f.2), q)
theorem keysF_s {x : zTx} {L : Nat} (d p : Nat) : keysF x L (d + 1) p = zbind (keyP x L p) fun k q => if d = 0 then (some [k], q) else if sat x L (sk x L q) = some 59 then (some [k], sk x L q) else zbind (keysF x L d (sk x L q)) fun ks q => (some (k :: ks), q) := rfl
theorem piecesF_s {x : zTx} {L : Nat} (d p : Nat) : piecesF x L (d + 1) p = zbind (pieceP x L p) fun k q => if d = 0 then (some [k], q) else if sat x L (sk x L q) = some 59 then (some [k], sk x L q) else zbind (piecesF x L d (sk x L q)) fun ks q => (some (k :: ks), q) := rfl
theorem sumsF_s {x : zTx} {L : Nat} (d p : Nat) : sumsF x L (d + 1) p = zbind (sumP x L p) fun k q => if d = 0 then (some [k], q) else if sat x L (sk x L q) = some 59 then (some [k], sk x L q) else zbind (sumsF x L d (sk x L q)) fun ks q => (some (k :: ks), q) := by
  conv => lhs; unfold sumsF
  unfold sumP
  cases fldP x L 9 p with
  | mk o q => cases o <;> rfl
theorem kR.fr {V V' : Nat → Nat → Int32} {i : Nat} {k : zKey} (h : kR V i k) (hf : ∀ j, j < 4 * i + 4 → V' 7 j = V 7 j) : kR V' i k := by
  obtain ⟨h1, h2, h3, h4, h5⟩ := h
  exact ⟨by rw [hf _ (by omega)]; exact h1, by rw [hf _ (by omega)]; exact h2, by rw [hf _ (by omega)]; exact h3, by rw [hf _ (by omega)]; exact h4, h5⟩
theorem sR.fr {V V' : Nat → Nat → Int32} {i : Nat} {k : zPart} (h : sR V i k) (hf : ∀ j, j < 2 * i + 2 → V' 9 j = V 9 j) : sR V' i k := by
  obtain ⟨h1, h2, h3⟩ := h
  exact ⟨by rw [hf _ (by omega)]; exact h1, by rw [hf _ (by omega)]; exact h2, h3⟩
theorem rR.fr {V V' : Nat → Nat → Int32} {f k lb : Nat} {g : zPart} (h : rR V f k lb g) (h1 : V' f k = V f k) (h2 : V' f (k + 1) = V f (k + 1)) (h3 : ∀ j, j < lb + 20 → lb ≤ j → V' 11 j = V 11 j) : rR V' f k lb g := by
  obtain ⟨g1, g2, g3⟩ := g
  unfold rR at h ⊢
  cases g1 with
  | none => exact ⟨by rw [h1]; exact h.1, by rw [h2]; exact h.2.1, h.2.2⟩
  | some t =>
    dsimp only at h ⊢
    exact ⟨by rw [h1]; exact h.1, by rw [h2]; exact h.2.1, h.2.2.1, h.2.2.2.1, h.2.2.2.2.1, h.2.2.2.2.2.1, fun i hi => by rw [h3 _ (by omega) (by omega)]; exact h.2.2.2.2.2.2 i hi⟩
theorem pR.fr {V V' : Nat → Nat → Int32} {i : Nat} {k : zPart} (h : pR V i k) (hf : ∀ j, j < 2 * i + 2 → V' 10 j = V 10 j) (hl : ∀ j, j < 20 * (10 + i) + 20 → V' 11 j = V 11 j) : pR V' i k := by
  rcases h with h | h
  · exact Or.inl (h.fr (hf _ (by omega)) (hf _ (by omega)) (fun j hj _ => hl j hj))
  · exact Or.inr ⟨by rw [hf _ (by omega)]; exact h.1, by rw [hf _ (by omega)]; exact h.2.1, h.2.2⟩
theorem tR.fr {V V' : Nat → Nat → Int32} {i : Nat} {t : zTest} (h : tR V i t) (hf : ∀ j, j < 6 * i + 6 → V' 8 j = V 8 j) (hl : ∀ j, j < 20 * i + 20 → V' 11 j = V 11 j) : tR V' i t := by
  obtain ⟨h1, h2, h3, h4, h5, h6, h7⟩ := h
  exact ⟨h1, by rw [hf _ (by omega)]; exact h2, by rw [hf _ (by omega)]; exact h3, h4, by rw [hf _ (by omega)]; exact h5, h6, h7.fr (hf _ (by omega)) (hf _ (by omega)) (fun j hj _ => hl j hj)⟩
section
variable {E : zE} {B : (Nat → Nat → Int32) × (Nat → Nat → Int64)} {K n : Nat → Nat} {F : Nat → Nat → Option Nat} {J : Nat → Nat → Int64} {m : Nat} {A : Nat → Nat} {T : Nat → Int64} {cb sb : Nat} {Q : zO → zH → Prop} {x : zTx} {L : Nat}
/-- good && meets(';') at its end -/
theorem mo_semi {q : Nat} {I : Nat → Nat → Int32} {V : Nat → Nat → Int32} (h : MS B K n I F J m A V T) (ht : mT V x L) (hp : V 0 3 = nI q) (hqL : q ≤ L)
    (w0 : ∀ I', sat x L (sk x L q) ≠ some 59 → MS B K n I' F J m A (zup V 0 3 (nI (sk x L q))) T → Q (.inl (some (.int 0))) (K, n, I', F, J))
    (w1 : ∀ I', sat x L (sk x L q) = some 59 → MS B K n I' F J m A (zup V 0 3 (nI (sk x L q + 1))) T → Q (.inl (some (.int 1))) (K, n, I', F, J)) :
    AW E m_Mo_meets (K, n, I, F, J) 0 0 (zAft E m_Mo_statement cb sb Q 283 [none, none, none, none, none] []) 0 [some (.ref m), some (.int (59 : Int32))] [] := by
  refine mo_meets (c := 59) (by omega) h ht hp hqL (fun I' h' => ?_)
  rw [tk59] at h' ⊢
  by_cases e : sat x L (sk x L q) = some 59
  · rw [if_pos e] at h' ⊢
    exact r_Mo_statement_286 ⟨fun z => absurd z (show ¬ (1 : Int32) = 0 by decide), fun _ => w1 I' e h'⟩
  · rw [if_neg e] at h' ⊢
    exact r_Mo_statement_286 ⟨fun _ => w0 I' e h', fun z => absurd rfl z⟩
/-- the loop of keys -/
theorem mo_keysL : ∀ (d c q : Nat) (I : Nat → Nat → Int32) (V : Nat → Nat → Int32), c + d = 6 → q ≤ L → MS B K n I F J m A V T → mT V x L → V 0 3 = nI q → V 5 1 = nI c →
    (∀ q' I' V', gC x L (keysF x L) d q = (none, q') → MS B K n I' F J m A V' T → V' 0 3 = nI q' → pE V V' → Q (.inl (some (.int 0))) (K, n, I', F, J)) →
    (∀ ks q' I' V', gC x L (keysF x L) d q = (some ks, q') → MS B K n I' F J m A V' T → V' 0 3 = nI q' → V' 5 1 = nI (c + ks.length) → ks.length ≤ d → (∀ i k, ks[i]? = some k → kR V' (c + i) k) → (∀ f j, ¬ (f = 0 ∧ j = 3) → ¬ (f = 5 ∧ j = 1) → ¬ (f = 7 ∧ 4 * c ≤ j) → V' f j = V f j) → q' ≤ L → Q (.inl (some (.int 1))) (K, n, I', F, J)) →
    AW E m_Mo_statement (K, n, I, F, J) cb sb Q 150 [some (.ref m), none, none, none, some (.int (1 : Int32))] []
  | d, c, q, I, V, hcd, hqL, h, ht, hp, hc, w0, w1 => by
    have hk := sk_le (x := x) hqL
    have hb := fun u => @sat_b V x L (sk x L q) u ht
    refine r_Mo_statement_150 ⟨fun z => absurd z (by decide), fun _ => ⟨h.K9, mo_sg h ht hp hqL (fun I1 h1 => ?_)⟩⟩
    have pV1 : pE V (zup V 0 3 (nI (sk x L q))) := (pE.refl V).up (Or.inl ⟨rfl, rfl⟩)
    unfold gC at w0 w1
    refine r_Mo_statement_159 ⟨fun z => ⟨fun z2 => absurd z2 (by decide), fun _ => ⟨h1.K9, ?_⟩⟩, fun z => ⟨h1.K9, ?_⟩⟩
    · have e := (mO_eq (c := 59) hb (by omega)).mp z
      rw [if_pos e] at w1
      refine mo_semi h1 (pV1.mT ht) (zup_s _ _ _ _) hk.2 (fun I2 e2 _ => absurd (by rw [sk_sk]; exact e) e2) (fun I2 _ h2 => ?_)
      rw [zup2, sk_sk] at h2
      refine w1 [] _ I2 _ rfl h2 (zup_s _ _ _ _) (by rw [zup_n _ _ _ (by decide)]; exact hc) (by simp) (fun i k hk => by simp at hk) (fun f j a1 _ _ => by rw [zup_at, if_neg a1]) ((sat_lx e).1)
    · have e : ¬ sat x L (sk x L q) = some 59 := fun y => z ((mO_eq (c := 59) hb (by omega)).mpr y)
      rw [if_neg e] at w0 w1
      have hc1 : zup V 0 3 (nI (sk x L q)) 5 1 = nI c := by rw [zup_n _ _ _ (by decide)]; exact hc
      cases d with
      | zero =>
        rw [if_pos rfl] at w0
        have hcc : c = 6 := by omega
        refine r_Mo_key_0 ⟨h1.K9, _, h1.f (f := 5) (by decide), h1.k (by decide), 1, rfl, by rw [h1.sz (by decide)]; decide, by decide, ?_⟩
        rw [h1.a (by decide), hc1, hcc]
        exact ⟨fun z => absurd rfl z, fun _ => r_Mo_statement_168 (r_Mo_statement_150 ⟨fun _ => ⟨fun _ => w0 _ I1 _ rfl h1 (zup_s _ _ _ _) pV1, fun z => absurd rfl z⟩, fun z => absurd rfl z⟩)⟩
      | succ d =>
        rw [if_neg (by omega), gT_s keysF_s] at w0 w1
        refine mo_key (c := c) h1 (pV1.mT ht) (zup_s _ _ _ _) hk.2 hc1 (by omega) (fun q2 I2 V2 e2 h2 p2 hV2 => ?_) (fun k q2 I2 V2 e2 h2 p2 hc2 hr2 hf2 hq2 => ?_)
        · rw [e2] at w0
          exact r_Mo_statement_168 (r_Mo_statement_150 ⟨fun _ => ⟨fun _ => w0 _ I2 V2 rfl h2 p2 (pV1.tr hV2), fun z => absurd rfl z⟩, fun z => absurd rfl z⟩)
        · rw [e2] at w0 w1
          simp only [zbind] at w0 w1
          have pV2 : pE V V2 := fun f j a b => by rw [hf2 f j a (by omega) (by omega), zup_at, if_neg a]
          refine r_Mo_statement_168 (mo_keysL d (c + 1) q2 I2 V2 (by omega) hq2 h2 (pV2.mT ht) p2 hc2 (fun q3 I3 V3 e3 h3 p3 hV3 => ?_) (fun ks q3 I3 V3 e3 h3 p3 hc3 hl3 hr3 hf3 hq3 => ?_))
          · rw [e3] at w0
            exact w0 q3 I3 V3 rfl h3 p3 (pV2.tr hV3)
          · rw [e3] at w1
            refine w1 (k :: ks) q3 I3 V3 rfl h3 p3 (by rw [hc3]; congr 1; simp; omega) (by simp; omega) (fun i k' hk' => ?_) (fun f j a1 a2 a3 => ?_) hq3
            · cases i with
              | zero =>
                have ek := Option.some.inj hk'
                rw [← ek]
                exact hr2.fr (fun j hj => hf3 7 j (by omega) (by omega) (by omega))
              | succ i =>
                have hk'' : ks[i]? = some k' := by simpa using hk'
                have := hr3 i k' hk''
                rw [show c + 1 + i = c + (i + 1) by omega] at this
                exact this
            · rw [hf3 f j a1 a2 (fun z => a3 ⟨z.1, by omega⟩), hf2 f j a1 a2 a3, zup_at, if_neg a1]
/-- the loop of sums -/
theorem mo_sumsL : ∀ (d c q : Nat) (I : Nat → Nat → Int32) (V : Nat → Nat → Int32), c + d = 4 → q ≤ L → MS B K n I F J m A V T → mT V x L → V 0 3 = nI q → V 5 3 = nI c →
    (∀ q' I' V', gC x L (sumsF x L) d q = (none, q') → MS B K n I' F J m A V' T → V' 0 3 = nI q' → pE V V' → Q (.inl (some (.int 0))) (K, n, I', F, J)) →
    (∀ ks q' I' V', gC x L (sumsF x L) d q = (some ks, q') → MS B K n I' F J m A V' T → V' 0 3 = nI q' → V' 5 3 = nI (c + ks.length) → ks.length ≤ d → (∀ i k, ks[i]? = some k → sR V' (c + i) k) → (∀ f j, ¬ (f = 0 ∧ j = 3) → ¬ (f = 5 ∧ j = 3) → ¬ (f = 9 ∧ 2 * c ≤ j) → V' f j = V f j) → q' ≤ L → Q (.inl (some (.int 1))) (K, n, I', F, J)) →
    AW E m_Mo_statement (K, n, I, F, J) cb sb Q 188 [some (.ref m), none, none, none, some (.int (1 : Int32))] []
  | d, c, q, I, V, hcd, hqL, h, ht, hp, hc, w0, w1 => by
    have hk := sk_le (x := x) hqL
    have hb := fun u => @sat_b V x L (sk x L q) u ht
    refine r_Mo_statement_188 ⟨fun z => absurd z (by decide), fun _ => ⟨h.K9, mo_sg h ht hp hqL (fun I1 h1 => ?_)⟩⟩
    have pV1 : pE V (zup V 0 3 (nI (sk x L q))) := (pE.refl V).up (Or.inl ⟨rfl, rfl⟩)
    unfold gC at w0 w1
    refine r_Mo_statement_197 ⟨fun z => ⟨fun z2 => absurd z2 (by decide), fun _ => ⟨h1.K9, ?_⟩⟩, fun z => ⟨h1.K9, ?_⟩⟩
    · have e := (mO_eq (c := 59) hb (by omega)).mp z
      rw [if_pos e] at w1
      refine mo_semi h1 (pV1.mT ht) (zup_s _ _ _ _) hk.2 (fun I2 e2 _ => absurd (by rw [sk_sk]; exact e) e2) (fun I2 _ h2 => ?_)
      rw [zup2, sk_sk] at h2
      refine w1 [] _ I2 _ rfl h2 (zup_s _ _ _ _) (by rw [zup_n _ _ _ (by decide)]; exact hc) (by simp) (fun i k hk => by simp at hk) (fun f j a1 _ _ => by rw [zup_at, if_neg a1]) ((sat_lx e).1)
    · have e : ¬ sat x L (sk x L q) = some 59 := fun y => z ((mO_eq (c := 59) hb (by omega)).mpr y)
      rw [if_neg e] at w0 w1
      have hc1 : zup V 0 3 (nI (sk x L q)) 5 3 = nI c := by rw [zup_n _ _ _ (by decide)]; exact hc
      cases d with
      | zero =>
        rw [if_pos rfl] at w0
        have hcc : c = 4 := by omega
        refine mo_sumF (c := c) h1 (pV1.mT ht) (zup_s _ _ _ _) hk.2 hc1 (by omega) (fun I2 V2 _ h2 p2 hV2 => ?_) (fun q2 I2 V2 hlt => by omega) (fun a b q2 I2 V2 hlt => by omega)
        rw [sk_sk] at p2
        exact r_Mo_statement_206 (r_Mo_statement_188 ⟨fun _ => ⟨fun _ => w0 _ I2 V2 rfl h2 p2 (pV1.tr hV2), fun z => absurd rfl z⟩, fun z => absurd rfl z⟩)
      | succ d =>
        rw [if_neg (by omega), gT_s sumsF_s] at w0 w1
        refine mo_sumF (c := c) h1 (pV1.mT ht) (zup_s _ _ _ _) hk.2 hc1 (by omega) (fun I2 V2 hlt => by omega) (fun q2 I2 V2 _ e2 h2 p2 hV2 => ?_) (fun ka kb q2 I2 V2 _ e2 h2 p2 hc2 hr2 hf2 hq2 => ?_)
        · rw [fldP_sk] at e2
          have es : sumP x L (sk x L q) = (none, q2) := by unfold sumP; rw [e2]; rfl
          rw [es] at w0
          exact r_Mo_statement_206 (r_Mo_statement_188 ⟨fun _ => ⟨fun _ => w0 _ I2 V2 rfl h2 p2 (pV1.tr hV2), fun z => absurd rfl z⟩, fun z => absurd rfl z⟩)
        · rw [fldP_sk] at e2
          have es : sumP x L (sk x L q) = (some (none, ka, kb), q2) := by unfold sumP; rw [e2]; rfl
          rw [es] at w0 w1
          simp only [zbind] at w0 w1
          have pV2 : pE V V2 := fun f j a b => by rw [hf2 f j a (by omega) (by omega), zup_at, if_neg a]
          refine r_Mo_statement_206 (mo_sumsL d (c + 1) q2 I2 V2 (by omega) hq2 h2 (pV2.mT ht) p2 hc2 (fun q3 I3 V3 e3 h3 p3 hV3 => ?_) (fun ks q3 I3 V3 e3 h3 p3 hc3 hl3 hr3 hf3 hq3 => ?_))
          · rw [e3] at w0
            exact w0 q3 I3 V3 rfl h3 p3 (pV2.tr hV3)
          · rw [e3] at w1
            refine w1 ((none, ka, kb) :: ks) q3 I3 V3 rfl h3 p3 (by rw [hc3]; congr 1; simp; omega) (by simp; omega) (fun i k' hk' => ?_) (fun f j a1 a2 a3 => ?_) hq3
            · cases i with
              | zero =>
                have ek := Option.some.inj hk'
                rw [← ek]
                exact hr2.fr (fun j hj => hf3 9 j (by omega) (by omega) (by omega))
              | succ i =>
                have hk'' : ks[i]? = some k' := by simpa using hk'
                have := hr3 i k' hk''
                rw [show c + 1 + i = c + (i + 1) by omega] at this
                exact this
            · rw [hf3 f j a1 a2 (fun z => a3 ⟨z.1, by omega⟩), hf2 f j a1 a2 a3, zup_at, if_neg a1]
/-- the loop of pieces -/
theorem mo_piecesL : ∀ (d c q : Nat) (I : Nat → Nat → Int32) (V : Nat → Nat → Int32), c + d = 12 → q ≤ L → MS B K n I F J m A V T → mT V x L → V 0 3 = nI q → V 5 4 = nI c →
    (∀ q' I' V', gC x L (piecesF x L) d q = (none, q') → MS B K n I' F J m A V' T → V' 0 3 = nI q' → pE V V' → Q (.inl (some (.int 0))) (K, n, I', F, J)) →
    (∀ ks q' I' V', gC x L (piecesF x L) d q = (some ks, q') → MS B K n I' F J m A V' T → V' 0 3 = nI q' → V' 5 4 = nI (c + ks.length) → ks.length ≤ d → (∀ i k, ks[i]? = some k → pR V' (c + i) k) → (∀ f j, ¬ (f = 0 ∧ j = 3) → ¬ (f = 5 ∧ j = 4) → ¬ (f = 10 ∧ 2 * c ≤ j) → ¬ (f = 11 ∧ 20 * (10 + c) ≤ j) → V' f j = V f j) → q' ≤ L → Q (.inl (some (.int 1))) (K, n, I', F, J)) →
    AW E m_Mo_statement (K, n, I, F, J) cb sb Q 217 [some (.ref m), none, none, none, some (.int (1 : Int32))] []
  | d, c, q, I, V, hcd, hqL, h, ht, hp, hc, w0, w1 => by
    have hk := sk_le (x := x) hqL
    have hb := fun u => @sat_b V x L (sk x L q) u ht
    refine r_Mo_statement_217 ⟨fun z => absurd z (by decide), fun _ => ⟨h.K9, mo_sg h ht hp hqL (fun I1 h1 => ?_)⟩⟩
    have pV1 : pE V (zup V 0 3 (nI (sk x L q))) := (pE.refl V).up (Or.inl ⟨rfl, rfl⟩)
    unfold gC at w0 w1
    refine r_Mo_statement_226 ⟨fun z => ⟨fun z2 => absurd z2 (by decide), fun _ => ⟨h1.K9, ?_⟩⟩, fun z => ⟨h1.K9, ?_⟩⟩
    · have e := (mO_eq (c := 59) hb (by omega)).mp z
      rw [if_pos e] at w1
      refine mo_semi h1 (pV1.mT ht) (zup_s _ _ _ _) hk.2 (fun I2 e2 _ => absurd (by rw [sk_sk]; exact e) e2) (fun I2 _ h2 => ?_)
      rw [zup2, sk_sk] at h2
      refine w1 [] _ I2 _ rfl h2 (zup_s _ _ _ _) (by rw [zup_n _ _ _ (by decide)]; exact hc) (by simp) (fun i k hk => by simp at hk) (fun f j a1 _ _ _ => by rw [zup_at, if_neg a1]) ((sat_lx e).1)
    · have e : ¬ sat x L (sk x L q) = some 59 := fun y => z ((mO_eq (c := 59) hb (by omega)).mpr y)
      rw [if_neg e] at w0 w1
      have hc1 : zup V 0 3 (nI (sk x L q)) 5 4 = nI c := by rw [zup_n _ _ _ (by decide)]; exact hc
      cases d with
      | zero =>
        rw [if_pos rfl] at w0
        have hcc : c = 12 := by omega
        refine r_Mo_piece_0 ⟨h1.K9, _, h1.f (f := 5) (by decide), h1.k (by decide), 4, rfl, by rw [h1.sz (by decide)]; decide, by decide, ?_⟩
        rw [h1.a (by decide), hc1, hcc]
        exact ⟨fun z => absurd rfl z, fun _ => r_Mo_statement_235 (r_Mo_statement_217 ⟨fun _ => ⟨fun _ => w0 _ I1 _ rfl h1 (zup_s _ _ _ _) pV1, fun z => absurd rfl z⟩, fun z => absurd rfl z⟩)⟩
      | succ d =>
        rw [if_neg (by omega), gT_s piecesF_s] at w0 w1
        refine mo_piece (c := c) h1 (pV1.mT ht) (zup_s _ _ _ _) hk.2 hc1 (by omega) (fun q2 I2 V2 e2 h2 p2 hV2 => ?_) (fun k q2 I2 V2 e2 h2 p2 hc2 hr2 hf2 hq2 => ?_)
        · rw [e2] at w0
          exact r_Mo_statement_235 (r_Mo_statement_217 ⟨fun _ => ⟨fun _ => w0 _ I2 V2 rfl h2 p2 (pV1.tr hV2), fun z => absurd rfl z⟩, fun z => absurd rfl z⟩)
        · rw [e2] at w0 w1
          simp only [zbind] at w0 w1
          have pV2 : pE V V2 := fun f j a b => by rw [hf2 f j a (by omega) (by omega) (by omega), zup_at, if_neg a]
          refine r_Mo_statement_235 (mo_piecesL d (c + 1) q2 I2 V2 (by omega) hq2 h2 (pV2.mT ht) p2 hc2 (fun q3 I3 V3 e3 h3 p3 hV3 => ?_) (fun ks q3 I3 V3 e3 h3 p3 hc3 hl3 hr3 hf3 hq3 => ?_))
          · rw [e3] at w0
            exact w0 q3 I3 V3 rfl h3 p3 (pV2.tr hV3)
          · rw [e3] at w1
            refine w1 (k :: ks) q3 I3 V3 rfl h3 p3 (by rw [hc3]; congr 1; simp; omega) (by simp; omega) (fun i k' hk' => ?_) (fun f j a1 a2 a3 a4 => ?_) hq3
            · cases i with
              | zero =>
                have ek := Option.some.inj hk'
                rw [← ek]
                exact hr2.fr (fun j hj => hf3 10 j (by omega) (by omega) (by omega) (by omega)) (fun j hj => hf3 11 j (by omega) (by omega) (by omega) (by omega))
              | succ i =>
                have hk'' : ks[i]? = some k' := by simpa using hk'
                have := hr3 i k' hk''
                rw [show c + 1 + i = c + (i + 1) by omega] at this
                exact this
            · rw [hf3 f j a1 a2 (fun z => a3 ⟨z.1, by omega⟩) (fun z => a4 ⟨z.1, by omega⟩), hf2 f j a1 a2 a3 (fun z => a4 ⟨z.1, z.2.1⟩), zup_at, if_neg a1]
end
