-- ===== the reference: tests, pieces =====
theorem numP_sk {x : zTx} {L lo hi p : Nat} : numP x L lo hi (sk x L p) = numP x L lo hi p := by unfold numP; rw [sk_sk]
theorem fldP_sk {x : zTx} {L most p : Nat} : fldP x L most (sk x L p) = fldP x L most p := by unfold fldP; rw [numP_sk]
def rR (V : Nat → Nat → Int32) (f k lb : Nat) (g : zPart) : Prop := match g.1 with
  | none => V f k = nI (g.2.1 + 1) ∧ V f (k + 1) = nI g.2.2 ∧ g.2.1 + g.2.2 ≤ 100
  | some t => V f k = 0 ∧ V f (k + 1) = nI t.length ∧ g.2.1 = 0 ∧ g.2.2 = t.length ∧ t.length ≤ 20 ∧ (∀ y ∈ t, y < 128) ∧ ∀ i, i < t.length → V 11 (lb + i) = nI (t.getD i 0)
def tR (V : Nat → Nat → Int32) (i : Nat) (t : zTest) : Prop := t.2.1.1 = none ∧ V 8 (6 * i + 1) = nI (t.2.1.2.1 + 1) ∧ V 8 (6 * i + 2) = nI t.2.1.2.2 ∧ t.2.1.2.1 + t.2.1.2.2 ≤ 100 ∧ V 8 (6 * i + 3) = nI t.2.2.1 ∧ t.2.2.1 < 128 ∧ rR V 8 (6 * i + 4) (20 * i) t.2.2.2
def pR (V : Nat → Nat → Int32) (i : Nat) (g : zPart) : Prop := rR V 10 (2 * i) (20 * (10 + i)) g ∨ (V 10 (2 * i) = -1 ∧ V 10 (2 * i + 1) = nI g.2.2 ∧ g.2.1 = 0 ∧ g.2.2 ≤ 40 ∧ g.1 = some (List.replicate g.2.2 32))
theorem tkP_some {x : zTx} {L p u : Nat} {cs : List Nat} (e : sat x L (sk x L p) = some u) (hu : u ∈ cs) : tkP x L cs p = (some u, sk x L p + 1) := by
  unfold tkP
  rw [e]
  dsimp only
  rw [if_pos hu]
theorem tkP_none {x : zTx} {L p : Nat} {cs : List Nat} (h : ∀ u, u ∈ cs → sat x L (sk x L p) ≠ some u) : tkP x L cs p = (none, sk x L p) := by
  unfold tkP
  cases e : sat x L (sk x L p) with
  | none => rfl
  | some u =>
    dsimp only
    rw [if_neg (fun hu => h u hu e)]
theorem sat_lx {x : zTx} {L p u : Nat} (e : sat x L p = some u) : p < L ∧ x p = u := by
  unfold sat at e
  split at e
  · exact ⟨by assumption, Option.some.inj e⟩
  · cases e
theorem scF_tx {x : zTx} {L : Nat} : ∀ (d p i : Nat), p ≤ i → i < scF x L d p → isTx (x i) = true
  | 0, p, i, h1, h2 => by unfold scF at h2; omega
  | d + 1, p, i, h1, h2 => by
    unfold scF at h2
    split at h2
    · rename_i q
      by_cases e : i = p
      · rw [e]; exact q.2
      · exact scF_tx d (p + 1) i (by omega) h2
    · omega
theorem txtP_lt {x : zTx} {L p q : Nat} {t : List Nat} (e : txtP x L p = (some t, q)) : ∀ y ∈ t, y < 128 := by
  unfold txtP at e
  dsimp only at e
  split at e
  · cases e
  · have e1 := Option.some.inj (Prod.mk.inj e).1
    intro y hy
    rw [← e1] at hy
    obtain ⟨i, hi, ey⟩ := List.mem_map.mp hy
    have hi := List.mem_range.mp hi
    have := (mTx_iff _).mp (scF_tx (x := x) (L := L) 20 p (p + i) (by omega) (by omega))
    have ey2 : x (p + i) = y := ey
    omega
section
variable {E : zE} {B : (Nat → Nat → Int32) × (Nat → Nat → Int64)} {K n : Nat → Nat} {I : Nat → Nat → Int32} {F : Nat → Nat → Option Nat} {J : Nat → Nat → Int64} {m : Nat} {A : Nat → Nat} {V : Nat → Nat → Int32} {T : Nat → Int64} {cb sb : Nat} {Q : zO → zH → Prop} {x : zTx} {L p : Nat}
/-- test(way) -/
theorem mo_test {c wy : Nat} {b : Bool} (h : MS B K n I F J m A V T) (ht : mT V x L) (hp : V 0 3 = nI p) (hpL : p ≤ L) (hc : V 5 2 = nI c) (hc10 : c ≤ 10)
    (w00 : ∀ I' V', c = 10 → MS B K n I' F J m A V' T → V' 0 3 = nI (sk x L p) → pE V V' → Q (.inl (some (.int 0))) (K, n, I', F, J))
    (w0 : ∀ q I' V', c < 10 → testP x L b p = (none, q) → MS B K n I' F J m A V' T → V' 0 3 = nI q → pE V V' → Q (.inl (some (.int 0))) (K, n, I', F, J))
    (w1 : ∀ t q I' V', c < 10 → testP x L b p = (some t, q) → MS B K n I' F J m A V' T → V' 0 3 = nI q → V' 5 2 = nI (c + 1) → t.1 = b → tR V' c t → V' 8 (6 * c) = nI wy → (∀ f j, ¬ (f = 0 ∧ j = 3) → ¬ (f = 5 ∧ j = 2) → ¬ (f = 8 ∧ 6 * c ≤ j) → ¬ (f = 11 ∧ 20 * c ≤ j ∧ j < 20 * c + 20) → V' f j = V f j) → q ≤ L → Q (.inl (some (.int 1))) (K, n, I', F, J)) :
    AW E m_Mo_test (K, n, I, F, J) cb sb Q 0 [some (.ref m), some (.int (nI wy)), none, none, none] [] := by
  have hk := sk_le (x := x) hpL
  have h5 := ht.2.1
  refine r_Mo_test_0 ⟨h.K9, mo_sg h ht hp hpL (fun I1 h1 => ?_)⟩
  have hV1 : pE V (zup V 0 3 (nI (sk x L p))) := (pE.refl V).up (Or.inl ⟨rfl, rfl⟩)
  refine r_Mo_test_4 ⟨h1.K9, _, h1.f (f := 5) (by decide), h1.k (by decide), 2, rfl, by rw [h1.sz (by decide)]; decide, by decide, ?_⟩
  rw [h1.a (by decide), zup_n _ _ _ (by decide), hc]
  have e10 : nI c = (10 : Int32) ↔ c = 10 := nI_eq (a := c) (b := 10) (by omega) (by omega)
  refine ⟨fun z => ?_, fun z => w00 I1 _ (e10.mp z) h1 (zup_s _ _ _ _) hV1⟩
  have hc' : c < 10 := Nat.lt_of_le_of_ne hc10 (fun y => z (e10.mpr y))
  have e6 : (6 : Int32) * nI c = nI (6 * c) := pk_mul 6 c
  rw [e6]
  have bd : ∀ i, i < 6 → 6 * c + i < n (A 8) := fun i hi => by rw [h1.sz (by decide)]; show 6 * c + i < 120; omega
  refine ⟨_, h1.f (f := 8) (by decide), h1.k (by decide), 6 * c, rfl, bd 0 (by decide), by omega, ?_⟩
  have h2 := h1.up (f := 8) (by decide) (6 * c) (nI wy)
  have hV2 := hV1.up (f := 8) (j := 6 * c) (v := nI wy) (Or.inr (by omega))
  rw [nI_1]
  unfold testP at w0 w1
  refine mo_field (f := 8) (k := 6 * c + 1) (most := 40) (by omega) (by show 6 * c + 1 + 1 < 120; omega) (by omega) h2 (hV2.mT ht) (by simp [zup_at]) hk.2 (fun q I3 e h3 => ?_) (fun a b0 q1 I3 e h3 => ?_)
  · rw [fldP_sk] at e
    rw [e] at w0
    exact r_Mo_test_48 ⟨fun z => absurd rfl z, fun _ => w0 q I3 _ hc' rfl h3 (zup_s _ _ _ _) (hV2.up (Or.inl ⟨rfl, rfl⟩))⟩
  have hfi := fldP_in hk.2 e
  rw [fldP_sk] at e
  rw [e] at w0 w1
  simp only [zbind] at w0 w1
  have hV3 := ((hV2.up (f := 0) (j := 3) (v := nI q1) (Or.inl ⟨rfl, rfl⟩)).up (f := 8) (j := 6 * c + 1) (v := nI (a + 1)) (Or.inr (by omega))).up (f := 8) (j := 6 * c + 1 + 1) (v := nI b0) (Or.inr (by omega))
  generalize hW3 : zup (zup (zup (zup (zup V 0 3 (nI (sk x L p))) 8 (6 * c) (nI wy)) 0 3 (nI q1)) 8 (6 * c + 1) (nI (a + 1))) 8 (6 * c + 1 + 1) (nI b0) = V3 at h3 hV3
  have v3 : V3 0 3 = nI q1 ∧ V3 8 (6 * c) = nI wy ∧ V3 8 (6 * c + 1) = nI (a + 1) ∧ V3 8 (6 * c + 2) = nI b0 ∧ V3 5 2 = nI c := by
    rw [← hW3]
    refine ⟨?_, ?_, ?_, ?_, ?_⟩ <;> simp [zup_at] <;> first | exact hc | (intro q; omega)
  have f3 : ∀ f j, ¬ (f = 0 ∧ j = 3) → ¬ (f = 8 ∧ 6 * c ≤ j) → V3 f j = V f j := fun f j a1 a2 => by
    rw [← hW3, zup_at, if_neg (fun z => a2 ⟨z.1, by omega⟩), zup_at, if_neg (fun z => a2 ⟨z.1, by omega⟩), zup_at, if_neg a1, zup_at, if_neg (fun z => a2 ⟨z.1, by omega⟩), zup_at, if_neg a1]
  refine r_Mo_test_48 ⟨fun _ => ⟨h3.K9, mo_sg h3 (hV3.mT ht) v3.1 (by omega) (fun I4 h4 => ?_)⟩, fun z => absurd z (by decide)⟩
  have hk4 := sk_le (x := x) (p := q1) (L := L) (by omega)
  have hb := fun u => @sat_b V x L (sk x L q1) u ht
  have hV4 := hV3.up (f := 0) (j := 3) (v := nI (sk x L q1)) (Or.inl ⟨rfl, rfl⟩)
  have pl : I4 m 3 + (1 : Int32) = nI (sk x L q1 + 1) := by rw [h4.o, zup_s, nI_1]
  -- behind the relation
  have cont : ∀ u : Nat, sat x L (sk x L q1) = some u → u ∈ [61, 35, 60, 62] → K m = 9 ∧ ∃ b3 : Nat, F m 8 = some b3 ∧ K b3 = 21 ∧ ∃ j5 : Nat, nI (6 * c) + (3 : Int32) = nI j5 ∧ j5 < n b3 ∧ j5 < 2147483648 ∧ AW E m_Mo_sign (K, n, (zup (zup I4 m 3 ((I4 m 3) + (1 : Int32))) b3 j5 (mO (sat x L (sk x L q1)))), F, J) 0 0 (zAft E m_Mo_test cb sb Q 104 [some (.ref m), none, some (.int (nI (6 * c))), none, none] []) 0 [some (.ref m)] [] := fun u es hu => by
    refine ⟨h4.K9, _, h4.f (f := 8) (by decide), h4.k (by decide), 6 * c + 3, nI_add (6 * c) 3, bd 3 (by decide), by omega, ?_⟩
    have hlt := (sat_lx es).1
    have hu128 : u < 128 := by
      simp only [List.mem_cons, List.mem_nil_iff, or_false] at hu
      omega
    rw [tkP_some es hu] at w0 w1
    dsimp only at w0 w1
    rw [pl, es, mO_some]
    have h5' := (h4.up0 3 (nI (sk x L q1 + 1))).up (f := 8) (by decide) (6 * c + 3) (nI u)
    rw [zup2] at h5'
    have hV5 := (hV3.up (f := 0) (j := 3) (v := nI (sk x L q1 + 1)) (Or.inl ⟨rfl, rfl⟩)).up (f := 8) (j := 6 * c + 3) (v := nI u) (Or.inr (by omega))
    generalize hW5 : zup (zup V3 0 3 (nI (sk x L q1 + 1))) 8 (6 * c + 3) (nI u) = V5 at h5' hV5
    have v5 : V5 0 3 = nI (sk x L q1 + 1) ∧ V5 8 (6 * c) = nI wy ∧ V5 8 (6 * c + 1) = nI (a + 1) ∧ V5 8 (6 * c + 2) = nI b0 ∧ V5 5 2 = nI c ∧ V5 8 (6 * c + 3) = nI u := by
      rw [← hW5]
      refine ⟨?_, ?_, ?_, ?_, ?_, ?_⟩ <;> simp [zup_at] <;> first | exact v3.2.1 | exact v3.2.2.1 | exact v3.2.2.2.1 | exact v3.2.2.2.2
    have f5 : ∀ f j, ¬ (f = 0 ∧ j = 3) → ¬ (f = 8 ∧ 6 * c ≤ j) → V5 f j = V f j := fun f j a1 a2 => by
      rw [← hW5, zup_at, if_neg (fun z => a2 ⟨z.1, by omega⟩), zup_at, if_neg a1]; exact f3 f j a1 a2
    have hk5 := sk_le (x := x) (p := sk x L q1 + 1) (L := L) (by omega)
    refine mo_sg h5' (hV5.mT ht) v5.1 (by omega) (fun I6 h6 => ?_)
    generalize hq6 : sk x L (sk x L q1 + 1) = q6 at h6 hk5
    have hb6 := fun u => @sat_b V x L q6 u ht
    have hV6 := hV5.up (f := 0) (j := 3) (v := nI q6) (Or.inl ⟨rfl, rfl⟩)
    unfold rightP at w0 w1
    rw [hq6] at w0 w1
    refine r_Mo_test_107 ⟨fun z => ⟨h6.K9, _, h6.f (f := 8) (by decide), ?_⟩, fun z => ⟨h6.K9, _, h6.f (f := 5) (by decide), h6.k (by decide), 2, rfl, by rw [h6.sz (by decide)]; decide, by decide, ?_⟩⟩
    · -- a field
      have n39 : sat x L q6 ≠ some 39 := fun y => z ((mO_eq (c := 39) hb6 (by omega)).mpr y)
      rw [if_neg n39] at w0 w1
      have e4 : nI (6 * c) + (4 : Int32) = nI (6 * c + 4) := nI_add (6 * c) 4
      rw [e4]
      refine mo_field (f := 8) (k := 6 * c + 4) (most := 40) (by omega) (by show 6 * c + 4 + 1 < 120; omega) (by omega) h6 (hV6.mT ht) (zup_s _ _ _ _) hk5.2 (fun q I7 e7 h7 => ?_) (fun a7 b7 q7 I7 e7 h7 => ?_)
      · rw [zup2] at h7
        rw [e7] at w0
        exact r_Mo_test_170 ⟨fun z => absurd rfl z, fun _ => w0 q I7 _ hc' rfl h7 (zup_s _ _ _ _) (hV5.up (Or.inl ⟨rfl, rfl⟩))⟩
      · rw [zup2] at h7
        have hf7 := fldP_in hk5.2 e7
        rw [e7] at w1
        simp only [zbind] at w1
        refine r_Mo_test_170 ⟨fun _ => ⟨h7.K9, _, h7.f (f := 5) (by decide), h7.k (by decide), 2, rfl, by rw [h7.sz (by decide)]; decide, by decide, ?_⟩, fun z => absurd z (by decide)⟩
        have e52 : I7 (A 5) 2 + (1 : Int32) = nI (c + 1) := by
          rw [h7.a (by decide), zup_n _ _ _ (by decide), zup_n _ _ _ (by decide), zup_n _ _ _ (by decide), v5.2.2.2.2.1, nI_1]
        rw [e52]
        have h8 := h7.up (f := 5) (by decide) 2 (nI (c + 1))
        refine w1 _ _ _ _ hc' rfl h8 (by simp [zup_at]) (by simp [zup_at]) rfl ⟨rfl, ?_, ?_, hfi.1, ?_, hu128, ?_, ?_, hf7.1⟩ ?_ (fun f j a1 a2 a3 _ => ?_) (by omega)
        · simp [zup_at]; exact v5.2.2.1
        · simp [zup_at]; exact v5.2.2.2.1
        · simp [zup_at]; exact v5.2.2.2.2.2
        · simp [zup_at]
        · simp [zup_at]
        · simp [zup_at]; rw [if_neg (by omega)]; exact v5.2.1
        · rw [zup_at, if_neg a2, zup_at, if_neg (fun z => a3 ⟨z.1, by omega⟩), zup_at, if_neg (fun z => a3 ⟨z.1, by omega⟩), zup_at, if_neg a1]; exact f5 f j a1 a3
    · -- a text
      have e39 := (mO_eq (c := 39) hb6 (by omega)).mp z
      have hlt6 := (sat_lx e39).1
      rw [if_pos e39] at w0 w1
      have e20 : (20 : Int32) * I6 (A 5) 2 = nI (20 * c) := by
        rw [h6.a (by decide), zup_n _ _ _ (by decide), v5.2.2.2.2.1]; exact pk_mul 20 c
      rw [e20]
      refine mo_letters (fr := 20 * c) (by omega) h6 (hV6.mT ht) (zup_s _ _ _ _) hlt6 (fun q I7 V7 e7 h7 p7 hV7 => ?_) (fun t q I7 V7 e7 h7 p7 l1 l2 hl7 hf7 => ?_)
      · rw [e7] at w0
        exact r_Mo_test_125 ⟨fun z => absurd rfl z, fun _ => w0 q I7 V7 hc' rfl h7 p7 (hV6.tr hV7)⟩
      · rw [e7] at w1
        simp only [zbind] at w1
        have hqL : q ≤ L := by
          have := ok_txt (x := x) (L := L) (p := q6 + 1) (by omega)
          rw [e7] at this; exact this.2
        refine r_Mo_test_125 ⟨fun _ => ⟨h7.K9, _, h7.f (f := 8) (by decide), h7.k (by decide), 6 * c + 4, nI_add (6 * c) 4, bd 4 (by decide), by omega, 6 * c + 5, nI_add (6 * c) 5, bd 5 (by decide), by omega, _, h7.f (f := 5) (by decide), h7.k (by decide), 2, rfl, by rw [h7.sz (by decide)]; decide, by decide, ?_⟩, fun z => absurd z (nI_m1 (by omega))⟩
        have h8 := (h7.up (f := 8) (by decide) (6 * c + 4) (0 : Int32)).up (f := 8) (by decide) (6 * c + 5) (nI t.length)
        have g7 : ∀ f j, ¬ (f = 0 ∧ j = 3) → f ≠ 11 → V7 f j = V5 f j := fun f j a1 a2 => by rw [hf7 f j a1 (fun z => a2 z.1), zup_at, if_neg a1]
        have e52 : zup (zup I7 (A 8) (6 * c + 4) (0 : Int32)) (A 8) (6 * c + 5) (nI t.length) (A 5) 2 + (1 : Int32) = nI (c + 1) := by
          rw [h8.a (by decide), zup_n _ _ _ (by decide), zup_n _ _ _ (by decide), g7 5 2 (by omega) (by omega), v5.2.2.2.2.1, nI_1]
        rw [e52]
        have h9 := h8.up (f := 5) (by decide) 2 (nI (c + 1))
        refine w1 _ _ _ _ hc' rfl h9 ?_ (by simp [zup_at]) rfl ⟨rfl, ?_, ?_, hfi.1, ?_, hu128, ?_, ?_, rfl, rfl, l2, txtP_lt e7, fun i hi => ?_⟩ ?_ (fun f j a1 a2 a3 a4 => ?_) hqL
        · simp [zup_at]; exact p7
        · simp [zup_at]; rw [g7 8 _ (by omega) (by omega)]; exact v5.2.2.1
        · simp [zup_at]; rw [g7 8 _ (by omega) (by omega)]; exact v5.2.2.2.1
        · simp [zup_at]; rw [g7 8 _ (by omega) (by omega)]; exact v5.2.2.2.2.2
        · simp [zup_at]
        · simp [zup_at]
        · rw [zup_n _ _ _ (by decide), zup_n _ _ _ (by decide), zup_n _ _ _ (by decide)]; exact hl7 i hi
        · simp [zup_at]; rw [g7 8 _ (by omega) (by omega)]; exact v5.2.1
        · rw [zup_at, if_neg a2, zup_at, if_neg (fun z => a3 ⟨z.1, by omega⟩), zup_at, if_neg (fun z => a3 ⟨z.1, by omega⟩), hf7 f j a1 a4, zup_at, if_neg a1]; exact f5 f j a1 a3
  refine r_Mo_test_57 ⟨fun z => cont 61 ((mO_eq (c := 61) hb (by omega)).mp z) (by simp), fun z => ⟨fun z2 => cont 35 ((mO_eq (c := 35) hb (by omega)).mp z2) (by simp), fun z2 => ⟨fun z3 => cont 60 ((mO_eq (c := 60) hb (by omega)).mp z3) (by simp), fun z3 => ⟨fun z4 => cont 62 ((mO_eq (c := 62) hb (by omega)).mp z4) (by simp), fun z4 => ?_⟩⟩⟩⟩
  have e4 : tkP x L [61, 35, 60, 62] q1 = (none, sk x L q1) := tkP_none (fun u hu es => by
    simp only [List.mem_cons, List.mem_nil_iff, or_false] at hu
    rcases hu with y | y | y | y
    · exact z ((mO_eq (c := 61) hb (by omega)).mpr (by rw [es, y]))
    · exact z2 ((mO_eq (c := 35) hb (by omega)).mpr (by rw [es, y]))
    · exact z3 ((mO_eq (c := 60) hb (by omega)).mpr (by rw [es, y]))
    · exact z4 ((mO_eq (c := 62) hb (by omega)).mpr (by rw [es, y])))
  rw [e4] at w0
  exact w0 _ I4 _ hc' rfl h4 (zup_s _ _ _ _) hV4
/-- piece() -/
theorem mo_piece {c : Nat} (h : MS B K n I F J m A V T) (ht : mT V x L) (hp : V 0 3 = nI p) (hpL : p ≤ L) (hc : V 5 4 = nI c) (hc12 : c < 12)
    (w0 : ∀ q I' V', pieceP x L p = (none, q) → MS B K n I' F J m A V' T → V' 0 3 = nI q → pE V V' → Q (.inl (some (.int 0))) (K, n, I', F, J))
    (w1 : ∀ g q I' V', pieceP x L p = (some g, q) → MS B K n I' F J m A V' T → V' 0 3 = nI q → V' 5 4 = nI (c + 1) → pR V' c g → (∀ f j, ¬ (f = 0 ∧ j = 3) → ¬ (f = 5 ∧ j = 4) → ¬ (f = 10 ∧ 2 * c ≤ j) → ¬ (f = 11 ∧ 20 * (10 + c) ≤ j ∧ j < 20 * (10 + c) + 20) → V' f j = V f j) → q ≤ L → Q (.inl (some (.int 1))) (K, n, I', F, J)) :
    AW E m_Mo_piece (K, n, I, F, J) cb sb Q 0 [some (.ref m), none, none] [] := by
  have hk := sk_le (x := x) hpL
  have h5 := ht.2.1
  unfold pieceP at w0 w1
  refine r_Mo_piece_0 ⟨h.K9, _, h.f (f := 5) (by decide), h.k (by decide), 4, rfl, by rw [h.sz (by decide)]; decide, by decide, ?_⟩
  rw [h.a (by decide), hc]
  have e12 : ¬ nI c = (12 : Int32) := fun z => by have := (nI_eq (a := c) (b := 12) (by omega) (by omega)).mp z; omega
  have e2 : (2 : Int32) * nI c = nI (2 * c) := pk_mul 2 c
  rw [e2]
  refine ⟨fun _ => mo_sg h ht hp hpL (fun I1 h1 => ?_), fun z => absurd z e12⟩
  have hV1 : pE V (zup V 0 3 (nI (sk x L p))) := (pE.refl V).up (Or.inl ⟨rfl, rfl⟩)
  have hb := fun u => @sat_b V x L (sk x L p) u ht
  have bd : ∀ i, i < 2 → 2 * c + i < n (A 10) := fun i hi => by rw [h1.sz (by decide)]; show 2 * c + i < 48; omega
  have c5 : ∀ v : Int32, zup V 0 3 v 5 4 = nI c := fun v => by rw [zup_n _ _ _ (by decide)]; exact hc
  refine r_Mo_piece_26 ⟨fun z => ⟨h1.K9, mo_sg h1 (hV1.mT ht) (zup_s _ _ _ _) hk.2 (fun I2 h2 => ?_)⟩, fun z => ⟨h1.K9, _, h1.f (f := 5) (by decide), h1.k (by decide), 4, rfl, by rw [h1.sz (by decide)]; decide, by decide, ?_⟩⟩
  · rw [zup2, sk_sk] at h2
    rw [sk_sk]
    have n39 : sat x L (sk x L p) ≠ some 39 := fun y => z ((mO_eq (c := 39) hb (by omega)).mpr y)
    rw [if_neg n39] at w0 w1
    refine r_Mo_piece_78 ⟨fun z2 => ⟨h2.K9, _, h2.f (f := 10) (by decide), ?_⟩, fun z2 => ⟨h2.K9, _, h2.f (f := 10) (by decide), h2.k (by decide), 2 * c, rfl, bd 0 (by decide), by omega, ?_⟩⟩
    · have n120 : sat x L (sk x L p) ≠ some 120 := fun y => z2 ((mO_eq (c := 120) hb (by omega)).mpr y)
      rw [if_neg n120] at w0 w1
      refine mo_field (f := 10) (k := 2 * c) (most := 40) (by omega) (by show 2 * c + 1 < 48; omega) (by omega) h2 (hV1.mT ht) (zup_s _ _ _ _) hk.2 (fun q I3 e h3 => ?_) (fun a b q I3 e h3 => ?_)
      · rw [zup2] at h3
        rw [e] at w0
        exact r_Mo_piece_140 ⟨fun z => absurd rfl z, fun _ => w0 q I3 _ rfl h3 (zup_s _ _ _ _) ((pE.refl V).up (Or.inl ⟨rfl, rfl⟩))⟩
      · rw [zup2] at h3
        have hfi := fldP_in hk.2 e
        rw [e] at w1
        simp only [zbind] at w1
        refine r_Mo_piece_140 ⟨fun _ => ⟨h3.K9, _, h3.f (f := 5) (by decide), h3.k (by decide), 4, rfl, by rw [h3.sz (by decide)]; decide, by decide, ?_⟩, fun z => absurd z (by decide)⟩
        have e54 : I3 (A 5) 4 + (1 : Int32) = nI (c + 1) := by
          rw [h3.a (by decide), zup_n _ _ _ (by decide), zup_n _ _ _ (by decide), c5, nI_1]
        rw [e54]
        refine w1 _ _ _ _ rfl (h3.up (f := 5) (by decide) 4 (nI (c + 1))) (by simp [zup_at]) (by simp [zup_at]) (Or.inl ⟨by simp [zup_at], by simp [zup_at], hfi.1⟩) (fun f j a1 a2 a3 _ => ?_) (by omega)
        rw [zup_at, if_neg a2, zup_at, if_neg (fun z => a3 ⟨z.1, by omega⟩), zup_at, if_neg (fun z => a3 ⟨z.1, by omega⟩), zup_at, if_neg a1]
    · have e120 := (mO_eq (c := 120) hb (by omega)).mp z2
      have hlt := (sat_lx e120).1
      rw [if_pos e120] at w0 w1
      rw [h2.o, zup_s, nI_1]
      have h3 := (h2.up0 3 (nI (sk x L p + 1))).up (f := 10) (by decide) (2 * c) (-1 : Int32)
      rw [zup2] at h3
      have hV3 := ((pE.refl V).up (f := 0) (j := 3) (v := nI (sk x L p + 1)) (Or.inl ⟨rfl, rfl⟩)).up (f := 10) (j := 2 * c) (v := (-1 : Int32)) (Or.inr (by omega))
      have hn := numP_le (x := x) (L := L) (lo := 1) (hi := 40) (p := sk x L p + 1) (by omega)
      refine mo_num (lo := 1) (hi := 40) (p := sk x L p + 1) (by omega) (by omega) h3 (hV3.mT ht) (by simp [zup_at]) (by omega) (fun I4 h4 => ?_)
      cases e4 : numP x L 1 40 (sk x L p + 1) with
      | mk o4 q4 =>
      rw [e4] at h4 w0 w1 hn
      dsimp only at h4 hn
      refine r_Mo_piece_114 ⟨h4.k (by decide), 2 * c + 1, nI_1 _, bd 1 (by decide), by omega, h4.K9, _, h4.f (f := 10) (by decide), h4.k (by decide), 2 * c + 1, nI_1 _, bd 1 (by decide), by omega, ?_⟩
      have h6 := h4.up (f := 10) (by decide) (2 * c + 1) (mO o4)
      have hV6 := (hV3.up (f := 0) (j := 3) (v := nI q4) (Or.inl ⟨rfl, rfl⟩)).up (f := 10) (j := 2 * c + 1) (v := mO o4) (Or.inr (by omega))
      rw [zup_s]
      cases o4 with
      | none =>
        refine ⟨fun z => absurd rfl z, fun _ => ?_⟩
        simp only [zbind] at w0
        exact w0 q4 _ _ rfl h6 (by simp [zup_at]) hV6
      | some v =>
        have hv := hn.2 v rfl
        refine ⟨fun _ => ⟨_, h4.f (f := 5) (by decide), h4.k (by decide), 4, rfl, by rw [h4.sz (by decide)]; decide, by decide, ?_⟩, fun z => absurd z (nI_m1 (by omega))⟩
        have e54 : zup I4 (A 10) (2 * c + 1) (mO (some v)) (A 5) 4 + (1 : Int32) = nI (c + 1) := by
          rw [h6.a (by decide), zup_n _ _ _ (by decide), zup_n _ _ _ (by decide), zup_n _ _ _ (by decide), c5, nI_1]
        rw [e54]
        simp only [zbind] at w1
        refine w1 _ _ _ _ rfl (h6.up (f := 5) (by decide) 4 (nI (c + 1))) (by simp [zup_at]) (by simp [zup_at]) (Or.inr ⟨by simp [zup_at], by simp [zup_at, mO], rfl, hv.2.1, rfl⟩) (fun f j a1 a2 a3 _ => ?_) hn.1
        rw [zup_at, if_neg a2, zup_at, if_neg (fun z => a3 ⟨z.1, by omega⟩), zup_at, if_neg a1, zup_at, if_neg (fun z => a3 ⟨z.1, by omega⟩), zup_at, if_neg a1]
  · have e39 := (mO_eq (c := 39) hb (by omega)).mp z
    have hlt := (sat_lx e39).1
    rw [if_pos e39] at w0 w1
    have e20 : (20 : Int32) * ((10 : Int32) + I1 (A 5) 4) = nI (20 * (10 + c)) := by
      rw [h1.a (by decide), c5]
      show nI 20 * (nI 10 + nI c) = _
      rw [nI_add, pk_mul]
    rw [e20]
    refine mo_letters (fr := 20 * (10 + c)) (by omega) h1 (hV1.mT ht) (zup_s _ _ _ _) hlt (fun q I3 V3 e h3 p3 hV3 => ?_) (fun t q I3 V3 e h3 p3 l1 l2 hl3 hf3 => ?_)
    · rw [e] at w0
      exact r_Mo_piece_47 ⟨fun z => absurd rfl z, fun _ => w0 q I3 V3 rfl h3 p3 (hV1.tr hV3)⟩
    · rw [e] at w1
      simp only [zbind] at w1
      have hqL : q ≤ L := by
        have := ok_txt (x := x) (L := L) (p := sk x L p + 1) (by omega)
        rw [e] at this; exact this.2
      refine r_Mo_piece_47 ⟨fun _ => ⟨h3.K9, _, h3.f (f := 10) (by decide), h3.k (by decide), 2 * c, rfl, bd 0 (by decide), by omega, 2 * c + 1, nI_1 _, bd 1 (by decide), by omega, _, h3.f (f := 5) (by decide), h3.k (by decide), 4, rfl, by rw [h3.sz (by decide)]; decide, by decide, ?_⟩, fun z => absurd z (nI_m1 (by omega))⟩
      have h4 := (h3.up (f := 10) (by decide) (2 * c) (0 : Int32)).up (f := 10) (by decide) (2 * c + 1) (nI t.length)
      have e54 : zup (zup I3 (A 10) (2 * c) (0 : Int32)) (A 10) (2 * c + 1) (nI t.length) (A 5) 4 + (1 : Int32) = nI (c + 1) := by
        rw [h4.a (by decide), zup_n _ _ _ (by decide), zup_n _ _ _ (by decide), hf3 5 4 (by omega) (by omega), c5, nI_1]
      rw [e54]
      refine w1 _ _ _ _ rfl (h4.up (f := 5) (by decide) 4 (nI (c + 1))) ?_ (by simp [zup_at]) (Or.inl ⟨by simp [zup_at], by simp [zup_at], rfl, rfl, l2, txtP_lt e, fun i hi => ?_⟩) (fun f j a1 a2 a3 a4 => ?_) hqL
      · simp [zup_at]; exact p3
      · rw [zup_n _ _ _ (by decide), zup_n _ _ _ (by decide), zup_n _ _ _ (by decide)]; exact hl3 i hi
      · rw [zup_at, if_neg a2, zup_at, if_neg (fun z => a3 ⟨z.1, by omega⟩), zup_at, if_neg (fun z => a3 ⟨z.1, by omega⟩), hf3 f j a1 a4, zup_at, if_neg a1]
end
