-- ===== the reference: plain, join =====
section
variable {E : zE} {B : (Nat → Nat → Int32) × (Nat → Nat → Int64)} {K n : Nat → Nat} {F : Nat → Nat → Option Nat} {J : Nat → Nat → Int64} {m : Nat} {A : Nat → Nat} {T : Nat → Int64} {cb sb : Nat} {Q : zO → zH → Prop}
/-- a row of an output is copied -/
theorem mo_plC {o i j : Nat} {g : Bool} {r : List Nat} (ho : o < 3) (hi : 1 ≤ i ∧ i - 1 + j < 150) (hj : j < 2) (hi2 : i < 150) : ∀ (d k : Nat) (I : Nat → Nat → Int32) (V : Nat → Nat → Int32), k + d = 100 → MS B K n I F J m A V T → oR V o (i - 1 + j) r → V 41 j = nI r.length → (∀ q, q < k → q < r.length → V 40 (100 * j + q) = nI (r.getD q 0)) →
    (∀ I' V', MS B K n I' F J m A V' T → mRT V' 40 41 j r → (∀ f q, ¬ (f = 40 ∧ 100 * j ≤ q ∧ q < 100 * j + 100) → V' f q = V f q) → AW E m_Mo_plain (K, n, I', F, J) cb sb Q 21 [some (.ref m), some (.int (nI o)), some (.int (zB g)), some (.int (nI i)), some (.int (nI (j + 1))), none] []) →
    AW E m_Mo_plain (K, n, I, F, J) cb sb Q 54 [some (.ref m), some (.int (nI o)), some (.int (zB g)), some (.int (nI i)), some (.int (nI j)), some (.int (nI k))] []
  | 0, k, I, V, hk, h, hr, h41, hq, w => by
    obtain ⟨r1, r2, r3, r4⟩ := hr
    refine r_Mo_plain_54 (br_t ((nI_leI (a := 100) (b := k) (by omega) (by omega)).mpr (by omega)) ?_)
    rw [nI_1]
    exact w I V h ⟨⟨h41, r2, r3, fun q hq' => hq q (by omega) hq'⟩, by show 100 * j + 100 ≤ 200; omega, hj, by omega⟩ (fun _ _ _ => rfl)
  | d + 1, k, I, V, hk, h, hr, h41, hq, w => by
    obtain ⟨r1, r2, r3, r4⟩ := id hr
    have e1 : (15000 : Int32) * nI o + (100 : Int32) * (nI i - (1 : Int32) + nI j) + nI k = nI (15000 * o + 100 * (i - 1 + j) + k) := by
      rw [zsub1 hi.1]
      show nI 15000 * nI o + nI 100 * (nI (i - 1) + nI j) + nI k = _
      rw [nI_add, pk_mul, pk_mul, nI_add, nI_add]
    have e2 : (100 : Int32) * nI j + nI k = nI (100 * j + k) := by
      show nI 100 * nI j + _ = _
      rw [pk_mul, nI_add]
    refine r_Mo_plain_54 (br_f (nI_ge (b := 100) (by omega) (by omega)) ⟨h.K9, _, h.f (f := 40) (by decide), _, h.f (f := 24) (by decide), h.k (by decide), 15000 * o + 100 * (i - 1 + j) + k, e1, by rw [h.sz (by decide)]; show 15000 * o + 100 * (i - 1 + j) + k < 45000; omega, by omega, h.k (by decide), 100 * j + k, e2, by rw [h.sz (by decide)]; show 100 * j + k < 200; omega, by omega, ?_⟩)
    rw [h.a (by decide), nI_1]
    refine mo_plC ho hi hj hi2 d (k + 1) _ _ (by omega) (h.up (f := 40) (by decide) (100 * j + k) _) (mR.fr hr (by rw [zup_n _ _ _ (by decide)]) (fun q _ _ => by rw [zup_n _ _ _ (by decide)])) (by rw [zup_n _ _ _ (by decide)]; exact h41) (fun q hq1 hq2 => ?_) (fun I' V' h' r' f' => w I' V' h' r' (fun f q a => ?_))
    · rw [zup_at]
      by_cases e : q = k
      · subst e; rw [if_pos ⟨rfl, rfl⟩]; exact r4 q hq2
      · rw [if_neg (fun z => e (by omega))]; exact hq q (by omega) hq2
    · rw [f' f q a, zup_at, if_neg (fun z => a ⟨z.1, by omega, by omega⟩)]
theorem mo_plainL {o : Nat} {st : zStm} {b : Nat → Bool} {Bo : Nat → List (List Nat)} (ho : o < 3) : ∀ (d i : Nat) (g : Bool) (I : Nat → Nat → Int32) (V : Nat → Nat → Int32), i + d = (Bo o).length ∨ ((Bo o).length ≤ i ∧ d = 0 ∧ i ≤ 200) → 1 ≤ i → MS B K n I F J m A V T → mB V b st → mBs V Bo →
    (∀ I' V', MS B K n I' F J m A V' T → (∀ f j, f ≠ 40 → f ≠ 41 → V' f j = V f j) → Q (.inl (some (.int (zB (g && ordF st.1 (Bo o) i d))))) (K, n, I', F, J)) →
    AW E m_Mo_plain (K, n, I, F, J) cb sb Q 9 [some (.ref m), some (.int (nI o)), some (.int (zB g)), some (.int (nI i)), none, none] []
  | 0, i, g, I, V, hi, hi1, h, hS, hB, w => by
    have hb2 := (hB o ho).2
    refine r_Mo_plain_9 ⟨h.K9, mo_isOut h hB (fun hx hy => ?_) (fun _ => r_Mo_plain_15 ⟨fun _ => ⟨zB_01 g, ?_⟩, fun z => absurd rfl z⟩)⟩
    · rw [xN_n (by omega), inR_n (by omega) (by omega)] at hy; omega
    · have w' := w I V h (fun _ _ _ _ => rfl)
      unfold ordF at w'
      rw [Bool.and_true] at w'
      exact w'
  | d + 1, i, g, I, V, hi, hi1, h, hS, hB, w => by
    have hb2 := (hB o ho).2
    have hil : i < (Bo o).length := by omega
    have r0 := (hB o ho).1.2 (i - 1) (by omega)
    have r1 := (hB o ho).1.2 i hil
    refine r_Mo_plain_9 ⟨h.K9, mo_isOut h hB (fun _ _ => r_Mo_plain_15 ⟨fun z => absurd z (by decide), fun _ => ?_⟩) (fun hn => absurd ⟨(inR_n (by omega) (by decide)).mpr ho, by rw [xN_n (by omega)]; exact (inR_n (by omega) (by omega)).mpr hil⟩ hn)⟩
    have bd41 : ∀ j, j < 2 → j < n (A 41) := fun j hj => by rw [h.sz (by decide)]; exact hj
    have e25 : ∀ j, j < 2 → (150 : Int32) * nI o + nI i - (1 : Int32) + nI j = nI (150 * o + (i - 1 + j)) := fun j hj => by
      show nI 150 * nI o + nI i - nI 1 + nI j = _
      rw [pk_mul, nI_add, pk_sub (by omega), nI_add]; congr 1; omega
    refine r_Mo_plain_21 (br_f (by decide) ⟨h.K9, _, h.f (f := 41) (by decide), _, h.f (f := 25) (by decide), h.k (by decide), 150 * o + (i - 1 + 0), e25 0 (by decide), by rw [h.sz (by decide)]; show 150 * o + (i - 1 + 0) < 450; omega, by omega, h.k (by decide), 0, rfl, bd41 0 (by decide), by decide, ?_⟩)
    rw [h.a (by decide), show V 25 (150 * o + (i - 1 + 0)) = nI ((Bo o).getD (i - 1) []).length from r0.1]
    refine mo_plC (j := 0) (r := (Bo o).getD (i - 1) []) ho ⟨hi1, by omega⟩ (by decide) (by omega) 100 0 _ _ (by omega) (h.up (f := 41) (by decide) 0 _) (mR.fr r0 (by rw [zup_n _ _ _ (by decide)]) (fun q _ _ => by rw [zup_n _ _ _ (by decide)])) (zup_s _ _ _ _) (fun q hq _ => by omega) (fun I1 V1 h1 c1 f1 => ?_)
    have g1 : ∀ f j, f ≠ 40 → f ≠ 41 → V1 f j = V f j := fun f j a1 a2 => by rw [f1 f j (fun z => a1 z.1), zup_n _ _ _ a2]
    have r1' : oR V1 o i ((Bo o).getD i []) := mR.fr r1 (g1 25 _ (by omega) (by omega)) (fun q _ _ => g1 24 q (by omega) (by omega))
    refine r_Mo_plain_21 (br_f (by decide) ⟨h1.K9, _, h1.f (f := 41) (by decide), _, h1.f (f := 25) (by decide), h1.k (by decide), 150 * o + (i - 1 + 1), e25 1 (by decide), by rw [h1.sz (by decide)]; show 150 * o + (i - 1 + 1) < 450; omega, by omega, h1.k (by decide), 1, rfl, bd41 1 (by decide), by decide, ?_⟩)
    have ei : i - 1 + 1 = i := by omega
    rw [h1.a (by decide), ei, show V1 25 (150 * o + i) = nI ((Bo o).getD i []).length from r1'.1]
    refine mo_plC (j := 1) (r := (Bo o).getD i []) ho ⟨hi1, by omega⟩ (by decide) (by omega) 100 0 _ _ (by omega) (h1.up (f := 41) (by decide) 1 _) (by rw [ei]; exact mR.fr r1' (by rw [zup_n _ _ _ (by decide)]) (fun q _ _ => by rw [zup_n _ _ _ (by decide)])) (zup_s _ _ _ _) (fun q hq _ => by omega) (fun I2 V2 h2 c2 f2 => ?_)
    have g2 : ∀ f j, f ≠ 40 → f ≠ 41 → V2 f j = V f j := fun f j a1 a2 => by rw [f2 f j (fun z => a1 z.1), zup_n _ _ _ a2, g1 f j a1 a2]
    have c1' : mRT V2 40 41 0 ((Bo o).getD (i - 1) []) := c1.fr (by rw [f2 41 0 (by omega), zup_k _ _ _ (by decide)]) (fun q q1 q2 => by rw [f2 40 q (by omega), zup_n _ _ _ (by decide)])
    have hS2 : mB V2 b st := hS.oF (fun f j a1 a2 => g2 f j (by omega) (by omega))
    have hB2 : mBs V2 Bo := hB.fr (fun f j a1 a2 => g2 f j (by omega) (by omega))
    have nx : ∀ g' : Bool, (g' && ordF st.1 (Bo o) (i + 1) d) = (g && ordF st.1 (Bo o) i (d + 1)) → AW E m_Mo_plain (K, n, I2, F, J) cb sb Q 9 [some (.ref m), some (.int (nI o)), some (.int (zB g')), some (.int (nI i + (1 : Int32))), none, none] [] := fun g' e => by
      rw [nI_1]
      refine mo_plainL ho d (i + 1) g' I2 V2 (by omega) (by omega) h2 hS2 hB2 (fun I3 V3 h3 f3 => ?_)
      rw [e]
      exact w I3 V3 h3 (fun f j a1 a2 => by rw [f3 f j a1 a2, g2 f j a1 a2])
    refine r_Mo_plain_21 (br_t (by decide) ⟨fun z => ?_, fun z => ⟨h2.K9, _, h2.f (f := 40) (by decide), _, h2.f (f := 41) (by decide), mo_byKeys (t := 0) (t' := 1) h2 hS2.1 c1' c2 (r_Mo_plain_135 ⟨fun y => nx false ?_, fun y => nx true ?_⟩)⟩⟩)
    · have hg : g = false := (zB_0 g).mp z
      exact nx false (by rw [hg]; rfl)
    · have := (sgn_gt _).1.mp y
      unfold ordF
      rw [if_neg (by omega), Bool.and_false, Bool.false_and]
    · have hg : g = true := by
        cases g
        · exact absurd rfl z
        · rfl
      have : cmpR st.1 ((Bo o).getD (i - 1) []) ((Bo o).getD i []) ≤ 0 := Int.not_lt.mp (fun q => y ((sgn_gt _).1.mpr q))
      conv => rhs; unfold ordF
      rw [if_pos this, hg]
end
section
variable {E : zE} {B : (Nat → Nat → Int32) × (Nat → Nat → Int64)} {K n : Nat → Nat} {I : Nat → Nat → Int32} {F : Nat → Nat → Option Nat} {J : Nat → Nat → Int64} {m : Nat} {A : Nat → Nat} {V : Nat → Nat → Int32} {T : Nat → Int64} {cb sb : Nat} {Q : zO → zH → Prop}
theorem mo_plain {st : zStm} {b : Nat → Bool} {Bo : Nat → List (List Nat)} {x : Int32} (h : MS B K n I F J m A V T) (hS : mB V b st) (hB : mBs V Bo) (w : ∀ I' V', MS B K n I' F J m A V' T → (∀ f j, ¬ (f = 0 ∧ j = 0) → f ≠ 40 → f ≠ 41 → V' f j = V f j) → Q (.inl (some (.int (plainA st.1 Bo x)))) (K, n, I', F, J)) :
    AW E m_Mo_plain (K, n, I, F, J) cb sb Q 0 [some (.ref m), some (.int x), none, none, none, none] [] := by
  have h1 := h.up0 0 (0 : Int32)
  have hB1 : mBs (zup V 0 0 0) Bo := hB.fr (fun f j a1 a2 => by rw [zup_n _ _ _ (by omega)])
  have hS1 : mB (zup V 0 0 0) b st := hS.oF (fun f j a1 a2 => by rw [zup_n _ _ _ (by omega)])
  unfold plainA at w
  refine r_Mo_plain_0 ⟨h.K9, ?_⟩
  by_cases hx : inR x 3
  · obtain ⟨o, ho, eo, eo2⟩ := inR_e (by decide) hx
    rw [if_pos hx, eo2] at w
    rw [eo]
    have hb2 := (hB o ho).2
    refine mo_plainL (g := true) ho ((Bo o).length - 1) 1 _ _ (by omega) (by omega) h1 hS1 hB1 (fun I' V' h' f' => ?_)
    rw [Bool.true_and]
    exact w I' V' h' (fun f j a1 a2 a3 => by rw [f' f j a2 a3, zup_at, if_neg a1])
  · rw [if_neg hx] at w
    refine r_Mo_plain_9 ⟨h.K9, mo_isOut (y := 1) h1 hB1 (fun hx' _ => absurd hx' hx) (fun _ => r_Mo_plain_15 ⟨fun _ => ⟨Or.inr rfl, w _ _ h1 (fun f j a1 _ _ => by rw [zup_at, if_neg a1])⟩, fun z => absurd rfl z⟩)⟩
end
-- ===== join =====
theorem longF_ge (rc : zRec) (a : Nat) : ∀ (d i acc : Nat), acc ≤ longF rc a d i acc ∧ ∀ t, i ≤ t → t < i + d → (rc t).1 = a → (rc t).2.length ≤ longF rc a d i acc
  | 0, i, acc => ⟨Nat.le_refl _, fun t h1 h2 => by omega⟩
  | d + 1, i, acc => by
    unfold longF
    have := longF_ge rc a d (i + 1) (if (rc i).1 = a then max acc (rc i).2.length else acc)
    refine ⟨?_, fun t h1 h2 ha => ?_⟩
    · by_cases e : (rc i).1 = a
      · rw [if_pos e] at this ⊢; have := this.1; omega
      · rw [if_neg e] at this ⊢; exact this.1
    · by_cases e : t = i
      · subst e
        have h := this.1
        rw [if_pos ha] at h ⊢
        omega
      · exact this.2 t (by omega) (by omega) ha
theorem fold_rep : ∀ (k : Nat) (r : List Nat), r.length + k ≤ 100 → (List.replicate k 32).foldl zapp r = r ++ List.replicate k 32
  | 0, r, _ => by simp
  | k + 1, r, h => by
    rw [List.replicate_succ, List.foldl_cons]
    have e : zapp r 32 = r ++ [32] := by unfold zapp; rw [if_pos (by omega)]
    rw [e, fold_rep k (r ++ [32]) (by simp; omega)]
    simp
theorem jrow_pad {wd : Nat} {r r' : List Nat} (h : r.length ≤ wd) (hw : wd ≤ 100) : jrow wd r r' = r'.foldl zapp (padT r wd) := by
  unfold jrow
  rw [fold_rep _ _ (by omega)]; rfl
theorem padT_at {r : List Nat} {wd k : Nat} (h : k < wd) (hr : r.length ≤ wd) : (padT r wd).getD k 0 = oct r k := by
  unfold padT oct
  rw [List.getD_eq_getElem?_getD, List.getD_eq_getElem?_getD]
  by_cases e : k < r.length
  · rw [List.getElem?_append_left e, List.getElem?_eq_getElem e]; rfl
  · rw [List.getElem?_append_right (by omega), List.getElem?_replicate, if_pos (by omega), List.getElem?_eq_none (by omega)]; rfl
section
variable {E : zE} {B : (Nat → Nat → Int32) × (Nat → Nat → Int64)} {K n : Nat → Nat} {F : Nat → Nat → Option Nat} {J : Nat → Nat → Int64} {m : Nat} {A : Nat → Nat} {T : Nat → Int64} {cb sb : Nat} {Q : zO → zH → Prop} {rc : zRec} {M : Nat}
/-- the longest record of an input -/
theorem mo_lgL {a : Nat} {x2 : Int32} (ha : a < 3) : ∀ (d i acc : Nat) (I : Nat → Nat → Int32) (V : Nat → Nat → Int32), i + d = M → acc ≤ 100 → MS B K n I F J m A V T → mRec V rc M →
    (∀ I', MS B K n I' F J m A (zup (zup V 26 2 0) 0 30 0) T → AW E m_Mo_join (K, n, I', F, J) cb sb Q 108 [some (.ref m), some (.int (nI a)), some (.int x2), some (.int (nI (longF rc a d i acc))), some (.int (0 : Int32)), none, none, none] []) →
    AW E m_Mo_join (K, n, I, F, J) cb sb Q 44 [some (.ref m), some (.int (nI a)), some (.int x2), some (.int (nI acc)), some (.int (nI i)), none, none, none] []
  | 0, i, acc, I, V, hi, hac, h, hR, w => by
    have hM := hR.2.1
    refine r_Mo_join_44 ⟨h.K9, ?_⟩
    rw [h.o, hR.1]
    exact br_t ((nI_leI (by omega) (by omega)).mpr (by omega)) ⟨_, h.f (f := 26) (by decide), h.k (by decide), 2, rfl, by rw [h.sz (by decide)]; decide, by decide, w _ ((h.up (f := 26) (by decide) 2 0).up0 30 0)⟩
  | d + 1, i, acc, I, V, hi, hac, h, hR, w => by
    have hM := hR.2.1
    have hiM : i < M := by omega
    obtain ⟨r1, r2, r3⟩ := hR.2.2 i hiM
    have hl := r1.1.2.1
    unfold longF at w
    refine r_Mo_join_44 ⟨h.K9, ?_⟩
    rw [h.o, hR.1]
    refine br_f (nI_ge (by omega) (by omega)) ⟨_, h.f (f := 14) (by decide), h.k (by decide), i, rfl, by rw [h.sz (by decide)]; show i < 150; omega, by omega, ?_⟩
    rw [h.a (by decide), r2, nI_1]
    have e : nI (rc i).1 = nI a ↔ (rc i).1 = a := nI_eq (by omega) (by omega)
    refine ⟨fun z => ?_, fun z => ⟨_, h.f (f := 13) (by decide), h.k (by decide), i, rfl, by rw [h.sz (by decide)]; show i < 150; omega, by omega, ?_⟩⟩
    · rw [if_neg (fun y => z (e.mpr y))] at w
      exact mo_lgL ha d (i + 1) acc I V (by omega) hac h hR w
    · rw [if_pos (e.mp z)] at w
      rw [h.a (by decide), r1.1.1]
      refine pk_le (rc i).2.length acc (fun q => ?_) (fun q => ?_) rfl rfl (by omega) (by omega)
      · rw [Nat.max_eq_left q] at w
        exact mo_lgL ha d (i + 1) acc I V (by omega) hac h hR w
      · rw [Nat.max_eq_right (by omega)] at w
        exact mo_lgL ha d (i + 1) _ I V (by omega) hl h hR w
/-- the second row is put behind the first -/
theorem mo_jbL {i q a wd : Nat} {x1 x2 x5 : Int32} {acc : List Nat} {Lf : List (List Nat)} (hq : q < M) (hL : Lf.length < 150) : ∀ (d k : Nat) (acc : List Nat) (I : Nat → Nat → Int32) (V : Nat → Nat → Int32), k + d = (rc q).2.length → MS B K n I F J m A V T → mRec V rc M → V 26 2 = nI Lf.length → oR V 2 Lf.length acc →
    (∀ I' V', MS B K n I' F J m A V' T → oR V' 2 Lf.length (((rc q).2.drop k).foldl zapp acc) → V' 26 2 = nI (Lf.length + 1) → (∀ f j, ¬ (f = 24 ∧ 15000 * 2 + 100 * Lf.length ≤ j ∧ j < 15000 * 2 + 100 * Lf.length + 100) → ¬ (f = 25 ∧ j = 150 * 2 + Lf.length) → ¬ (f = 26 ∧ j = 2) → V' f j = V f j) → AW E m_Mo_join (K, n, I', F, J) cb sb Q 137 [some (.ref m), some (.int x1), some (.int x2), some (.int (nI wd)), some (.int (nI i)), some (.int x5), some (.int (nI (q + 1))), none] []) →
    AW E m_Mo_join (K, n, I, F, J) cb sb Q 249 [some (.ref m), some (.int x1), some (.int x2), some (.int (nI wd)), some (.int (nI i)), some (.int x5), some (.int (nI q)), some (.int (nI k))] []
  | d, k, acc, I, V, hk, h, hR, h26, ho, w => by
    obtain ⟨r1, r2, r3⟩ := hR.2.2 q hq
    have hl := r1.1.2.1
    have hM := hR.2.1
    refine r_Mo_join_249 ⟨h.K9, _, h.f (f := 13) (by decide), h.k (by decide), q, rfl, by rw [h.sz (by decide)]; show q < 150; omega, by omega, ?_⟩
    rw [h.a (by decide), r1.1.1]
    cases d with
    | zero =>
      rw [List.drop_of_length_le (by omega)] at w
      refine br_t ((nI_leI (by omega) (by omega)).mpr (by omega)) ⟨_, h.f (f := 26) (by decide), h.k (by decide), 2, rfl, by rw [h.sz (by decide)]; decide, by decide, ?_⟩
      rw [h.a (by decide), h26, nI_1, nI_1]
      exact w _ _ (h.up (f := 26) (by decide) 2 (nI (Lf.length + 1))) (mR.fr ho (by rw [zup_n _ _ _ (by decide)]) (fun j _ _ => by rw [zup_n _ _ _ (by decide)])) (zup_s _ _ _ _) (fun f j _ _ a => by rw [zup_at, if_neg a])
    | succ d =>
      have ex : (100 : Int32) * nI q + nI k = nI (100 * q + k) := by
        show nI 100 * nI q + _ = _
        rw [pk_mul, nI_add]
      refine br_f (nI_ge (by omega) (by omega)) ⟨_, h.f (f := 12) (by decide), h.k (by decide), 100 * q + k, ex, by rw [h.sz (by decide)]; show 100 * q + k < 15000; omega, by omega, ?_⟩
      rw [h.a (by decide), r1.1.2.2.2 k (by omega)]
      have ed : (rc q).2.drop k = (rc q).2.getD k 0 :: (rc q).2.drop (k + 1) := by
        rw [List.drop_eq_getElem_cons (by omega)]
        congr 1
        rw [List.getD_eq_getElem?_getD, List.getElem?_eq_getElem (by omega)]; rfl
      rw [ed, List.foldl_cons] at w
      refine mo_put (o := 2) h (by decide) h26 hL ho (zgetD_lt r1.1.2.2.1 (by omega)) (fun I' V' h' ho' hf => r_Mo_join_279 ?_)
      rw [nI_1]
      exact mo_jbL (a := a) (acc := acc) hq hL d (k + 1) _ I' V' (by omega) h' (hR.fr (hf 0 15 (by omega) (by omega)) (fun f j hff => hf f j (by omega) (by omega))) (by rw [hf 26 2 (by omega) (by omega)]; exact h26) ho' (fun I2 V2 h2 o2 k2 f2 => w I2 V2 h2 o2 k2 (fun f j a1 a2 a3 => by rw [f2 f j a1 a2 a3, hf f j a1 a2]))
/-- the first row, up to the width -/
theorem mo_jaL {i q wd : Nat} {x1 x2 x5 : Int32} {Lf : List (List Nat)} (hi : i < M) (hq : q < M) (hwd : wd ≤ 100) (hiw : (rc i).2.length ≤ wd) (hL : Lf.length < 150) : ∀ (d k : Nat) (I : Nat → Nat → Int32) (V : Nat → Nat → Int32), k + d = wd → MS B K n I F J m A V T → mRec V rc M → V 26 2 = nI Lf.length → oR V 2 Lf.length ((padT (rc i).2 wd).take k) →
    (∀ I' V', MS B K n I' F J m A V' T → oR V' 2 Lf.length (jrow wd (rc i).2 (rc q).2) → V' 26 2 = nI (Lf.length + 1) → (∀ f j, ¬ (f = 24 ∧ 15000 * 2 + 100 * Lf.length ≤ j ∧ j < 15000 * 2 + 100 * Lf.length + 100) → ¬ (f = 25 ∧ j = 150 * 2 + Lf.length) → ¬ (f = 26 ∧ j = 2) → V' f j = V f j) → AW E m_Mo_join (K, n, I', F, J) cb sb Q 137 [some (.ref m), some (.int x1), some (.int x2), some (.int (nI wd)), some (.int (nI i)), some (.int x5), some (.int (nI (q + 1))), none] []) →
    AW E m_Mo_join (K, n, I, F, J) cb sb Q 214 [some (.ref m), some (.int x1), some (.int x2), some (.int (nI wd)), some (.int (nI i)), some (.int x5), some (.int (nI q)), some (.int (nI k))] []
  | 0, k, I, V, hk, h, hR, h26, ho, w => by
    have hpl : (padT (rc i).2 wd).length = wd := by rw [padT_len]; omega
    rw [List.take_of_length_le (by omega)] at ho
    refine r_Mo_join_214 (br_t ((nI_leI (by omega) (by omega)).mpr (by omega)) ?_)
    rw [jrow_pad hiw hwd] at w
    exact mo_jbL (a := 0) (acc := []) hq hL (rc q).2.length 0 _ I V (by omega) h hR h26 ho w
  | d + 1, k, I, V, hk, h, hR, h26, ho, w => by
    have hpl : (padT (rc i).2 wd).length = wd := by rw [padT_len]; omega
    obtain ⟨r1, r2, r3⟩ := hR.2.2 i hi
    refine r_Mo_join_214 (br_f (nI_ge (by omega) (by omega)) ⟨h.K9, _, h.f (f := 12) (by decide), _, h.f (f := 13) (by decide), mo_byteOf h r1 (by omega) (r_Mo_join_237 ⟨h.K9, ?_⟩)⟩)
    refine mo_put (o := 2) h (by decide) h26 hL ho (oct_lt r1.1.2.2.1 k) (fun I' V' h' ho' hf => r_Mo_join_240 ?_)
    rw [← padT_at (wd := wd) (by omega) hiw, take_zapp (by omega) (by omega)] at ho'
    rw [nI_1]
    exact mo_jaL hi hq hwd hiw hL d (k + 1) I' V' (by omega) h' (hR.fr (hf 0 15 (by omega) (by omega)) (fun f j hff => hf f j (by omega) (by omega))) (by rw [hf 26 2 (by omega) (by omega)]; exact h26) ho' (fun I2 V2 h2 o2 k2 f2 => w I2 V2 h2 o2 k2 (fun f j a1 a2 a3 => by rw [f2 f j a1 a2 a3, hf f j a1 a2]))
/-- a record and all of the other input -/
theorem mo_jwL {i b9 wd : Nat} {x1 : Int32} {key : zKey} {st : zStm} {b : Nat → Bool} (hi : i < M) (hb3 : b9 < 3) (hwd : wd ≤ 100) (hiw : (rc i).2.length ≤ wd) (hkey : st.1[0]? = some key) : ∀ (d q : Nat) (fo : Bool) (L : List (List Nat)) (I : Nat → Nat → Int32) (V : Nat → Nat → Int32), q + d = M → L.length ≤ 150 → MS B K n I F J m A V T → mB V b st → mRec V rc M → mRef V 2 L →
    (∀ I' V', MS B K n I' F J m A V' T → mRef V' 2 (jwF key rc b9 wd (rc i).2 d q fo L).2 → (∀ f j, ¬ (f = 24 ∧ 30000 ≤ j) → ¬ (f = 25 ∧ 300 ≤ j) → ¬ (f = 26 ∧ j = 2) → V' f j = V f j) → AW E m_Mo_join (K, n, I', F, J) cb sb Q 137 [some (.ref m), some (.int x1), some (.int (nI b9)), some (.int (nI wd)), some (.int (nI i)), some (.int (zB (! (jwF key rc b9 wd (rc i).2 d q fo L).1))), some (.int (nI M)), none] []) →
    AW E m_Mo_join (K, n, I, F, J) cb sb Q 137 [some (.ref m), some (.int x1), some (.int (nI b9)), some (.int (nI wd)), some (.int (nI i)), some (.int (zB (! fo))), some (.int (nI q)), none] []
  | 0, q, fo, L, I, V, hq, hL, h, hS, hR, hf, w => by
    have w' := w I V h hf (fun _ _ _ _ _ => rfl)
    have : q = M := by omega
    rw [this]
    exact w'
  | d + 1, q, fo, L, I, V, hq, hL, h, hS, hR, hf, w => by
    have hM := hR.2.1
    have hqM : q < M := by omega
    obtain ⟨r1, r2, r3⟩ := hR.2.2 q hqM
    obtain ⟨s1, s2, s3⟩ := hR.2.2 i hi
    have hk := hS.1.2.2.1 0 key hkey
    unfold jwF at w
    have e : nI (rc q).1 = nI b9 ↔ (rc q).1 = b9 := nI_eq (by omega) (by omega)
    refine r_Mo_join_137 ⟨h.K9, ?_⟩
    rw [h.o, hR.1]
    refine br_f (nI_ge (by omega) (by omega)) ⟨_, h.f (f := 14) (by decide), h.k (by decide), q, rfl, by rw [h.sz (by decide)]; show q < 150; omega, by omega, ?_⟩
    rw [h.a (by decide), r2]
    have skip : ¬ ((rc q).1 = b9 ∧ cmpK key (rc i).2 (rc q).2 = 0) → AW E m_Mo_join (K, n, I, F, J) cb sb Q 137 [some (.ref m), some (.int x1), some (.int (nI b9)), some (.int (nI wd)), some (.int (nI i)), some (.int (zB (! fo))), some (.int (nI q + (1 : Int32))), none] [] := fun hn => by
      rw [if_neg hn] at w
      rw [nI_1]
      exact mo_jwL hi hb3 hwd hiw hkey d (q + 1) fo L I V (by omega) hL h hS hR hf w
    refine ⟨fun z => skip (fun y => z (e.mpr y.1)), fun z => ⟨_, h.f (f := 12) (by decide), _, h.f (f := 13) (by decide), mo_byKey (c := 0) h hk (by omega) s1 r1 (r_Mo_join_182 ⟨fun z2 => ⟨h.K9, _, h.f (f := 26) (by decide), h.k (by decide), 2, rfl, by rw [h.sz (by decide)]; decide, by decide, ?_⟩, fun z2 => skip (fun y => z2 ((sgn_0 _).mpr y.2))⟩)⟩⟩
    rw [if_pos ⟨e.mp z, (sgn_0 _).mp z2⟩] at w
    rw [h.a (by decide), hf.1]
    have e5 : nI L.length = (150 : Int32) ↔ L.length = 150 := nI_eq (a := L.length) (b := 150) (by omega) (by omega)
    refine ⟨fun z3 => ?_, fun z3 => ?_⟩
    · have hl : L.length < 150 := Nat.lt_of_le_of_ne hL (fun y => z3 (e5.mpr y))
      rw [if_pos hl] at w
      refine mo_begin (o := 2) h (by decide) hf.1 hl (fun I2 V2 h2 o2 f2 => r_Mo_join_211 ?_)
      refine mo_jaL (i := i) (q := q) hi hqM hwd hiw hl wd 0 I2 V2 (by omega) h2 (hR.fr (f2 0 15 (by omega) (by omega)) (fun f j hff => f2 f j (by omega) (by omega))) (by rw [f2 26 2 (by omega) (by omega)]; exact hf.1) o2 (fun I3 V3 h3 o3 k3 f3 => ?_)
      have g3 : ∀ f j, ¬ (f = 24 ∧ 15000 * 2 + 100 * L.length ≤ j ∧ j < 15000 * 2 + 100 * L.length + 100) → ¬ (f = 25 ∧ j = 150 * 2 + L.length) → ¬ (f = 26 ∧ j = 2) → V3 f j = V f j := fun f j a1 a2 a3 => by rw [f3 f j a1 a2 a3, f2 f j a1 a2]
      refine mo_jwL hi hb3 hwd hiw hkey d (q + 1) true (L ++ [jrow wd (rc i).2 (rc q).2]) I3 V3 (by omega) (by simp; omega) h3 (hS.oF (fun f j a1 a2 => g3 f j (by omega) (by omega) (by omega))) (hR.fr (g3 0 15 (by omega) (by omega) (by omega)) (fun f j hff => g3 f j (by omega) (by omega) (by omega))) ⟨by rw [k3]; simp, fun t ht => ?_⟩ (fun I4 V4 h4 r4 f4 => w I4 V4 h4 r4 (fun f j a1 a2 a3 => by rw [f4 f j a1 a2 a3]; exact g3 f j (by omega) (by omega) a3))
      simp at ht
      by_cases e9 : t = L.length
      · subst e9; rw [getD_lst]; exact o3
      · rw [getD_app (by omega)]
        exact mR.fr (hf.2 t (by omega)) (g3 25 _ (by omega) (by omega) (by omega)) (fun j j1 j2 => g3 24 j (by omega) (by omega) (by omega))
    · rw [if_neg (by have := e5.mp z3; omega)] at w
      rw [nI_1]
      exact mo_jwL hi hb3 hwd hiw hkey d (q + 1) true L I V (by omega) hL h hS hR hf w
/-- all records of the first input -/
theorem mo_jnL {a b9 wd : Nat} {key : zKey} {st : zStm} {b : Nat → Bool} (ha3 : a < 3) (hb3 : b9 < 3) (hwd : wd ≤ 100) (hw : ∀ t, t < M → (rc t).1 = a → (rc t).2.length ≤ wd) (hkey : st.1[0]? = some key) : ∀ (d i : Nat) (L : List (List Nat)) (u : List Nat) (I : Nat → Nat → Int32) (V : Nat → Nat → Int32), i + d = M → L.length ≤ 150 → u.length ≤ i → MS B K n I F J m A V T → mB V b st → mRec V rc M → mRef V 2 L → mLf V u →
    (∀ I' V', MS B K n I' F J m A V' T → mRef V' 2 (jnF key rc a b9 wd M d i L u).1 → mLf V' (jnF key rc a b9 wd M d i L u).2 → (∀ f j, ¬ (f = 24 ∧ 30000 ≤ j) → ¬ (f = 25 ∧ 300 ≤ j) → ¬ (f = 26 ∧ j = 2) → f ≠ 29 → ¬ (f = 0 ∧ j = 30) → V' f j = V f j) → Q (.inl (some (.int (nI (jnF key rc a b9 wd M d i L u).1.length)))) (K, n, I', F, J)) →
    AW E m_Mo_join (K, n, I, F, J) cb sb Q 108 [some (.ref m), some (.int (nI a)), some (.int (nI b9)), some (.int (nI wd)), some (.int (nI i)), none, none, none] []
  | 0, i, L, u, I, V, hi, hL, hu, h, hS, hR, hf, hlf, w => by
    have hM := hR.2.1
    refine r_Mo_join_108 ⟨h.K9, ?_⟩
    rw [h.o, hR.1]
    refine br_t ((nI_leI (by omega) (by omega)).mpr (by omega)) ⟨_, h.f (f := 26) (by decide), h.k (by decide), 2, rfl, by rw [h.sz (by decide)]; decide, by decide, ?_⟩
    rw [h.a (by decide), hf.1]
    exact w I V h hf hlf (fun _ _ _ _ _ _ _ => rfl)
  | d + 1, i, L, u, I, V, hi, hL, hu, h, hS, hR, hf, hlf, w => by
    have hM := hR.2.1
    have hiM : i < M := by omega
    obtain ⟨r1, r2, r3⟩ := hR.2.2 i hiM
    unfold jnF at w
    have e : nI (rc i).1 = nI a ↔ (rc i).1 = a := nI_eq (by omega) (by omega)
    refine r_Mo_join_108 ⟨h.K9, ?_⟩
    rw [h.o, hR.1]
    refine br_f (nI_ge (by omega) (by omega)) ⟨_, h.f (f := 14) (by decide), h.k (by decide), i, rfl, by rw [h.sz (by decide)]; show i < 150; omega, by omega, ?_⟩
    rw [h.a (by decide), r2]
    refine ⟨fun z => ?_, fun z => ?_⟩
    · rw [if_pos (e.mp z)] at w
      refine mo_jwL (fo := false) hiM hb3 hwd (hw i hiM (e.mp z)) hkey M 0 L I V (by omega) hL h hS hR hf (fun I2 V2 h2 rf2 f2 => ?_)
      have hge := jwF_ge key rc b9 wd (rc i).2 M 0 false L hL
      have hR2 : mRec V2 rc M := hR.fr (f2 0 15 (by omega) (by omega) (by omega)) (fun f j hff => f2 f j (by omega) (by omega) (by omega))
      have hS2 : mB V2 b st := hS.oF (fun f j a1 a2 => f2 f j (by omega) (by omega) (by omega))
      have hlf2 : mLf V2 u := ⟨by rw [f2 0 30 (by omega) (by omega) (by omega)]; exact hlf.1, hlf.2.1, fun t ht => by rw [f2 29 t (by omega) (by omega) (by omega)]; exact hlf.2.2 t ht⟩
      refine r_Mo_join_137 ⟨h2.K9, ?_⟩
      rw [h2.o, hR2.1]
      refine br_t (Int32.le_refl _) ?_
      rw [nI_1]
      cases hfd : (jwF key rc b9 wd (rc i).2 M 0 false L).1 with
      | true =>
        rw [hfd, if_pos rfl] at w
        refine ⟨fun z9 => absurd rfl z9, fun _ => ?_⟩
        exact mo_jnL ha3 hb3 hwd hw hkey d (i + 1) _ u I2 V2 (by omega) hge.2 (by omega) h2 hS2 hR2 rf2 hlf2 (fun I3 V3 h3 q1 q2 f3 => w I3 V3 h3 q1 q2 (fun f j a1 a2 a3 a4 a5 => by rw [f3 f j a1 a2 a3 a4 a5, f2 f j a1 a2 a3]))
      | false =>
        rw [hfd, if_neg (by decide)] at w
        refine ⟨fun _ => ⟨_, h2.f (f := 29) (by decide), h2.k (by decide), u.length, hlf2.1, by rw [h2.sz (by decide)]; show u.length < 150; omega, by omega, ?_⟩, fun z9 => absurd z9 (by decide)⟩
        have h3 := h2.up (f := 29) (by decide) u.length (nI i)
        have e30 : zup I2 (A 29) u.length (nI i) m 30 + (1 : Int32) = nI (u.length + 1) := by rw [h3.o, zup_n _ _ _ (by decide), hlf2.1, nI_1]
        rw [e30]
        have h4 := h3.up0 30 (nI (u.length + 1))
        have f4 : ∀ f j, f ≠ 29 → ¬ (f = 0 ∧ j = 30) → zup (zup V2 29 u.length (nI i)) 0 30 (nI (u.length + 1)) f j = V2 f j := fun f j a1 a2 => by rw [zup_at, if_neg a2, zup_n _ _ _ a1]
        refine mo_jnL ha3 hb3 hwd hw hkey d (i + 1) _ (u ++ [i]) _ _ (by omega) hge.2 (by simp; omega) h4 (hS2.oF (fun f j a1 a2 => f4 f j (by omega) (by omega))) (hR2.fr (f4 0 15 (by omega) (by omega)) (fun f j hff => f4 f j (by omega) (by omega))) ⟨by rw [f4 26 2 (by omega) (by omega)]; exact rf2.1, fun t ht => mR.fr (rf2.2 t ht) (f4 25 _ (by omega) (by omega)) (fun j _ _ => f4 24 j (by omega) (by omega))⟩ ⟨by rw [zup_s]; simp, by simp; omega, fun t ht => ?_⟩ (fun I5 V5 h5 q1 q2 f5 => w I5 V5 h5 q1 q2 (fun f j a1 a2 a3 a4 a5 => by rw [f5 f j a1 a2 a3 a4 a5, f4 f j a4 a5, f2 f j a1 a2 a3]))
        simp at ht
        rw [zup_n _ _ _ (by decide), zup_at]
        by_cases e9 : t = u.length
        · subst e9; rw [if_pos ⟨rfl, rfl⟩, zgetD_last]
        · rw [if_neg (fun z => e9 z.2), zgetD_append (by omega)]; exact hlf2.2.2 t (by omega)
    · rw [if_neg (fun y => z (e.mpr y))] at w
      rw [nI_1]
      exact mo_jnL ha3 hb3 hwd hw hkey d (i + 1) L u I V (by omega) hL (by omega) h hS hR hf hlf w
end
section
variable {E : zE} {B : (Nat → Nat → Int32) × (Nat → Nat → Int64)} {K n : Nat → Nat} {I : Nat → Nat → Int32} {F : Nat → Nat → Option Nat} {J : Nat → Nat → Int64} {m : Nat} {A : Nat → Nat} {V : Nat → Nat → Int32} {T : Nat → Int64} {cb sb : Nat} {Q : zO → zH → Prop} {rc : zRec} {M : Nat}
/-- join(a, b) -/
theorem mo_join {st : zStm} {b : Nat → Bool} {x y : Int32} (h : MS B K n I F J m A V T) (hS : mB V b st) (hR : mRec V rc M)
    (w1 : ¬ (st.1 ≠ [] ∧ inR x 3 ∧ inR y 3 ∧ x ≠ y) → ∀ I', MS B K n I' F J m A (zup V 0 0 0) T → Q (.inl (some (.int (-1)))) (K, n, I', F, J))
    (w2 : (st.1 ≠ [] ∧ inR x 3 ∧ inR y 3 ∧ x ≠ y) → ∀ I' V', MS B K n I' F J m A V' T → mRef V' 2 (joinF st rc M (xN x) (xN y)).1 → mLf V' (joinF st rc M (xN x) (xN y)).2 → (∀ f j, ¬ (f = 0 ∧ (j = 0 ∨ j = 30)) → ¬ (f = 24 ∧ 30000 ≤ j) → ¬ (f = 25 ∧ 300 ≤ j) → ¬ (f = 26 ∧ j = 2) → f ≠ 29 → V' f j = V f j) → Q (.inl (some (.int (nI (joinF st rc M (xN x) (xN y)).1.length)))) (K, n, I', F, J)) :
    AW E m_Mo_join (K, n, I, F, J) cb sb Q 0 [some (.ref m), some (.int x), some (.int y), none, none, none, none, none] [] := by
  have h1 := h.up0 0 (0 : Int32)
  have h6 := hS.1.1.1.1
  have hM := hR.2.1
  have e5 : zup I m 0 (0 : Int32) (A 5) 1 = nI st.1.length := by rw [h1.a (by decide), zup_n _ _ _ (by decide)]; exact hS.1.2.1.1
  have e0 : nI st.1.length = 0 ↔ st.1 = [] := by
    rw [← List.length_eq_zero_iff]
    exact nI_eq (b := 0) (by omega) (by omega)
  refine r_Mo_join_0 ⟨h.K9, _, h.f (f := 5) (by decide), h.k (by decide), 1, rfl, by rw [h.sz (by decide)]; decide, by decide, ?_⟩
  rw [e5]
  refine ⟨fun z => w1 (fun q => q.1 (e0.mp z)) _ h1, fun z => br_c (fun q => w1 (fun y => y.2.1.1 q) _ h1) (fun q => ?_)⟩
  obtain ⟨a, ha, e⟩ := nI_of q
  subst e
  refine pk_lt 2 a (fun q2 => w1 (fun y => by have := y.2.1; rw [inR_n ha (by decide)] at this; omega) _ h1) (fun q2 => br_c (fun q3 => w1 (fun y => y.2.2.1.1 q3) _ h1) (fun q3 => ?_)) rfl rfl (by decide) ha
  obtain ⟨b9, hb9, e⟩ := nI_of q3
  subst e
  refine pk_lt 2 b9 (fun q4 => w1 (fun y => by have := y.2.2.1; rw [inR_n hb9 (by decide)] at this; omega) _ h1) (fun q4 => ⟨fun hne => ?_, fun he => w1 (fun y => y.2.2.2 he) _ h1⟩) rfl rfl (by decide) hb9
  have hk0 : st.1 ≠ [] := fun y => z (e0.mpr y)
  have cond : st.1 ≠ [] ∧ inR (nI a) 3 ∧ inR (nI b9) 3 ∧ nI a ≠ nI b9 := ⟨hk0, (inR_n ha (by decide)).mpr (by omega), (inR_n hb9 (by decide)).mpr (by omega), hne⟩
  rw [xN_n ha, xN_n hb9] at w2
  obtain ⟨key, hkey⟩ : ∃ key, st.1[0]? = some key := by
    cases e : st.1 with
    | nil => exact absurd e hk0
    | cons a b => exact ⟨a, rfl⟩
  have hhead : st.1.headD (0, 0, false, false) = key := by
    cases e : st.1 with
    | nil => exact absurd e hk0
    | cons a b => rw [e] at hkey; simpa using hkey
  have hjF : joinF st rc M a b9 = jnF key rc a b9 (longF rc a M 0 0) M M 0 [] [] := by unfold joinF; rw [hhead]
  rw [hjF] at w2
  have hR1 : mRec (zup V 0 0 0) rc M := hR.fr (by rw [zup_k _ _ _ (by decide)]) (fun f j hf => by rw [zup_n _ _ _ (by omega)])
  have hwd : longF rc a M 0 0 ≤ 100 := longF_le rc a M 0 0 (by omega) (fun t ht => (hR.2.2 t (by omega)).1.1.2.1)
  refine mo_lgL (rc := rc) (M := M) (by omega) M 0 0 _ _ (by omega) (by omega) h1 hR1 (fun I2 h2 => ?_)
  have f2 : ∀ f j, ¬ (f = 0 ∧ (j = 0 ∨ j = 30)) → ¬ (f = 26 ∧ j = 2) → zup (zup (zup V 0 0 0) 26 2 0) 0 30 0 f j = V f j := fun f j a1 a2 => by
    rw [zup_at, if_neg (fun z => a1 ⟨z.1, by omega⟩), zup_at, if_neg a2, zup_at, if_neg (fun z => a1 ⟨z.1, by omega⟩)]
  refine mo_jnL (st := st) (b := b) (by omega) (by omega) hwd (fun t ht hta => (longF_ge rc a M 0 0).2 t (by omega) (by omega) hta) hkey M 0 [] [] I2 _ (by omega) (by simp) (by simp) h2 (hS.oF (fun f j a1 a2 => f2 f j (by omega) (by omega))) (hR.fr (f2 0 15 (by omega) (by omega)) (fun f j hf => f2 f j (by omega) (by omega))) ⟨by rw [zup_n _ _ _ (by decide), zup_s]; rfl, fun t ht => by simp at ht⟩ ⟨by rw [zup_s]; rfl, by simp, fun t ht => by simp at ht⟩ (fun I3 V3 h3 q1 q2 f3 => w2 cond I3 V3 h3 q1 q2 (fun f j a1 a2 a3 a4 a5 => by rw [f3 f j a2 a3 a4 a5 (fun z => a1 ⟨z.1, Or.inr z.2⟩), f2 f j a1 a4]))
end
