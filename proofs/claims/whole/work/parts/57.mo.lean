-- ===== the reference: run, picking =====
def mRec (V : Nat → Nat → Int32) (rc : zRec) (M : Nat) : Prop := V 0 15 = nI M ∧ M ≤ 150 ∧ ∀ t, t < M → mRT V 12 13 t (rc t).2 ∧ V 14 t = nI (rc t).1 ∧ (rc t).1 < 3
theorem mRec.fr {V V' : Nat → Nat → Int32} {rc : zRec} {M : Nat} (h : mRec V rc M) (h0 : V' 0 15 = V 0 15) (hf : ∀ f j, f = 12 ∨ f = 13 ∨ f = 14 → V' f j = V f j) : mRec V' rc M :=
  ⟨by rw [h0]; exact h.1, h.2.1, fun t ht => ⟨(h.2.2 t ht).1.fr (hf 13 t (by omega)) (fun j _ _ => hf 12 j (by omega)), by rw [hf 14 t (by omega)]; exact (h.2.2 t ht).2.1, (h.2.2 t ht).2.2⟩⟩
def xo (cps ord : List Nat) : List Nat := ord.map (fun c => cps.getD c 0)
/-- the copies made so far -/
def mCp (V : Nat → Nat → Int32) (rc : zRec) (cps : List Nat) : Prop := cps.length ≤ 150 ∧ ∀ j, j < cps.length → mRT V 19 20 j (rc (cps.getD j 0)).2 ∧ V 21 j = nI 1 ∧ V 22 j = nI (cps.getD j 0)
def mOrd (V : Nat → Nat → Int32) (cps ord : List Nat) : Prop := ord.length = cps.length ∧ (∀ k, k < ord.length → V 23 k = nI (ord.getD k 0)) ∧ (∀ c ∈ ord, c < cps.length) ∧ ord.Nodup
def mRef (V : Nat → Nat → Int32) (o : Nat) (f : List (List Nat)) : Prop := V 26 o = nI f.length ∧ ∀ t, t < f.length → oR V o t (f.getD t [])
theorem xo_len (cps ord : List Nat) : (xo cps ord).length = ord.length := List.length_map _
theorem xo_at {cps ord : List Nat} {j : Nat} (h : j < ord.length) : (xo cps ord).getD j 0 = cps.getD (ord.getD j 0) 0 := by
  unfold xo
  simp [List.getD_eq_getElem?_getD, List.getElem?_eq_getElem h]
theorem xo_ins {cps ord : List Nat} {i q : Nat} (h : ∀ c ∈ ord, c < cps.length) : xo (cps ++ [i]) (zins ord q cps.length) = zins (xo cps ord) q i := by
  unfold xo zins
  rw [List.map_append, List.map_cons, List.map_take, List.map_drop, zgetD_last]
  have e : ord.map (fun c => (cps ++ [i]).getD c 0) = ord.map (fun c => cps.getD c 0) := List.map_congr_left (fun c hc => zgetD_append (h c hc))
  rw [e]
section
variable {E : zE} {B : (Nat → Nat → Int32) × (Nat → Nat → Int64)} {K n : Nat → Nat} {F : Nat → Nat → Option Nat} {J : Nat → Nat → Int64} {m : Nat} {A : Nat → Nat} {T : Nat → Int64} {cb sb : Nat} {Q : zO → zH → Prop} {rc : zRec} {st : zStm} {b : Nat → Bool} {M : Nat}
/-- a refused record is put out -/
theorem mo_rfL {i nn s : Nat} {f : List (List Nat)} (hi : i < M) (hf : f.length < 150) : ∀ (d k : Nat) (I : Nat → Nat → Int32) (V : Nat → Nat → Int32), k + d = (rc i).2.length → MS B K n I F J m A V T → mRec V rc M → V 26 1 = nI f.length → oR V 1 f.length ((rc i).2.take k) →
    (∀ I' V', MS B K n I' F J m A V' T → oR V' 1 f.length (rc i).2 → V' 26 1 = nI (f.length + 1) → (∀ g j, ¬ (g = 24 ∧ 15000 * 1 + 100 * f.length ≤ j ∧ j < 15000 * 1 + 100 * f.length + 100) → ¬ (g = 25 ∧ j = 150 * 1 + f.length) → ¬ (g = 26 ∧ j = 1) → V' g j = V g j) → AW E m_Mo_run (K, n, I', F, J) cb sb Q 30 [some (.ref m), some (.int (nI nn)), some (.int (nI s)), some (.int (nI (i + 1))), none, none, none, none] []) →
    AW E m_Mo_run (K, n, I, F, J) cb sb Q 122 [some (.ref m), some (.int (nI nn)), some (.int (nI s)), some (.int (nI i)), none, some (.int (nI k)), none, none] []
  | 0, k, I, V, hk, h, hR, h26, ho, w => by
    obtain ⟨r1, r2, r3⟩ := hR.2.2 i hi
    have hl := r1.1.2.1
    have hM := hR.2.1
    refine r_Mo_run_122 ⟨h.K9, _, h.f (f := 13) (by decide), h.k (by decide), i, rfl, by rw [h.sz (by decide)]; show i < 150; omega, by omega, ?_⟩
    rw [h.a (by decide), r1.1.1]
    refine br_t ((nI_leI (by omega) (by omega)).mpr (by omega)) ⟨_, h.f (f := 26) (by decide), h.k (by decide), 1, rfl, by rw [h.sz (by decide)]; decide, by decide, ?_⟩
    rw [h.a (by decide), h26, nI_1, nI_1]
    rw [List.take_of_length_le (by omega)] at ho
    refine w _ _ (h.up (f := 26) (by decide) 1 (nI (f.length + 1))) (mR.fr ho (by rw [zup_n _ _ _ (by decide)]) (fun j _ _ => by rw [zup_n _ _ _ (by decide)])) (zup_s _ _ _ _) (fun g j _ _ a => by rw [zup_at, if_neg a])
  | d + 1, k, I, V, hk, h, hR, h26, ho, w => by
    obtain ⟨r1, r2, r3⟩ := hR.2.2 i hi
    have hl := r1.1.2.1
    have hM := hR.2.1
    refine r_Mo_run_122 ⟨h.K9, _, h.f (f := 13) (by decide), h.k (by decide), i, rfl, by rw [h.sz (by decide)]; show i < 150; omega, by omega, ?_⟩
    rw [h.a (by decide), r1.1.1]
    have ex : (100 : Int32) * nI i + nI k = nI (100 * i + k) := by
      show nI 100 * nI i + _ = _
      rw [pk_mul, nI_add]
    refine br_f (nI_ge (by omega) (by omega)) ⟨_, h.f (f := 12) (by decide), h.k (by decide), 100 * i + k, ex, by rw [h.sz (by decide)]; show 100 * i + k < 15000; omega, by omega, ?_⟩
    rw [h.a (by decide), r1.1.2.2.2 k (by omega)]
    refine mo_put (o := 1) h (by decide) h26 hf ho (zgetD_lt r1.1.2.2.1 (by omega)) (fun I' V' h' ho' hf' => r_Mo_run_150 ?_)
    rw [take_zapp (by omega) hl] at ho'
    rw [nI_1]
    exact mo_rfL hi hf d (k + 1) I' V' (by omega) h' (hR.fr (hf' 0 15 (by omega) (by omega)) (fun g j hg => hf' g j (by omega) (by omega))) (by rw [hf' 26 1 (by omega) (by omega)]; exact h26) ho' (fun I2 V2 h2 o2 k2 f2 => w I2 V2 h2 o2 k2 (fun g j a1 a2 a3 => by rw [f2 g j a1 a2 a3, hf' g j a1 a2]))
/-- the new copy finds its place -/
theorem mo_plL {i nn s : Nat} {cps ord : List Nat} (hnn : nn = cps.length) (hnn1 : nn < 150) (hsr : srt st.1 rc (xo cps ord)) : ∀ (at' : Nat) (I : Nat → Nat → Int32) (V : Nat → Nat → Int32), at' ≤ nn → MS B K n I F J m A V T → mB V b st → mCp V rc cps → mRT V 19 20 nn (rc i).2 → ord.length = cps.length → (∀ c ∈ ord, c < cps.length) → (∀ k, k < at' → V 23 k = nI (ord.getD k 0)) → (∀ k, at' ≤ k → k < nn → V 23 (k + 1) = nI (ord.getD k 0)) → (at' < nn → ¬ cmpR st.1 (rc (cps.getD (ord.getD at' 0) 0)).2 (rc i).2 ≤ 0) →
    (∀ q I' V', q ≤ nn → MS B K n I' F J m A V' T → (∀ k, k ≤ nn → V' 23 k = nI ((zins ord q nn).getD k 0)) → zins (xo cps ord) q i = insI st.1 rc (xo cps ord) i → (∀ f j, f ≠ 23 → V' f j = V f j) → AW E m_Mo_run (K, n, I', F, J) cb sb Q 30 [some (.ref m), some (.int (nI (nn + 1))), some (.int (nI s)), some (.int (nI (i + 1))), none, none, none, none] []) →
    AW E m_Mo_run (K, n, I, F, J) cb sb Q 242 [some (.ref m), some (.int (nI nn)), some (.int (nI s)), some (.int (nI i)), none, some (.int (nI at')), none, none] []
  | at', I, V, hat, h, hS, hC, hrn, hol, hoc, h1, h2, h3, w => by
    -- the place is found
    have place : (at' = 0 ∨ cmpR st.1 (rc (cps.getD (ord.getD (at' - 1) 0) 0)).2 (rc i).2 ≤ 0) → AW E m_Mo_run (K, n, zup I (A 23) at' (nI nn), F, J) cb sb Q 30 [some (.ref m), some (.int (nI nn + (1 : Int32))), some (.int (nI s)), some (.int (nI i + (1 : Int32))), none, none, none, none] [] := fun hp => by
      rw [nI_1, nI_1]
      refine w at' _ _ hat (h.up (f := 23) (by decide) at' (nI nn)) (fun k hk => ?_) ?_ (fun f j hf => by rw [zup_n _ _ _ hf])
      · rw [zins_at (by omega), zup_at]
        by_cases e1 : k < at'
        · rw [if_neg (fun z => by omega), if_pos e1]; exact h1 k e1
        · by_cases e2 : k = at'
          · rw [if_pos ⟨rfl, e2⟩, if_neg e1, if_pos e2]
          · rw [if_neg (fun z => e2 z.2), if_neg e1, if_neg e2]
            have := h2 (k - 1) (by omega) (by omega)
            rw [show k - 1 + 1 = k by omega] at this; exact this
      · unfold insI
        rw [tw_len _ (xo cps ord) at' (by rw [xo_len]; omega) (fun j hj => ?_) (fun hl => ?_)]
        · rcases hp with hp | hp
          · omega
          · have e1 : cmpR st.1 (rc ((xo cps ord).getD (at' - 1) 0)).2 (rc i).2 ≤ 0 := by rw [xo_at (by omega)]; exact hp
            have : cmpR st.1 (rc ((xo cps ord).getD j 0)).2 (rc i).2 ≤ 0 := by
              by_cases e : j = at' - 1
              · rw [e]; exact e1
              · exact cmpR_tr st.1 _ _ _ (hsr j (at' - 1) (by omega) (by rw [xo_len]; omega)) e1
            simpa using this
        · rw [xo_len] at hl
          have := h3 (by omega)
          rw [decide_eq_false_iff_not, xo_at hl]; exact this
    by_cases e0 : at' = 0
    · refine r_Mo_run_242 (br_t (by rw [e0]; decide) ⟨h.K9, _, h.f (f := 23) (by decide), h.k (by decide), at', rfl, by rw [h.sz (by decide)]; show at' < 150; omega, by omega, place (Or.inl e0)⟩)
    · have e1 : nI at' - (1 : Int32) = nI (at' - 1) := zsub1 (by omega)
      have hco : ord.getD (at' - 1) 0 < cps.length := hoc _ (zgetD_mem (by omega))
      have hr1 := (hC.2 _ hco).1
      refine r_Mo_run_242 (br_f (nI_nle (by omega) (by omega)) ⟨h.K9, _, h.f (f := 19) (by decide), _, h.f (f := 20) (by decide), _, h.f (f := 23) (by decide), h.k (by decide), at' - 1, e1, by rw [h.sz (by decide)]; show at' - 1 < 150; omega, by omega, ?_⟩)
      rw [h.a (by decide), h1 (at' - 1) (by omega)]
      refine mo_byKeys h hS.1 hr1 hrn (r_Mo_run_277 ⟨fun z => ⟨h.K9, _, h.f (f := 23) (by decide), h.k (by decide), at', rfl, by rw [h.sz (by decide)]; show at' < 150; omega, by omega, place (Or.inr ((sgn_gt _).2.mp z))⟩, fun z => ⟨h.K9, _, h.f (f := 23) (by decide), h.k (by decide), at' - 1, e1, by rw [h.sz (by decide)]; show at' - 1 < 150; omega, by omega, at', rfl, by rw [h.sz (by decide)]; show at' < 150; omega, by omega, ?_⟩⟩)
      have e2 : nI at' + ((-1) : Int32) = nI (at' - 1) := by rw [← e1, Int32.sub_eq_add_neg]
      rw [h.a (by decide), h1 (at' - 1) (by omega), e2]
      have hgt : ¬ cmpR st.1 (rc (cps.getD (ord.getD (at' - 1) 0) 0)).2 (rc i).2 ≤ 0 := fun y => z ((sgn_gt _).2.mpr y)
      have fr : ∀ f j, f ≠ 23 → zup V 23 at' (nI (ord.getD (at' - 1) 0)) f j = V f j := fun f j hf => by rw [zup_n _ _ _ hf]
      exact mo_plL hnn hnn1 hsr (at' - 1) _ _ (by omega) (h.up (f := 23) (by decide) at' (nI (ord.getD (at' - 1) 0))) (hS.oF (fun f j _ _ => fr f j (by omega))) ⟨hC.1, fun j hj => by
          obtain ⟨c1, c2, c3⟩ := hC.2 j hj
          exact ⟨c1.fr (fr 20 j (by omega)) (fun j' _ _ => fr 19 j' (by omega)), by rw [fr 21 j (by omega)]; exact c2, by rw [fr 22 j (by omega)]; exact c3⟩⟩ (hrn.fr (fr 20 nn (by omega)) (fun j' _ _ => fr 19 j' (by omega))) hol hoc (fun k hk => by rw [zup_at, if_neg (fun z => by omega)]; exact h1 k (by omega)) (fun k hk1 hk2 => by
          by_cases e : k = at' - 1
          · rw [e, show at' - 1 + 1 = at' by omega, zup_s]
          · rw [zup_at, if_neg (fun z => by omega)]; exact h2 k (by omega) hk2) (fun _ => hgt) (fun q I' V' hq h' o' p' f' => w q I' V' hq h' o' p' (fun f j hf => by rw [f' f j hf, fr f j hf]))
  termination_by at' => at'
/-- a picked record is copied -/
theorem mo_cpL {i nn s : Nat} (hi : i < M) (hnn1 : nn < 150) : ∀ (d k : Nat) (I : Nat → Nat → Int32) (V : Nat → Nat → Int32), k + d = (rc i).2.length → MS B K n I F J m A V T → mRec V rc M → (∀ j, j < k → V 19 (100 * nn + j) = nI ((rc i).2.getD j 0)) →
    (∀ I' V', MS B K n I' F J m A V' T → mRT V' 19 20 nn (rc i).2 → V' 21 nn = nI 1 → V' 22 nn = nI i → (∀ f j, ¬ (f = 19 ∧ 100 * nn ≤ j ∧ j < 100 * nn + 100) → ¬ (f = 20 ∧ j = nn) → ¬ (f = 21 ∧ j = nn) → ¬ (f = 22 ∧ j = nn) → V' f j = V f j) → AW E m_Mo_run (K, n, I', F, J) cb sb Q 242 [some (.ref m), some (.int (nI nn)), some (.int (nI s)), some (.int (nI i)), none, some (.int (nI nn)), none, none] []) →
    AW E m_Mo_run (K, n, I, F, J) cb sb Q 172 [some (.ref m), some (.int (nI nn)), some (.int (nI s)), some (.int (nI i)), none, some (.int (nI k)), none, none] []
  | 0, k, I, V, hk, h, hR, hc, w => by
    obtain ⟨r1, r2, r3⟩ := hR.2.2 i hi
    have hl := r1.1.2.1
    have hM := hR.2.1
    refine r_Mo_run_172 ⟨h.K9, _, h.f (f := 13) (by decide), h.k (by decide), i, rfl, by rw [h.sz (by decide)]; show i < 150; omega, by omega, ?_⟩
    rw [h.a (by decide), r1.1.1]
    refine br_t ((nI_leI (by omega) (by omega)).mpr (by omega)) ⟨_, h.f (f := 20) (by decide), h.k (by decide), nn, rfl, by rw [h.sz (by decide)]; exact hnn1, by omega, _, h.f (f := 21) (by decide), h.k (by decide), nn, rfl, by rw [h.sz (by decide)]; exact hnn1, by omega, _, h.f (f := 22) (by decide), h.k (by decide), nn, rfl, by rw [h.sz (by decide)]; exact hnn1, by omega, ?_⟩
    refine w _ _ (((h.up (f := 20) (by decide) nn (nI (rc i).2.length)).up (f := 21) (by decide) nn (1 : Int32)).up (f := 22) (by decide) nn (nI i)) ⟨⟨?_, hl, r1.1.2.2.1, fun j hj => ?_⟩, by show 100 * nn + 100 ≤ 15000; omega, hnn1, by omega⟩ ?_ (zup_s _ _ _ _) (fun f j a1 a2 a3 a4 => ?_)
    · rw [zup_n _ _ _ (by decide), zup_n _ _ _ (by decide), zup_s]
    · rw [zup_n _ _ _ (by decide), zup_n _ _ _ (by decide), zup_n _ _ _ (by decide)]; exact hc j (by omega)
    · rw [zup_n _ _ _ (by decide), zup_s]; rfl
    · rw [zup_at, if_neg a4, zup_at, if_neg a3, zup_at, if_neg a2]
  | d + 1, k, I, V, hk, h, hR, hc, w => by
    obtain ⟨r1, r2, r3⟩ := hR.2.2 i hi
    have hl := r1.1.2.1
    have hM := hR.2.1
    refine r_Mo_run_172 ⟨h.K9, _, h.f (f := 13) (by decide), h.k (by decide), i, rfl, by rw [h.sz (by decide)]; show i < 150; omega, by omega, ?_⟩
    rw [h.a (by decide), r1.1.1]
    have ex : ∀ y, (100 : Int32) * nI y + nI k = nI (100 * y + k) := fun y => by
      show nI 100 * nI y + _ = _
      rw [pk_mul, nI_add]
    refine br_f (nI_ge (by omega) (by omega)) ⟨_, h.f (f := 19) (by decide), _, h.f (f := 12) (by decide), h.k (by decide), 100 * i + k, ex i, by rw [h.sz (by decide)]; show 100 * i + k < 15000; omega, by omega, h.k (by decide), 100 * nn + k, ex nn, by rw [h.sz (by decide)]; show 100 * nn + k < 15000; omega, by omega, ?_⟩
    rw [h.a (by decide), r1.1.2.2.2 k (by omega), nI_1]
    refine mo_cpL hi hnn1 d (k + 1) _ _ (by omega) (h.up (f := 19) (by decide) (100 * nn + k) _) (hR.fr (by rw [zup_n _ _ _ (by decide)]) (fun g j hg => by rw [zup_n _ _ _ (by omega)])) (fun j hj => ?_) (fun I' V' h' a1 a2 a3 f' => w I' V' h' a1 a2 a3 (fun f j b1 b2 b3 b4 => ?_))
    · rw [zup_at]
      by_cases e : j = k
      · rw [if_pos ⟨rfl, by omega⟩, e]
      · rw [if_neg (fun z => by omega)]; exact hc j (by omega)
    · rw [f' f j b1 b2 b3 b4, zup_at, if_neg (fun z => b1 ⟨z.1, by omega, by omega⟩)]
/-- run: the records one by one -/
theorem mo_pickL : ∀ (d i s : Nat) (cps ord : List Nat) (f : List (List Nat)) (I : Nat → Nat → Int32) (V : Nat → Nat → Int32), i + d = M → s ≤ i → cps.length + f.length ≤ i → MS B K n I F J m A V T → mB V b st → mRec V rc M → mCp V rc cps → mOrd V cps ord → mRef V 1 f → (∀ c ∈ cps, c < M) → srt st.1 rc (xo cps ord) →
    (∀ I' V' cps' ord', MS B K n I' F J m A V' T → mCp V' rc cps' → mOrd V' cps' ord' → (∀ c ∈ cps', c < M) → xo cps' ord' = (pickF st rc d i s (xo cps ord) f).1 → mRef V' 1 (pickF st rc d i s (xo cps ord) f).2 → (∀ g j, ¬ (19 ≤ g ∧ g ≤ 23) → ¬ (g = 24 ∧ 15000 ≤ j ∧ j < 30000) → ¬ (g = 25 ∧ 150 ≤ j ∧ j < 300) → ¬ (g = 26 ∧ j = 1) → V' g j = V g j) → AW E m_Mo_run (K, n, I', F, J) cb sb Q 324 [some (.ref m), some (.int (nI cps'.length)), none, some (.int (0 : Int32)), some (.int (0 : Int32)), none, none, none] []) →
    AW E m_Mo_run (K, n, I, F, J) cb sb Q 30 [some (.ref m), some (.int (nI cps.length)), some (.int (nI s)), some (.int (nI i)), none, none, none, none] []
  | 0, i, s, cps, ord, f, I, V, hi, hsi, hcf, h, hS, hR, hC, hO, hf, hcM, hsr, w => by
    have hM := hR.2.1
    refine r_Mo_run_30 ⟨h.K9, ?_⟩
    rw [h.o, hR.1]
    unfold pickF at w
    exact br_t ((nI_leI (by omega) (by omega)).mpr (by omega)) (w I V cps ord h hC hO hcM rfl hf (fun _ _ _ _ _ _ => rfl))
  | d + 1, i, s, cps, ord, f, I, V, hi, hsi, hcf, h, hS, hR, hC, hO, hf, hcM, hsr, w => by
    have hM := hR.2.1
    have hiM : i < M := by omega
    obtain ⟨r1, r2, r3⟩ := hR.2.2 i hiM
    have bd4 : ∀ j, j < 7 → j < n (A 4) := fun j hj => by rw [h.sz (by decide)]; show j < 14; omega
    have bd6 : ∀ j, j < 2 → j < n (A 6) := fun j hj => by rw [h.sz (by decide)]; show j < 4; omega
    obtain ⟨hmL, hwB, hwS, hwL, h50⟩ := id hS
    have skip : ∀ s', s' ≤ i + 1 → pickF st rc (d + 1) i s (xo cps ord) f = pickF st rc d (i + 1) s' (xo cps ord) f → AW E m_Mo_run (K, n, I, F, J) cb sb Q 30 [some (.ref m), some (.int (nI cps.length)), some (.int (nI s')), some (.int (nI i + (1 : Int32))), none, none, none, none] [] := fun s' hs' e => by
      rw [nI_1]
      rw [e] at w
      exact mo_pickL d (i + 1) s' cps ord f I V (by omega) hs' (by omega) h hS hR hC hO hf hcM hsr w
    refine r_Mo_run_30 ⟨h.K9, ?_⟩
    rw [h.o, hR.1]
    refine br_f (nI_ge (by omega) (by omega)) ⟨_, h.f (f := 14) (by decide), h.k (by decide), i, rfl, by rw [h.sz (by decide)]; show i < 150; omega, by omega, ?_⟩
    rw [h.a (by decide), r2]
    have e0 : nI (rc i).1 = 0 ↔ (rc i).1 = 0 := nI_eq (b := 0) (by omega) (by omega)
    -- it is within the window
    have inn : (rc i).1 = 0 → st.2.2.2.2.2.1 ≤ s ∧ s - st.2.2.2.2.2.1 < st.2.2.2.2.2.2.1 → AW E m_Mo_comes (K, n, I, F, J) 0 0 (zAft E m_Mo_run cb sb Q 108 [some (.ref m), some (.int (nI cps.length)), some (.int (nI (s + 1))), some (.int (nI i)), none, none, none, none] []) 0 [some (.ref m), some (.int (nI i)), none, none] [] := fun h1 hwin => by
      have hpk : pickF st rc (d + 1) i s (xo cps ord) f = if keepsB st (rc i).2 then pickF st rc d (i + 1) (s + 1) (insI st.1 rc (xo cps ord) i) f else pickF st rc d (i + 1) (s + 1) (xo cps ord) (f ++ [(rc i).2]) := by
        conv => lhs; unfold pickF
        rw [if_pos h1, if_pos hwin]
      refine mo_comes h hS r1 (r_Mo_run_111 ⟨fun z => ?_, fun z => ⟨h.K9, ?_⟩⟩)
      · have hkp : keepsB st (rc i).2 = true := by
          cases q : keepsB st (rc i).2
          · rw [q] at z; exact absurd rfl z
          · rfl
        rw [hpk, if_pos hkp] at w
        refine mo_cpL hiM (by omega) (rc i).2.length 0 I V (by omega) h hR (fun j hj => by omega) (fun I2 V2 h2 c2 m2 f2 fr2 => ?_)
        have hS2 : mB V2 b st := hS.oF (fun g j a1 a2 => fr2 g j (by omega) (by omega) (by omega) (by omega))
        have hC2 : mCp V2 rc cps := ⟨hC.1, fun j hj => by
          obtain ⟨q1, q2, q3⟩ := hC.2 j hj
          exact ⟨q1.fr (fr2 20 j (by omega) (by omega) (by omega) (by omega)) (fun j' _ _ => fr2 19 j' (by omega) (by omega) (by omega) (by omega)), by rw [fr2 21 j (by omega) (by omega) (by omega) (by omega)]; exact q2, by rw [fr2 22 j (by omega) (by omega) (by omega) (by omega)]; exact q3⟩⟩
        refine mo_plL (i := i) (s := s + 1) (cps := cps) (ord := ord) rfl (by omega) hsr cps.length I2 V2 (Nat.le_refl _) h2 hS2 hC2 c2 hO.1 hO.2.2.1 (fun k hk => by rw [fr2 23 k (by omega) (by omega) (by omega) (by omega)]; exact hO.2.1 k (by rw [hO.1]; exact hk)) (fun k h1 h2 => by omega) (fun z => by omega) (fun q I3 V3 hq h3 o3 p3 fr3 => ?_)
        have hcl : cps.length + 1 = (cps ++ [i]).length := by simp
        have hxo : xo (cps ++ [i]) (zins ord q cps.length) = insI st.1 rc (xo cps ord) i := by rw [xo_ins hO.2.2.1]; exact p3
        have hg3 : ∀ g j, g ≠ 23 → ¬ (g = 19 ∧ 100 * cps.length ≤ j ∧ j < 100 * cps.length + 100) → ¬ (g = 20 ∧ j = cps.length) → ¬ (g = 21 ∧ j = cps.length) → ¬ (g = 22 ∧ j = cps.length) → V3 g j = V g j := fun g j a0 a1 a2 a3 a4 => by rw [fr3 g j a0, fr2 g j a1 a2 a3 a4]
        rw [hcl]
        refine mo_pickL d (i + 1) (s + 1) (cps ++ [i]) (zins ord q cps.length) f I3 V3 (by omega) (by omega) (by simp; omega) h3 (hS.oF (fun g j a1 a2 => hg3 g j (by omega) (by omega) (by omega) (by omega) (by omega))) (hR.fr (hg3 0 15 (by omega) (by omega) (by omega) (by omega) (by omega)) (fun g j hg => hg3 g j (by omega) (by omega) (by omega) (by omega) (by omega))) ⟨by simp; omega, fun j hj => ?_⟩ ⟨?_, fun k hk => ?_, fun c hc => ?_, ?_⟩ ⟨?_, fun t ht => ?_⟩ (fun c hc => ?_) (by rw [hxo]; exact srt_ins hsr) (fun I4 V4 cps4 ord4 h4 c4 o4 m4 x4 r4 f4 => ?_)
        · simp at hj
          by_cases e : j = cps.length
          · subst e
            rw [zgetD_last]
            exact ⟨c2.fr (fr3 20 _ (by omega)) (fun j' _ _ => fr3 19 j' (by omega)), by rw [fr3 21 _ (by omega)]; exact m2, by rw [fr3 22 _ (by omega)]; exact f2⟩
          · rw [zgetD_append (by omega)]
            obtain ⟨q1, q2, q3⟩ := hC2.2 j (by omega)
            exact ⟨q1.fr (fr3 20 _ (by omega)) (fun j' _ _ => fr3 19 j' (by omega)), by rw [fr3 21 _ (by omega)]; exact q2, by rw [fr3 22 _ (by omega)]; exact q3⟩
        · rw [zins_len (by rw [hO.1]; exact hq), hO.1]; simp
        · rw [zins_len (by rw [hO.1]; exact hq), hO.1] at hk
          exact o3 k (by omega)
        · rw [← hcl]
          rcases zins_mem hc with e | e
          · omega
          · have := hO.2.2.1 c e; omega
        · unfold zins
          have hnd := hO.2.2.2
          have hni : cps.length ∉ ord := fun z => by have := hO.2.2.1 _ z; omega
          have hsp : (ord.take q ++ ord.drop q).Nodup := by rw [List.take_append_drop]; exact hnd
          obtain ⟨n1, n2, n3⟩ := List.nodup_append.mp hsp
          refine List.nodup_append.mpr ⟨n1, List.nodup_cons.mpr ⟨fun z => hni (List.mem_of_mem_drop z), n2⟩, fun a ha c hc => ?_⟩
          rcases List.mem_cons.mp hc with e | e
          · rw [e]; exact fun z => hni (by rw [← z]; exact List.mem_of_mem_take ha)
          · exact n3 a ha c e
        · rw [hg3 26 1 (by omega) (by omega) (by omega) (by omega) (by omega)]; exact hf.1
        · exact mR.fr (hf.2 t ht) (hg3 25 _ (by omega) (by omega) (by omega) (by omega) (by omega)) (fun j _ _ => hg3 24 j (by omega) (by omega) (by omega) (by omega) (by omega))
        · rcases List.mem_append.mp hc with e | e
          · exact hcM c e
          · rw [List.mem_singleton.mp e]; exact hiM
        · rw [hxo] at x4 r4
          exact w I4 V4 cps4 ord4 h4 c4 o4 m4 x4 r4 (fun g j a1 a2 a3 a4 => by rw [f4 g j a1 a2 a3 a4]; exact hg3 g j (by omega) (by omega) (by omega) (by omega) (by omega))
      · have hkp : keepsB st (rc i).2 = false := (zB_0 _).mp z
        rw [hpk, hkp] at w
        simp only [Bool.false_eq_true, if_false] at w
        have hfl : f.length < 150 := by omega
        refine mo_begin (o := 1) h (by decide) hf.1 hfl (fun I2 V2 h2 o2 fr2 => r_Mo_run_119 ?_)
        refine mo_rfL hiM hfl (rc i).2.length 0 I2 V2 (by omega) h2 (hR.fr (fr2 0 15 (by omega) (by omega)) (fun g j hg => fr2 g j (by omega) (by omega))) (by rw [fr2 26 1 (by omega) (by omega)]; exact hf.1) o2 (fun I3 V3 h3 o3 k3 fr3 => ?_)
        have hg3 : ∀ g j, ¬ (g = 24 ∧ 15000 * 1 + 100 * f.length ≤ j ∧ j < 15000 * 1 + 100 * f.length + 100) → ¬ (g = 25 ∧ j = 150 * 1 + f.length) → ¬ (g = 26 ∧ j = 1) → V3 g j = V g j := fun g j a1 a2 a3 => by rw [fr3 g j a1 a2 a3, fr2 g j a1 a2]
        refine mo_pickL d (i + 1) (s + 1) cps ord (f ++ [(rc i).2]) I3 V3 (by omega) (by omega) (by simp; omega) h3 (hS.oF (fun g j a1 a2 => hg3 g j (by omega) (by omega) (by omega))) (hR.fr (hg3 0 15 (by omega) (by omega) (by omega)) (fun g j hg => hg3 g j (by omega) (by omega) (by omega))) ⟨hC.1, fun j hj => ?_⟩ ⟨hO.1, fun k hk => by rw [hg3 23 k (by omega) (by omega) (by omega)]; exact hO.2.1 k hk, hO.2.2⟩ ⟨by rw [k3]; simp, fun t ht => ?_⟩ hcM hsr (fun I4 V4 cps4 ord4 h4 c4 o4 m4 x4 r4 f4 => w I4 V4 cps4 ord4 h4 c4 o4 m4 x4 r4 (fun g j a1 a2 a3 a4 => by rw [f4 g j a1 a2 a3 a4]; exact hg3 g j (by omega) (by omega) (by omega)))
        · obtain ⟨q1, q2, q3⟩ := hC.2 j hj
          exact ⟨q1.fr (hg3 20 j (by omega) (by omega) (by omega)) (fun j' _ _ => hg3 19 j' (by omega) (by omega) (by omega)), by rw [hg3 21 j (by omega) (by omega) (by omega)]; exact q2, by rw [hg3 22 j (by omega) (by omega) (by omega)]; exact q3⟩
        · simp at ht
          by_cases e : t = f.length
          · subst e
            have : (f ++ [(rc i).2]).getD f.length [] = (rc i).2 := by simp [List.getD_eq_getElem?_getD]
            rw [this]; exact o3
          · have : (f ++ [(rc i).2]).getD t [] = f.getD t [] := by simp [List.getD_eq_getElem?_getD, List.getElem?_append_left (show t < f.length by omega)]
            rw [this]
            exact mR.fr (hf.2 t (by omega)) (hg3 25 _ (by omega) (by omega) (by omega)) (fun j _ _ => hg3 24 j (by omega) (by omega) (by omega))
    -- where the window begins
    have win : (rc i).1 = 0 → ∀ x : Int32, x = nI st.2.2.2.2.2.1 → (((nI s + (1 : Int32)) - x < (1 : Int32) → AW E m_Mo_run (K, n, I, F, J) cb sb Q 30 [some (.ref m), some (.int (nI cps.length)), some (.int (nI s + (1 : Int32))), some (.int (nI i + (1 : Int32))), none, none, none, none] []) ∧ (¬ (nI s + (1 : Int32)) - x < (1 : Int32) → st.2.2.2.2.2.1 ≤ s ∧ (nI s + (1 : Int32)) - x = nI (s + 1 - st.2.2.2.2.2.1))) := fun h1 x hx => by
      subst hx
      have hsk := hwL.2.2.1
      rw [nI_1]
      by_cases q : st.2.2.2.2.2.1 ≤ s
      · have e : nI (s + 1) - nI st.2.2.2.2.2.1 = nI (s + 1 - st.2.2.2.2.2.1) := pk_sub (by omega)
        rw [e]
        exact ⟨fun z => absurd z (nI_nlt (b := 1) (by omega) (by omega)), fun _ => ⟨q, rfl⟩⟩
      · have hlt : nI (s + 1) - nI st.2.2.2.2.2.1 < (1 : Int32) := by
          by_cases q2 : s + 1 = st.2.2.2.2.2.1
          · rw [q2, pk_sub (Nat.le_refl _), Nat.sub_self]; decide
          · have h1 := nI_subneg (a := s + 1) (b := st.2.2.2.2.2.1) (by omega) (by omega)
            rw [Int32.lt_iff_toInt_lt] at h1 ⊢
            have e0 : (0 : Int32).toInt = 0 := by decide
            have e1 : (1 : Int32).toInt = 1 := by decide
            omega
        refine ⟨fun _ => skip (s + 1) (by omega) ?_, fun z => absurd hlt z⟩
        conv => lhs; unfold pickF
        rw [if_pos h1, if_neg (fun y => q y.1)]
    have stp : (rc i).1 = 0 → st.2.2.2.2.2.1 ≤ s → ¬ s - st.2.2.2.2.2.1 < st.2.2.2.2.2.2.1 → AW E m_Mo_run (K, n, I, F, J) cb sb Q 30 [some (.ref m), some (.int (nI cps.length)), some (.int (nI s + (1 : Int32))), some (.int (nI i + (1 : Int32))), none, none, none, none] [] := fun h1 q1 q2 => by
      rw [nI_1]
      refine skip (s + 1) (by omega) ?_
      conv => lhs; unfold pickF
      rw [if_pos h1, if_neg (fun y => q2 y.2)]
    have key : ∀ c : Bool, (zB c ≤ 0 ↔ c = false) := by decide
    have hst9 := hwL.2.2.2
    refine ⟨fun z => ⟨_, h.f (f := 4) (by decide), h.k (by decide), 5, rfl, bd4 5 (by decide), by decide, ?_⟩, fun z => skip s (by omega) ?_⟩
    · have h1 := e0.mp z
      rw [h.a (f := 4) (by decide), hwB 5 (by decide)]
      -- behind the skipped
      have fin : ∀ x : Int32, x = nI st.2.2.2.2.2.1 → st.2.2.2.2.2.1 ≤ s → (nI s + (1 : Int32)) - x = nI (s + 1 - st.2.2.2.2.2.1) → (zB (b 6) ≤ 0 → AW E m_Mo_comes (K, n, I, F, J) 0 0 (zAft E m_Mo_run cb sb Q 108 [some (.ref m), some (.int (nI cps.length)), some (.int (nI s + (1 : Int32))), some (.int (nI i)), none, none, none, none] []) 0 [some (.ref m), some (.int (nI i)), none, none] []) ∧ (¬ zB (b 6) ≤ 0 → (((nI s + (1 : Int32)) - x ≤ V 6 1 → AW E m_Mo_comes (K, n, I, F, J) 0 0 (zAft E m_Mo_run cb sb Q 108 [some (.ref m), some (.int (nI cps.length)), some (.int (nI s + (1 : Int32))), some (.int (nI i)), none, none, none, none] []) 0 [some (.ref m), some (.int (nI i)), none, none] []) ∧ (¬ (nI s + (1 : Int32)) - x ≤ V 6 1 → AW E m_Mo_run (K, n, I, F, J) cb sb Q 30 [some (.ref m), some (.int (nI cps.length)), some (.int (nI s + (1 : Int32))), some (.int (nI i + (1 : Int32))), none, none, none, none] []))) := fun x hx q1 ex => by
        have inn' := fun hw => inn h1 hw
        rw [← nI_1] at inn'
        refine ⟨fun y => inn' ⟨q1, ?_⟩, fun y => ?_⟩
        · have := hwS.2.2.2.2.2.2.2 ((key _).mp y)
          omega
        · have hb6 : b 6 = true := by
            cases q : b 6
            · exact absurd ((key _).mpr q) y
            · rfl
          rw [ex, hwL.2.1 hb6]
          refine pk_le (s + 1 - st.2.2.2.2.2.1) st.2.2.2.2.2.2.1 (fun q => inn' ⟨q1, by omega⟩) (fun q => stp h1 q1 (by omega)) rfl rfl (by omega) (by omega)
      refine ⟨fun y => ?_, fun y => ⟨_, h.f (f := 6) (by decide), h.k (by decide), 0, rfl, bd6 0 (by decide), by decide, ?_⟩⟩
      · have hsk0 : st.2.2.2.2.2.1 = 0 := hwS.2.2.2.2.2.2.1 ((key _).mp y)
        have hx : (0 : Int32) = nI st.2.2.2.2.2.1 := by rw [hsk0]; rfl
        obtain ⟨w1, w2⟩ := win h1 0 hx
        refine ⟨w1, fun y2 => ⟨6, rfl, bd4 6 (by decide), by decide, ?_⟩⟩
        obtain ⟨q1, ex⟩ := w2 y2
        rw [hwB 6 (by decide)]
        obtain ⟨f1, f2⟩ := fin 0 hx q1 ex
        exact ⟨f1, fun y3 => ⟨_, h.f (f := 6) (by decide), h.k (by decide), 1, rfl, bd6 1 (by decide), by decide, by rw [h.a (f := 6) (by decide)]; exact f2 y3⟩⟩
      · have hb5 : b 5 = true := by
          cases q : b 5
          · exact absurd ((key _).mpr q) y
          · rfl
        rw [h.a (f := 6) (by decide)]
        obtain ⟨w1, w2⟩ := win h1 (V 6 0) (hwL.1 hb5)
        refine ⟨w1, fun y2 => ⟨6, rfl, bd4 6 (by decide), by decide, ?_⟩⟩
        obtain ⟨q1, ex⟩ := w2 y2
        rw [hwB 6 (by decide)]
        obtain ⟨f1, f2⟩ := fin (V 6 0) (hwL.1 hb5) q1 ex
        exact ⟨f1, fun y3 => ⟨1, rfl, bd6 1 (by decide), by decide, f2 y3⟩⟩
    · conv => lhs; unfold pickF
      rw [if_neg (fun y => z (e0.mpr y))]
end
