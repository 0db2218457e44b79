-- ===== the reference: laying out =====
theorem mB.oF {V V' : Nat → Nat → Int32} {b : Nat → Bool} {st : zStm} (h : mB V b st) (hf : ∀ f j, 4 ≤ f → f ≤ 11 → V' f j = V f j) : mB V' b st :=
  h.ext (fun j _ => hf 4 j (by omega) (by omega)) (fun j _ => hf 5 j (by omega) (by omega)) (fun j _ => hf 6 j (by omega) (by omega)) (fun j _ => hf 7 j (by omega) (by omega)) (fun j _ => hf 8 j (by omega) (by omega)) (fun j _ => hf 9 j (by omega) (by omega)) (fun j _ => hf 10 j (by omega) (by omega)) (fun j _ => hf 11 j (by omega) (by omega))
theorem mRT.fr {V V' : Nat → Nat → Int32} {f g t : Nat} {r : List Nat} (h : mRT V f g t r) (h1 : V' g t = V g t) (h2 : ∀ j, 100 * t ≤ j → j < 100 * t + 100 → V' f j = V f j) : mRT V' f g t r := ⟨h.1.fr h1 h2, h.2⟩
theorem take_zapp {r : List Nat} {k : Nat} (h : k < r.length) (h100 : r.length ≤ 100) : zapp (r.take k) (r.getD k 0) = r.take (k + 1) := by
  unfold zapp
  rw [if_pos (by rw [List.length_take]; omega), List.take_succ, List.getElem?_eq_getElem h]
  congr 1
  simp [List.getD_eq_getElem?_getD, List.getElem?_eq_getElem h]
section
variable {E : zE} {B : (Nat → Nat → Int32) × (Nat → Nat → Int64)} {K n : Nat → Nat} {F : Nat → Nat → Option Nat} {J : Nat → Nat → Int64} {m : Nat} {A : Nat → Nat} {T : Nat → Int64} {cb sb : Nat} {Q : zO → zH → Prop}
/-- a row's bytes, when no pieces are given -/
theorem mo_layC {c t : Nat} {hh : List Nat} {b : Nat → Bool} {st : zStm} (ht : t < 150) (hc : c < 150) (hp : st.2.2.2.1 = []) : ∀ (d k : Nat) (I : Nat → Nat → Int32) (V : Nat → Nat → Int32), k + d = hh.length → MS B K n I F J m A V T → mB V b st → mRT V 19 20 c hh → V 26 0 = nI t → oR V 0 t (hh.take k) →
    (∀ I' V', MS B K n I' F J m A V' T → oR V' 0 t hh → oF V V' 0 t → AW E m_Mo_lay (K, n, I', F, J) cb sb Q 50 [some (.ref m), some (.int (nI c)), some (.int (0 : Int32)), none, none] []) →
    AW E m_Mo_lay (K, n, I, F, J) cb sb Q 7 [some (.ref m), some (.int (nI c)), some (.int (nI k)), none, none] []
  | 0, k, I, V, hk, h, hS, hr, h26, ho, w => by
    have hl := hr.1.2.1
    refine r_Mo_lay_7 ⟨h.K9, _, h.f (f := 20) (by decide), h.k (by decide), c, rfl, by rw [h.sz (by decide)]; exact hc, by omega, ?_⟩
    rw [h.a (by decide), hr.1.1]
    rw [List.take_of_length_le (by omega)] at ho
    exact br_t ((nI_leI (by omega) (by omega)).mpr (by omega)) (w I V h ho (oF.refl _ _ _))
  | d + 1, k, I, V, hk, h, hS, hr, h26, ho, w => by
    have hl := hr.1.2.1
    have hb4 : b 4 = false := hS.2.2.1.2.2.2.2.2.1.mpr hp
    refine r_Mo_lay_7 ⟨h.K9, _, h.f (f := 20) (by decide), h.k (by decide), c, rfl, by rw [h.sz (by decide)]; exact hc, by omega, ?_⟩
    rw [h.a (by decide), hr.1.1]
    refine br_f (nI_ge (by omega) (by omega)) ⟨_, h.f (f := 4) (by decide), h.k (by decide), 4, rfl, by rw [h.sz (by decide)]; decide, by decide, ?_⟩
    rw [h.a (by decide), hS.2.1 4 (by decide), hb4]
    have ex : (100 : Int32) * nI c + nI k = nI (100 * c + k) := by
      show nI 100 * nI c + _ = _
      rw [pk_mul, nI_add]
    refine ⟨fun z => absurd rfl z, fun _ => ⟨_, h.f (f := 19) (by decide), h.k (by decide), 100 * c + k, ex, by rw [h.sz (by decide)]; show 100 * c + k < 15000; omega, by omega, ?_⟩⟩
    rw [h.a (by decide), hr.1.2.2.2 k (by omega)]
    refine mo_put (o := 0) h (by decide) h26 ht ho (zgetD_lt hr.1.2.2.1 (by omega)) (fun I' V' h' ho' hf => r_Mo_lay_42 ?_)
    rw [take_zapp (by omega) hl] at ho'
    rw [nI_1]
    refine mo_layC ht hc hp d (k + 1) I' V' (by omega) h' (hS.oF (fun f j a1 a2 => hf f j (by omega) (by omega))) (hr.fr (hf 20 c (by omega) (by omega)) (fun j _ _ => hf 19 j (by omega) (by omega))) (by rw [hf 26 0 (by omega) (by omega)]; exact h26) ho' (fun I2 V2 h2 o2 f2 => w I2 V2 h2 o2 (hf.tr f2))
/-- one piece -/
theorem mo_layI {c t p : Nat} {hh : List Nat} {st : zStm} {b : Nat → Bool} {g : zPart} (ht : t < 150) (hc : c < 150) (hp12 : p < 12) (hg : st.2.2.2.1[p]? = some g) : ∀ (d k : Nat) (acc : List Nat) (I : Nat → Nat → Int32) (V : Nat → Nat → Int32), k + d = g.2.2 → MS B K n I F J m A V T → mB V b st → mRT V 19 20 c hh → V 26 0 = nI t → oR V 0 t acc →
    (∀ I' V', MS B K n I' F J m A V' T → oR V' 0 t (appP g hh k d acc) → oF V V' 0 t → AW E m_Mo_lay (K, n, I', F, J) cb sb Q 50 [some (.ref m), some (.int (nI c)), some (.int (nI (p + 1))), none, none] []) →
    AW E m_Mo_lay (K, n, I, F, J) cb sb Q 62 [some (.ref m), some (.int (nI c)), some (.int (nI p)), some (.int (nI k)), none] []
  | d, k, acc, I, V, hk, h, hS, hr, h26, ho, w => by
    have hpR := hS.1.2.2.2.2.2 p g hg
    have hlen : V 10 (2 * p + 1) = nI g.2.2 ∧ g.2.2 ≤ 100 := by
      rcases hpR with q | q
      · exact rR_len q
      · exact ⟨q.2.1, by omega⟩
    have e2 : (2 : Int32) * nI p = nI (2 * p) := pk_mul 2 p
    have bd : ∀ i, i < 2 → 2 * p + i < n (A 10) := fun i hi => by rw [h.sz (by decide)]; show 2 * p + i < 48; omega
    refine r_Mo_lay_62 ⟨h.K9, _, h.f (f := 10) (by decide), h.k (by decide), 2 * p + 1, by rw [e2, nI_1], bd 1 (by decide), by omega, ?_⟩
    rw [h.a (by decide), hlen.1]
    cases d with
    | zero =>
      rw [nI_1]
      exact br_t ((nI_leI (by omega) (by omega)).mpr (by omega)) (w I V h ho (oF.refl _ _ _))
    | succ d =>
      refine br_f (nI_ge (by omega) (by omega)) ⟨2 * p, e2, bd 0 (by decide), by omega, ?_⟩
      have put : ∀ u, u < 256 → u = poct g hh k → AW E m_Mo_lay (K, n, I, F, J) cb sb Q 139 [some (.ref m), some (.int (nI c)), some (.int (nI p)), some (.int (nI k)), none] [.int (nI u), .int (0 : Int32), .ref m] := fun u hu eu => by
        refine r_Mo_lay_139 ⟨h.K9, mo_put (o := 0) h (by decide) h26 ht ho hu (fun I' V' h' ho' hf => r_Mo_lay_142 ?_)⟩
        rw [nI_1]
        rw [eu] at ho'
        exact mo_layI ht hc hp12 hg d (k + 1) _ I' V' (by omega) h' (hS.oF (fun f j a1 a2 => hf f j (by omega) (by omega))) (hr.fr (hf 20 c (by omega) (by omega)) (fun j _ _ => hf 19 j (by omega) (by omega))) (by rw [hf 26 0 (by omega) (by omega)]; exact h26) ho' (fun I2 V2 h2 o2 f2 => w I2 V2 h2 o2 (hf.tr f2))
      rcases hpR with q | q
      · obtain ⟨g1, g2, g3⟩ := g
        unfold rR at q
        cases g1 with
        | none =>
          dsimp only at q hlen hk put
          rw [q.1]
          have ep : poct (none, g2, g3) hh k = oct hh (g2 + k) := by unfold poct; rw [if_pos (by show k < g3; omega)]
          have hq3 := q.2.2
          refine ⟨fun _ => ⟨fun _ => ⟨_, h.f (f := 19) (by decide), _, h.f (f := 20) (by decide), ?_⟩, fun z => absurd z (nI_ne0 (by omega) (by omega))⟩, fun z => absurd z (nI_m1 (by omega))⟩
          rw [nI_pred, nI_add]
          exact mo_byteOf h hr (by omega) (put _ (oct_lt hr.1.2.2.1 _) ep.symm)
        | some ts =>
          dsimp only at q hlen hk put
          obtain ⟨a1, a2, a3, a4, a5, a7, a6⟩ := q
          rw [a1]
          have ep : poct (some ts, g2, g3) hh k = ts.getD k 0 := by unfold poct; rw [if_pos (by show k < g3; omega)]
          refine ⟨fun _ => ⟨fun z => absurd rfl z, fun _ => ⟨_, h.f (f := 11) (by decide), h.k (by decide), 20 * (10 + p) + k, ?_, by rw [h.sz (by decide)]; show 20 * (10 + p) + k < 880; omega, by omega, ?_⟩⟩, fun z => absurd z (by decide)⟩
          · show nI 20 * (nI 10 + nI p) + nI k = _
            rw [nI_add, pk_mul, nI_add]
          · rw [h.a (by decide), a6 k (by omega)]
            have := a7 _ (zgetD_mem (xs := ts) (i := k) (by omega))
            exact put _ (by omega) ep.symm
      · rw [q.1]
        refine ⟨fun z => absurd rfl z, fun _ => put 32 (by omega) ?_⟩
        unfold poct
        rw [if_pos (by omega), q.2.2.2.2]
        dsimp only
        rw [List.getD_eq_getElem?_getD, List.getElem?_replicate, if_pos (by omega)]; rfl
/-- all pieces, and what stands beside the row -/
theorem mo_layL {c t num mo : Nat} {hh : List Nat} {st : zStm} {b : Nat → Bool} (ht : t < 150) (hc : c < 150) : ∀ (ps : List zPart) (p : Nat) (acc : List Nat) (I : Nat → Nat → Int32) (V : Nat → Nat → Int32), st.2.2.2.1.drop p = ps → p ≤ st.2.2.2.1.length → MS B K n I F J m A V T → mB V b st → mRT V 19 20 c hh → V 26 0 = nI t → V 21 c = nI mo → V 22 c = nI num → oR V 0 t acc →
    (∀ I' V', MS B K n I' F J m A V' T → oR V' 0 t (layP hh ps acc) → V' 26 0 = nI (t + 1) → V' 27 t = nI mo → V' 28 t = nI num → (∀ f j, ¬ (f = 24 ∧ 15000 * 0 + 100 * t ≤ j ∧ j < 15000 * 0 + 100 * t + 100) → ¬ (f = 25 ∧ j = 150 * 0 + t) → ¬ (f = 26 ∧ j = 0) → ¬ (f = 27 ∧ j = t) → ¬ (f = 28 ∧ j = t) → V' f j = V f j) → Q (.inl none) (K, n, I', F, J)) →
    AW E m_Mo_lay (K, n, I, F, J) cb sb Q 50 [some (.ref m), some (.int (nI c)), some (.int (nI p)), none, none] []
  | [], p, acc, I, V, hd, hp, h, hS, hr, h26, h21, h22, ho, w => by
    have e : st.2.2.2.1.length ≤ p := List.drop_eq_nil_iff.mp hd
    have h12 := hS.1.1.1.2.2.2
    refine r_Mo_lay_50 ⟨h.K9, _, h.f (f := 5) (by decide), h.k (by decide), 4, rfl, by rw [h.sz (by decide)]; decide, by decide, ?_⟩
    rw [h.a (f := 5) (by decide), hS.1.2.1.2.2.2]
    have h2 := h.up (f := 27) (by decide) t (nI mo)
    have e26 : zup I (A 27) t (nI mo) (A 26) 0 = nI t := by rw [h2.a (by decide), zup_n _ _ _ (by decide)]; exact h26
    have e22 : zup I (A 27) t (nI mo) (A 22) c = nI num := by rw [h2.a (by decide), zup_n _ _ _ (by decide)]; exact h22
    have h3 := h2.up (f := 28) (by decide) t (nI num)
    have e26' : zup (zup I (A 27) t (nI mo)) (A 28) t (nI num) (A 26) 0 + (1 : Int32) = nI (t + 1) := by rw [h3.a (by decide), zup_n _ _ _ (by decide), zup_n _ _ _ (by decide), h26, nI_1]
    refine br_t ((nI_leI (by omega) (by omega)).mpr (by omega)) ⟨_, h.f (f := 27) (by decide), _, h.f (f := 26) (by decide), h.k (by decide), 0, rfl, by rw [h.sz (by decide)]; decide, by decide, _, h.f (f := 21) (by decide), h.k (by decide), c, rfl, by rw [h.sz (by decide)]; exact hc, by omega, h.k (by decide), t, by rw [h.a (f := 26) (by decide)]; exact h26, by rw [h.sz (by decide)]; exact ht, by omega, _, h.f (f := 28) (by decide), _, h.f (f := 22) (by decide), h.k (by decide), c, rfl, by rw [h.sz (by decide)]; exact hc, by omega, h.k (by decide), t, ?_, by rw [h.sz (by decide)]; exact ht, by omega, ?_⟩
    · rw [h.a (f := 21) (by decide), h21]; exact e26
    · rw [h.a (f := 21) (by decide), h21, e22, e26']
      refine w _ _ (h3.up (f := 26) (by decide) 0 (nI (t + 1))) ?_ (zup_s _ _ _ _) ?_ ?_ (fun f j a1 a2 a3 a4 a5 => ?_)
      · exact mR.fr ho (by rw [zup_n _ _ _ (by decide), zup_n _ _ _ (by decide), zup_n _ _ _ (by decide)]) (fun j _ _ => by rw [zup_n _ _ _ (by decide), zup_n _ _ _ (by decide), zup_n _ _ _ (by decide)])
      · rw [zup_n _ _ _ (by decide), zup_n _ _ _ (by decide), zup_s]
      · rw [zup_n _ _ _ (by decide), zup_s]
      · rw [zup_at, if_neg a3, zup_at, if_neg a5, zup_at, if_neg a4]
  | g :: ps, p, acc, I, V, hd, hp, h, hS, hr, h26, h21, h22, ho, w => by
    obtain ⟨ef, ed, el⟩ := zdrop_at hd
    have h12 := hS.1.1.1.2.2.2
    refine r_Mo_lay_50 ⟨h.K9, _, h.f (f := 5) (by decide), h.k (by decide), 4, rfl, by rw [h.sz (by decide)]; decide, by decide, ?_⟩
    rw [h.a (f := 5) (by decide), hS.1.2.1.2.2.2]
    refine br_f (nI_ge (by omega) (by omega)) ?_
    refine mo_layI ht hc (by omega) ef g.2.2 0 acc I V (by omega) h hS hr h26 ho (fun I' V' h' ho' hf => ?_)
    refine mo_layL ht hc ps (p + 1) _ I' V' ed (by omega) h' (hS.oF (fun f j a1 a2 => hf f j (by omega) (by omega))) (hr.fr (hf 20 c (by omega) (by omega)) (fun j _ _ => hf 19 j (by omega) (by omega))) (by rw [hf 26 0 (by omega) (by omega)]; exact h26) (by rw [hf 21 c (by omega) (by omega)]; exact h21) (by rw [hf 22 c (by omega) (by omega)]; exact h22) ho' (fun I2 V2 h2 o2 k1 k2 k3 f2 => w I2 V2 h2 o2 k1 k2 k3 (fun f j a1 a2 a3 a4 a5 => by rw [f2 f j a1 a2 a3 a4 a5, hf f j a1 a2]))
/-- lay(c) -/
theorem mo_lay {c t num mo : Nat} {hh : List Nat} {st : zStm} {b : Nat → Bool} {I : Nat → Nat → Int32} {V : Nat → Nat → Int32} (ht : t < 150) (hc : c < 150) (h : MS B K n I F J m A V T) (hS : mB V b st) (hr : mRT V 19 20 c hh) (h26 : V 26 0 = nI t) (h21 : V 21 c = nI mo) (h22 : V 22 c = nI num)
    (w : ∀ I' V', MS B K n I' F J m A V' T → oR V' 0 t (layF st hh) → V' 26 0 = nI (t + 1) → V' 27 t = nI mo → V' 28 t = nI num → (∀ f j, ¬ (f = 24 ∧ 15000 * 0 + 100 * t ≤ j ∧ j < 15000 * 0 + 100 * t + 100) → ¬ (f = 25 ∧ j = 150 * 0 + t) → ¬ (f = 26 ∧ j = 0) → ¬ (f = 27 ∧ j = t) → ¬ (f = 28 ∧ j = t) → V' f j = V f j) → Q (.inl none) (K, n, I', F, J)) :
    AW E m_Mo_lay (K, n, I, F, J) cb sb Q 0 [some (.ref m), some (.int (nI c)), none, none, none] [] := by
  refine r_Mo_lay_0 ⟨h.K9, mo_begin (o := 0) h (by decide) h26 ht (fun I1 V1 h1 o1 f1 => r_Mo_lay_5 ?_)⟩
  have hS1 : mB V1 b st := hS.oF (fun f j a1 a2 => f1 f j (by omega) (by omega))
  have hr1 : mRT V1 19 20 c hh := hr.fr (f1 20 c (by omega) (by omega)) (fun j _ _ => f1 19 j (by omega) (by omega))
  have h261 : V1 26 0 = nI t := by rw [f1 26 0 (by omega) (by omega)]; exact h26
  have h211 : V1 21 c = nI mo := by rw [f1 21 c (by omega) (by omega)]; exact h21
  have h221 : V1 22 c = nI num := by rw [f1 22 c (by omega) (by omega)]; exact h22
  unfold layF at w
  by_cases hp : st.2.2.2.1 = []
  · rw [if_pos hp] at w
    refine mo_layC ht hc hp hh.length 0 I1 V1 (by omega) h1 hS1 hr1 h261 o1 (fun I2 V2 h2 o2 f2 => ?_)
    refine mo_layL (hh := hh) ht hc [] 0 hh I2 V2 (by rw [hp]; rfl) (by omega) h2 (hS1.oF (fun f j a1 a2 => f2 f j (by omega) (by omega))) (hr1.fr (f2 20 c (by omega) (by omega)) (fun j _ _ => f2 19 j (by omega) (by omega))) (by rw [f2 26 0 (by omega) (by omega)]; exact h261) (by rw [f2 21 c (by omega) (by omega)]; exact h211) (by rw [f2 22 c (by omega) (by omega)]; exact h221) o2 (fun I3 V3 h3 o3 k1 k2 k3 f3 => w I3 V3 h3 o3 k1 k2 k3 (fun f j a1 a2 a3 a4 a5 => by rw [f3 f j a1 a2 a3 a4 a5, f2 f j a1 a2, f1 f j a1 a2]))
  · rw [if_neg hp] at w
    have hb4 : b 4 = true := by
      cases hb : b 4
      · exact absurd (hS.2.2.1.2.2.2.2.2.1.mp hb) hp
      · rfl
    have go : AW E m_Mo_lay (K, n, I1, F, J) cb sb Q 50 [some (.ref m), some (.int (nI c)), some (.int (nI 0)), none, none] [] := mo_layL ht hc st.2.2.2.1 0 [] I1 V1 rfl (by omega) h1 hS1 hr1 h261 h211 h221 o1 (fun I3 V3 h3 o3 k1 k2 k3 f3 => w I3 V3 h3 o3 k1 k2 k3 (fun f j a1 a2 a3 a4 a5 => by rw [f3 f j a1 a2 a3 a4 a5, f1 f j a1 a2]))
    refine r_Mo_lay_7 ⟨h1.K9, _, h1.f (f := 20) (by decide), h1.k (by decide), c, rfl, by rw [h1.sz (by decide)]; exact hc, by omega, br_c (fun _ => go) (fun _ => ⟨_, h1.f (f := 4) (by decide), h1.k (by decide), 4, rfl, by rw [h1.sz (by decide)]; decide, by decide, ?_⟩)⟩
    rw [h1.a (by decide), hS1.2.1 4 (by decide), hb4]
    exact ⟨fun _ => go, fun z => absurd z (by decide)⟩
end
