-- a join refused costs nothing
section
variable {E : zE} {U : zU} {K n : Nat → Nat} {I : Nat → Nat → Int32} {F : Nat → Nat → Option Nat} {J : Nat → Nat → Int64} {cb sb : Nat} {Q : zO → zH → Prop} {k : Nat → Nat} {X : Nat → List Nat} {R : Nat → List Nat} {N : Nat → Nat × Nat × Nat} {st : zStm} {pu pp : List Nat} {cu cp : Nat} {D Sg : Nat → Int32}
theorem cc_joinNo {x y : Int32} (h : CC E U K n I F J k X R N st pu cu pp cp D Sg) (hn : ¬ (st.1 ≠ [] ∧ inR x 3 ∧ inR y 3 ∧ x ≠ y)) (w1 : Q (.inl (some (.int (-1)))) (K, n, I, F, J)) :
    AW E m_Su_join (K, n, I, F, J) cb sb Q 0 [some (.ref (uo U)), some (.int x), some (.int y), none, none, none] [] := by
  obtain ⟨fo, f1, f2, f3⟩ := h.sta
  obtain ⟨-, -, -, -, -, -, -, -, l0, l1, l2, l3, g0, g1, g2, g3, ⟨x0, p0, hL0, hp0, hlen0, hC0⟩, -⟩ := f3
  have b0 := hL0.2.2.1
  have isI : ∀ (z : Int32) (Q' : zO → zH → Prop) (cb' sb' : Nat), (inR z 3 → Q' (.inl (some (.int 1))) (K, n, I, F, J)) → (¬ inR z 3 → Q' (.inl (some (.int 0))) (K, n, I, F, J)) → AW E m_Su_isInput (K, n, I, F, J) cb' sb' Q' 0 [some (.int z)] [] := fun z Q' cb' sb' q1 q2 => by
    refine r_Su_isInput_0 (br_c (fun hx => q2 (fun q => q.1 hx)) (fun hx => ?_))
    obtain ⟨j, hj, e⟩ := nI_of hx
    subst e
    exact pk_le 3 j (fun z => q2 (fun q => by rw [inR_n hj (by decide)] at q; omega)) (fun z => q1 ((inR_n hj (by decide)).mpr z)) rfl rfl (by decide) hj
  refine r_Su_join_0 ⟨h.ro, fo, f1, f2, l0, g0, hL0.1, c_isEmpty hL0.1 hL0.2.1 (by omega) ?_⟩
  by_cases hk0 : st.1 = []
  · rw [hlen0, hk0, if_pos List.length_nil]
    exact r_Su_join_10 ⟨fun _ => w1, fun z => absurd z (by decide)⟩
  have hkl : 0 < st.1.length := by
    cases e : st.1 with
    | nil => exact absurd e hk0
    | cons a b => simp
  rw [if_neg (by omega)]
  refine r_Su_join_10 ⟨fun z => absurd rfl z, fun _ => isI x _ _ _ (fun hx => ?_) (fun hx => r_Su_join_17 ⟨fun _ => w1, fun z => absurd rfl z⟩)⟩
  refine r_Su_join_17 ⟨fun z => absurd z (by decide), fun _ => isI y _ _ _ (fun hy => ?_) (fun hy => r_Su_join_24 ⟨fun _ => w1, fun z => absurd rfl z⟩)⟩
  exact r_Su_join_24 ⟨fun z => absurd z (by decide), fun _ => ⟨fun hxy => absurd ⟨hk0, hx, hy, hxy⟩ hn, fun hxy => w1⟩⟩
end
section
variable {E : zE} {Uo : zUo} {K n : Nat → Nat} {I : Nat → Nat → Int32} {F : Nat → Nat → Option Nat} {J : Nat → Nat → Int64} {Q : zO → zH → Prop} {x : zTx} {L : Nat} {st : zStm} {rc : zRec} {M : Nat} {Ld : List zHel} {rf jn : List (List Nat)} {u : List Nat} {does : Nat} {stops : Bool} {code pc ps : Nat}
theorem cs_run (h : CS E Uo K n I F J x L st rc M Ld rf jn u does stops code pc ps) (hok : okS st) (hd3 : does < 3) (hr3 : ∀ t, t < M → (rc t).1 < 3) : ∃ d e, d ≤ pc ∧ e ≤ ps ∧ ∀ Q : zO → zH → Prop,
    (∀ K' n' I' F' J', CS E Uo K' n' I' F' J' x L st rc M (runF st rc M does stops).1 (runF st rc M does stops).2.1 jn u does stops (runF st rc M does stops).2.2 (pc - d) (ps - e) → CT Uo K n I F J (K', n', I', F', J') → Q (.inl (some (.int (nI (runF st rc M does stops).1.length)))) (K', n', I', F', J')) →
    AW E m_Su_run (K, n, I, F, J) d e Q 0 [some (.ref Uo.1)] [] := by
  obtain ⟨k, X, R, N, pu, cu, pp, cp, D, Sg, C, ⟨a1, a2⟩, ⟨b1, b2, b3⟩, ⟨c1, c2, c3⟩, ⟨d1, d2⟩, ⟨e1, e2, e3⟩, f1, f2⟩ := h
  subst b1
  obtain ⟨l1, l2, l3⟩ := runF_len st rc (k 0) does stops
  have hk0 := C.k31 (i := 0) (by decide)
  unfold pot at f1
  unfold potS at f2
  refine ⟨3 * ((runF st rc (k 0) does stops).1.length - (X 1).length) + 3 * ((runF st rc (k 0) does stops).2.1.length - (X 2).length) + ((pickF st rc (k 0) 0 0 [] []).1.length - cp), 405 * ((runF st rc (k 0) does stops).1.length - (X 1).length) + 405 * ((runF st rc (k 0) does stops).2.1.length - (X 2).length) + 300 * ((pickF st rc (k 0) 0 0 [] []).1.length - cp), by omega, by omega, fun Q w => ?_⟩
  refine cc_run hok hd3 C b3 hr3 e1 e2 (Nat.le_refl _) (Nat.le_refl _) (fun K' n' I' F' J' k' X' R' N' pp' cp' D' C' rb' ld' cb' kx x1 x2 p1 p2 r3 n0 dd d14 => w _ _ _ _ _ ⟨k', X', R', N', pu, cu, pp', cp', D', Sg, C'.re, ⟨by rw [dd 1 (by decide) (by decide)]; exact a1, a2⟩, ⟨(kx 0 (by decide) (by decide)).1, by rw [(kx 0 (by decide) (by decide)).2]; exact b2, rb'⟩, ⟨ld', cb', c3.fr (kx 3 (by decide) (by decide)).1 (fun t ht => ?_)⟩, ⟨?_, d2⟩, ⟨by rw [dd 8 (by decide) (by decide)]; exact e1, by rw [dd 9 (by decide) (by decide)]; exact e2, d14⟩, ?_, ?_⟩ C'.ct)
  · have hl := (C.w (i := 3) (by decide)).2.2.2.1
    rw [(kx 3 (by decide) (by decide)).2]; exact r3 _ (zgetD_mem (by omega))
  · rw [d1]; exact (xm_congr (fun j _ => by rw [(kx 0 (by decide) (by decide)).2])).symm
  · unfold pot; rw [x1, x2, (kx 0 (by decide) (by decide)).2, (kx 3 (by decide) (by decide)).2]; omega
  · unfold potS; rw [x1, x2, (kx 0 (by decide) (by decide)).2, (kx 3 (by decide) (by decide)).2]; omega
theorem cs_join {v y : Int32} (h : CS E Uo K n I F J x L st rc M Ld rf jn u does stops code pc ps) (hr3 : ∀ t, t < M → (rc t).1 < 3) : ∃ d e, d ≤ pc ∧ e ≤ ps ∧ (¬ (st.1 ≠ [] ∧ inR v 3 ∧ inR y 3 ∧ v ≠ y) → d = 0 ∧ e = 0) ∧ ∀ Q : zO → zH → Prop,
    (¬ (st.1 ≠ [] ∧ inR v 3 ∧ inR y 3 ∧ v ≠ y) → Q (.inl (some (.int (-1)))) (K, n, I, F, J)) →
    ((st.1 ≠ [] ∧ inR v 3 ∧ inR y 3 ∧ v ≠ y) → ∀ K' n' I' F' J', CS E Uo K' n' I' F' J' x L st rc M Ld rf (joinF st rc M (xN v) (xN y)).1 (joinF st rc M (xN v) (xN y)).2 does stops code (pc - d) (ps - e) → CT Uo K n I F J (K', n', I', F', J') → Q (.inl (some (.int (nI (joinF st rc M (xN v) (xN y)).1.length)))) (K', n', I', F', J')) →
    AW E m_Su_join (K, n, I, F, J) d e Q 0 [some (.ref Uo.1), some (.int v), some (.int y), none, none, none] [] := by
  obtain ⟨k, X, R, N, pu, cu, pp, cp, D, Sg, C, a, ⟨b1, b2, b3⟩, ⟨c1, c2, c3⟩, ⟨d1, d2⟩, e, f1, f2⟩ := h
  subst b1
  obtain ⟨l1, l2, l3⟩ := joinF_len st rc (k 0) (xN v) (xN y)
  have hk0 := C.k31 (i := 0) (by decide)
  unfold pot at f1
  unfold potS at f2
  by_cases hcj : ¬ (st.1 ≠ [] ∧ inR v 3 ∧ inR y 3 ∧ v ≠ y)
  · exact ⟨0, 0, by omega, by omega, fun _ => ⟨rfl, rfl⟩, fun Q w1 w2 => cc_joinNo C hcj (w1 hcj)⟩
  refine ⟨3 * ((joinF st rc (k 0) (xN v) (xN y)).1.length - (X 3).length) + ((joinF st rc (k 0) (xN v) (xN y)).2.length - cu), 405 * ((joinF st rc (k 0) (xN v) (xN y)).1.length - (X 3).length) + 300 * ((joinF st rc (k 0) (xN v) (xN y)).2.length - cu), by omega, by omega, fun z => absurd z hcj, fun Q w1 w2 => ?_⟩
  refine cc_join C b3 hr3 (Nat.le_refl _) (Nat.le_refl _) w1 (fun hj K' n' I' F' k' X' R' N' cu' C' rb' cb' kx x3 p1 p2 rn => w2 hj _ _ _ _ _ ⟨k', X', R', N', _, cu', pp, cp, D, Sg, C'.re, a, ⟨(kx 0 (by decide)).1, by rw [(kx 0 (by decide)).2]; exact b2, rb'⟩, ⟨c1.fr (kx 1 (by decide)).1 (fun t ht => ?_), c2.fr (kx 2 (by decide)).1 (fun t ht => ?_), cb'⟩, ⟨rfl, l3⟩, e, ?_, ?_⟩ C'.ct)
  · have hl := (C.w (i := 1) (by decide)).2.2.2.1
    rw [(kx 1 (by decide)).2]; exact rn 1 _ (by decide) (by decide) (zgetD_mem (by omega))
  · have hl := (C.w (i := 2) (by decide)).2.2.2.1
    rw [(kx 2 (by decide)).2]; exact (rn 2 _ (by decide) (by decide) (zgetD_mem (by omega))).1
  · unfold pot; rw [x3, (kx 0 (by decide)).2, (kx 1 (by decide)).2, (kx 2 (by decide)).2]; omega
  · unfold potS; rw [x3, (kx 0 (by decide)).2, (kx 1 (by decide)).2, (kx 2 (by decide)).2]; omega
theorem CS.B (h : CS E Uo K n I F J x L st rc M Ld rf jn u does stops code pc ps) : ∃ k X R N pu cu pp cp D Sg, CC E ((K, n, I, F, J), Uo) K n I F J k X R N st pu cu pp cp D Sg ∧ (∀ i, i < 3 → cB k X R (i + 1) (Bo3 Ld rf jn i)) ∧ (∀ t, t < k 1 → (N ((X 1).getD t 0)).2 = (Ld.map Prod.snd).getD t (0, 0)) ∧ (u.length = pu.length ∧ ∀ t, t < u.length → (N (pu.getD t 0)).2.1 = u.getD t 0) ∧ D 14 = nI code ∧ M = k 0 := by
  obtain ⟨k, X, R, N, pu, cu, pp, cp, D, Sg, C, a, ⟨b1, b2, b3⟩, ⟨c1, c2, c3⟩, ⟨d1, d2⟩, e, f1, f2⟩ := h
  refine ⟨k, X, R, N, pu, cu, pp, cp, D, Sg, C, fun i hi => ?_, fun t ht => ?_, ⟨?_, fun t ht => ?_⟩, e.2.2, b1.symm⟩
  · rcases (by omega : i = 0 ∨ i = 1 ∨ i = 2) with q | q | q
    · subst q
      exact ⟨by rw [← c1.1]; exact List.length_map _, fun t ht => by rw [(c1.2 t ht).1]; exact (map_fst_getD Ld t).symm⟩
    · subst q; exact c2
    · subst q; exact c3
  · rw [(c1.2 t ht).2, map_snd_getD]
  · rw [d1]; exact (xm_len X u).symm
  · have hm : u.getD t 0 ∈ u := zgetD_mem ht
    have e1 : pu.getD t 0 = (X 0).getD (u.getD t 0) 0 := by
      rw [d1]; unfold xm
      rw [List.getD_eq_getElem?_getD, List.getElem?_map, List.getElem?_eq_getElem ht, List.getD_eq_getElem?_getD (l := u), List.getElem?_eq_getElem ht]; rfl
    rw [e1, (b3 _ (by rw [b1]; exact d2 _ hm)).2]
end
