-- ===== the class's run: the whole =====
theorem delF_ge (st : zStm) (does : Nat) (stops : Bool) (arr : Nat) (h : zHel) (L : List zHel) : L.length ≤ (delF st does stops arr h L).length ∧ (delF st does stops arr h L).length ≤ L.length + 1 := by
  unfold delF
  split
  · omega
  · split
    · omega
    · rw [List.length_append, List.length_singleton]; omega
theorem delC_le {stops : Bool} {arr c : Nat} (h : c ≤ 16) : delC stops arr c ≤ 16 := by unfold delC; split <;> omega
theorem sdF_ge (st : zStm) (rc : zRec) (does : Nat) (stops : Bool) : ∀ (is : List Nat) (h : zHel) (arr : Nat) (L : List zHel) (c : Nat), L.length ≤ (sdF st rc does stops is h arr L c).1.length ∧ (sdF st rc does stops is h arr L c).1.length ≤ L.length + is.length + 1 ∧ (c ≤ 16 → (sdF st rc does stops is h arr L c).2 ≤ 16)
  | [], h, arr, L, c => by
    have := delF_ge st does stops arr h L
    unfold sdF
    exact ⟨this.1, by simpa using this.2, fun q => delC_le q⟩
  | i :: is, h, arr, L, c => by
    unfold sdF
    split
    · have := sdF_ge st rc does stops is (takF st h.1 (rc i).2, h.2.1, h.2.2 + 1) arr L c
      rw [List.length_cons]
      exact ⟨this.1, by omega, this.2.2⟩
    · have := sdF_ge st rc does stops is ((rc i).2, i, 1) (arr + 1) (delF st does stops arr h L) (delC stops arr (if tkS st h.1 (rc i).2 = 1 then max c 4 else c))
      have h2 := delF_ge st does stops arr h L
      rw [List.length_cons]
      refine ⟨by omega, by omega, fun q => this.2.2 (delC_le ?_)⟩
      split <;> omega
section
variable {E : zE} {U : zU} {Q : zO → zH → Prop} {st : zStm} {pu : List Nat} {cu cp : Nat} {Sg : Nat → Int32} {rc : zRec} {P : List Nat} {does : Nat} {stops : Bool}
theorem cc_sdL (hok : okS st) (hP : P.length ≤ 150) (hd3 : does < 3) : ∀ (is : List Nat) (i : Nat) (h : zHel) (arr c : Nat) (L : List zHel) (K n : Nat → Nat) (I : Nat → Nat → Int32) (F : Nat → Nat → Option Nat) (J : Nat → Nat → Int64) (k : Nat → Nat) (X : Nat → List Nat) (R : Nat → List Nat) (N : Nat → Nat × Nat × Nat) (D : Nat → Int32) (cb sb : Nat),
    P.drop i = is → 1 ≤ i → i ≤ P.length → (∀ j ∈ P, j < k 0) → CC E U K n I F J k X R N st pu cu (xm X P) cp D Sg → RB k X R N rc → LD k X R N L → R (uhd U) = h.1 → (N (uhd U)).2 = h.2 → D 8 = nI does → D 9 = zB stops → D 13 = nI arr → D 14 = nI c → c ≤ 16 → arr + 1 ≤ i → L.length ≤ arr →
    3 * ((sdF st rc does stops is h arr L c).1.length - (X 1).length) ≤ cb → 405 * ((sdF st rc does stops is h arr L c).1.length - (X 1).length) ≤ sb →
    (∀ K' n' I' F' J' k' X' R' N' D', CC E U K' n' I' F' J' k' X' R' N' st pu cu (xm X' P) cp D' Sg → RB k' X' R' N' rc → LD k' X' R' N' (sdF st rc does stops is h arr L c).1 → (∀ j, j ≠ 1 → k' j = k j ∧ X' j = X j) → (X' 1).length = max (X 1).length (sdF st rc does stops is h arr L c).1.length → (∀ j x, j < 4 → j ≠ 1 → x ∈ X j → R' x = R x ∧ N' x = N x) → (∀ j, j ≠ 13 → j ≠ 14 → D' j = D j) → D' 14 = nI (sdF st rc does stops is h arr L c).2 → Q (.inl none) (K', n', I', F', J')) →
    AW E m_Su_sumAndDeliver (K, n, I, F, J) cb sb Q 2 [some (.ref (uo U)), some (.int (nI i)), none] []
  | [], i, h, arr, c, L, K, n, I, F, J, k, X, R, N, D, cb, sb, hi, hi1, hil, hPk, C, hB, hL, hR, hN, h8, h9, h13, h14, hc, hai, hLa, hcb, hsb, w => by
    obtain ⟨l1, l2, l3, l4⟩ := C.l5
    have e : P.length ≤ i := List.drop_eq_nil_iff.mp hi
    have hlen := xm_len X P
    refine r_Su_sumAndDeliver_2 ⟨C.ro, _, l1, l2.1, c_size l2.1 l2.2.1 (r_Su_sumAndDeliver_10 (br_t ((nI_leI (by omega) (by omega)).mpr (by omega)) ⟨C.ro, _, l1, l2.1, c_isEmpty l2.1 l2.2.1 (by omega) ?_⟩))⟩
    rw [if_neg (by omega)]
    refine r_Su_sumAndDeliver_65 ⟨fun z => absurd rfl z, fun _ => ⟨C.ro, cb, sb, 0, 0, by omega, by omega, ?_⟩⟩
    unfold sdF at hcb hsb w
    dsimp only at hcb hsb w
    have hge := delF_ge st does stops arr h L
    refine cc_deliver C hB hL hR (num := h.2.1) (mo := h.2.2) hN (by omega) (fun q1 q2 => ?_) h8 hd3 h9 h13 (by omega) h14 (fun K' n' I' F' k' X' R' N' D' C' hB' hL' hX' hl' ho' hD' h13' h14' => r_Su_sumAndDeliver_72 ?_)
    · have e1 : (delF st does stops arr (h.1, h.2.1, h.2.2) L) = delF st does stops arr h L := rfl
      rw [e1] at q1
      omega
    · have hX0 : xm X' P = xm X P := by unfold xm; rw [(hX' 0 (by decide)).2]
      exact w K' n' I' F' J k' X' R' N' D' (by rw [hX0]; exact C') hB' hL' hX' hl' ho' hD' h14'
  | p :: is, i, h, arr, c, L, K, n, I, F, J, k, X, R, N, D, cb, sb, hi, hi1, hil, hPk, C, hB, hL, hR, hN, h8, h9, h13, h14, hc, hai, hLa, hcb, hsb, w => by
    obtain ⟨l1, l2, l3, l4⟩ := C.l5
    obtain ⟨ef, ed, el⟩ := zdrop_at hi
    have hlen := xm_len X P
    have ep : P.getD i 0 = p := by rw [List.getD_eq_getElem?_getD, ef]; rfl
    have hpk : p < k 0 := hPk p (List.mem_of_getElem? ef)
    have hk0 := (C.w (i := 0) (by decide)).2.2.2.1
    have hk1 := (C.w (i := 1) (by decide)).2.2.2.1
    have hLk := hL.1
    refine r_Su_sumAndDeliver_2 ⟨C.ro, _, l1, l2.1, c_size l2.1 l2.2.1 (r_Su_sumAndDeliver_10 (br_f (nI_ge (by omega) (by omega)) ⟨C.ro, _, l1, l2.1, c_get l2 (by omega) ?_⟩))⟩
    rw [xm_at el, ep]
    have hp4 := (C.rV (C.rx (i := 0) (by decide) hpk)).1.1
    have q0 : ∀ t, t < k 0 → (X 0).getD t 0 ≠ uhd U := fun t ht => C.nh (i := 0) (by decide) (by omega)
    have q1 : ∀ t, t < k 1 → (X 1).getD t 0 ≠ uhd U := fun t ht => C.nh (i := 1) (by decide) (by omega)
    have qh : ∀ j x, j < 4 → x ∈ X j → x ≠ uhd U := fun j x hj hx z => by
      obtain ⟨cap, fo, c1, -⟩ := C
      rw [z] at hx
      exact c1.2.2.2.2.2.2.2.2.2.2.2.2.2 j hj hx
    refine r_Su_sumAndDeliver_21 ⟨hp4, br_f (nI_nle (by omega) (by omega)) ⟨C.ro, ?_⟩⟩
    unfold sdF at hcb hsb w
    -- the row is not taken up
    have other : tkS st h.1 (rc p).2 ≠ 2 → ∀ c1, c1 = (if tkS st h.1 (rc p).2 = 1 then max c 4 else c) → ∀ I' J' D', CC E U K n I' F J' k X R N st pu cu (xm X P) cp D' Sg → D' 14 = nI c1 → (∀ j, j ≠ 14 → D' j = D j) → AW E m_Su_sumAndDeliver (K, n, I', F, J') cb sb Q 34 [some (.ref (uo U)), some (.int (nI i)), some (.ref ((X 0).getD p 0))] [.int 0] := fun hne c1 hc1 I1 J1 D1 C1 h141 hD1 => by
      rw [if_neg hne, ← hc1] at hcb hsb w
      have hge := delF_ge st does stops arr h L
      have hsg := sdF_ge st rc does stops is ((rc p).2, p, 1) (arr + 1) (delF st does stops arr h L) (delC stops arr c1)
      have hc16 : c1 ≤ 16 := by rw [hc1]; split <;> omega
      refine r_Su_sumAndDeliver_34 ⟨fun _ => ⟨C.ro, (if L.length < (delF st does stops arr h L).length ∧ L.length = (X 1).length then 3 else 0), (if L.length < (delF st does stops arr h L).length ∧ L.length = (X 1).length then 405 else 0), cb - (if L.length < (delF st does stops arr h L).length ∧ L.length = (X 1).length then 3 else 0), sb - (if L.length < (delF st does stops arr h L).length ∧ L.length = (X 1).length then 405 else 0), by split <;> omega, by split <;> omega, ?_⟩, fun z => absurd rfl z⟩
      refine cc_deliver (c := c1) C1 hB hL hR (num := h.2.1) (mo := h.2.2) hN (by omega) (fun q1 q2 => by rw [if_pos ⟨q1, q2⟩, if_pos ⟨q1, q2⟩]; exact ⟨Nat.le_refl _, Nat.le_refl _⟩) (by rw [hD1 8 (by decide)]; exact h8) hd3 (by rw [hD1 9 (by decide)]; exact h9) (by rw [hD1 13 (by decide)]; exact h13) (by omega) h141 (fun K2 n2 I2 F2 k2 X2 R2 N2 D2 C2 hB2 hL2 hX2 hl2 ho2 hD2 h132 h142 => ?_)
      have e1 : (delF st does stops arr (h.1, h.2.1, h.2.2) L) = delF st does stops arr h L := rfl
      rw [e1] at hL2 hl2
      have e0 := (hX2 0 (by decide)).2
      have ek0 := (hX2 0 (by decide)).1
      have hX0 : xm X2 P = xm X P := by unfold xm; rw [e0]
      have hp2 : p < k2 0 := by rw [ek0]; exact hpk
      have vp := C2.rV (C2.rx (i := 0) (by decide) hp2)
      rw [(hB2 p hp2).1, (hB2 p hp2).2] at vp
      have vh := C2.rV rws.hd
      have hk02 := (C2.w (i := 0) (by decide)).2.2.2.1
      have hk12 := (C2.w (i := 1) (by decide)).2.2.2.1
      have q02 : ∀ t, t < k2 0 → (X2 0).getD t 0 ≠ uhd U := fun t ht => C2.nh (i := 0) (by decide) (by omega)
      have q12 : ∀ t, t < k2 1 → (X2 1).getD t 0 ≠ uhd U := fun t ht => C2.nh (i := 1) (by decide) (by omega)
      have hpe : (X 0).getD p 0 = (X2 0).getD p 0 := by rw [e0]
      rw [hpe]
      refine r_Su_sumAndDeliver_44 ⟨C2.ro, _, C2.hd, vh.1.1, c_become vh.1 vp.1 (fun z => q02 p hp2 z.symm) C2.G (fun I3 g3 i2 i3 i4 hr3 => r_Su_sumAndDeliver_52 ?_)⟩
      have C3 := C2.row rws.hd (g3.mono (fun _ _ z => z)) (t := ((N2 (uhd U)).1, p, 1)) ⟨hr3, by rw [i2]; exact vh.2.1, by rw [i3]; exact vp.2.2.1, by rw [i4]; exact vp.2.2.2⟩
      rw [nI_1]
      refine cc_sdL hok hP hd3 is (i + 1) ((rc p).2, p, 1) (arr + 1) (delC stops arr c1) (delF st does stops arr h L) K2 n2 I3 F2 J1 k2 X2 _ _ D2 _ _ ed (by omega) (by omega) (by rw [ek0]; exact hPk) (by rw [hX0]; exact C3) (hB2.up rfl rfl (fun t ht => ⟨va_up_n _ _ (q02 t ht), va_up_n _ _ (q02 t ht)⟩)) (hL2.up rfl rfl (fun t ht => ⟨va_up_n _ _ (q12 t ht), va_up_n _ _ (q12 t ht)⟩)) (va_up_s _ _ _) (by rw [va_up_s]) (by rw [hD2 8 (by decide) (by decide), hD1 8 (by decide)]; exact h8) (by rw [hD2 9 (by decide) (by decide), hD1 9 (by decide)]; exact h9) h132 h142 (delC_le hc16) (by omega) (by omega) (by rw [hl2]; split <;> omega) (by rw [hl2]; split <;> omega) (fun K4 n4 I4 F4 J4 k4 X4 R4 N4 D4 C4 hB4 hL4 hX4 hl4 ho4 hD4 h144 => w K4 n4 I4 F4 J4 k4 X4 R4 N4 D4 C4 hB4 hL4 (fun j hj => ⟨(hX4 j hj).1.trans (hX2 j hj).1, (hX4 j hj).2.trans (hX2 j hj).2⟩) (by rw [hl4, hl2]; omega) (fun j x hj hj1 hx => ?_) (fun j z1 z2 => by rw [hD4 j z1 z2, hD2 j z1 z2, hD1 j z2]) h144)
      have o2 := ho2 j x hj hj1 hx
      have o4 := ho4 j x hj hj1 (by rw [(hX2 j hj1).2]; exact hx)
      rw [va_up_n _ _ (qh j x hj hx), va_up_n _ _ (qh j x hj hx)] at o4
      exact ⟨o4.1.trans o2.1, o4.2.trans o2.2⟩
    refine cc_take C hok hB hpk hR (inp := (N (uhd U)).1) (num := h.2.1) (mo := h.2.2) (by rw [← hN]) h14 hc (fun hz => ?_) (fun hz I1 J1 C1 => ?_) (fun hz I1 J1 C1 => ?_)
    · exact other (by omega) c (by rw [if_neg (by omega)]) I J D C h14 (fun _ _ => rfl)
    · exact other (by omega) (max c 4) (by rw [if_pos hz]) I1 J1 _ C1 (va_up_s _ _ _) (fun j hj => va_up_n _ _ hj)
    · rw [if_pos hz] at hcb hsb w
      refine r_Su_sumAndDeliver_34 ⟨fun z => absurd z (by decide), fun _ => r_Su_sumAndDeliver_52 ?_⟩
      rw [nI_1]
      refine cc_sdL hok hP hd3 is (i + 1) (takF st h.1 (rc p).2, h.2.1, h.2.2 + 1) arr c L K n I1 F J1 k X _ _ D cb sb ed (by omega) (by omega) hPk C1 (hB.up rfl rfl (fun t ht => ⟨va_up_n _ _ (q0 t ht), va_up_n _ _ (q0 t ht)⟩)) (hL.up rfl rfl (fun t ht => ⟨va_up_n _ _ (q1 t ht), va_up_n _ _ (q1 t ht)⟩)) (va_up_s _ _ _) (by rw [va_up_s]) h8 h9 h13 h14 hc (by omega) hLa hcb hsb (fun K4 n4 I4 F4 J4 k4 X4 R4 N4 D4 C4 hB4 hL4 hX4 hl4 ho4 hD4 h144 => w K4 n4 I4 F4 J4 k4 X4 R4 N4 D4 C4 hB4 hL4 hX4 hl4 (fun j x hj hj1 hx => ?_) hD4 h144)
      have o4 := ho4 j x hj hj1 hx
      rw [va_up_n _ _ (qh j x hj hx), va_up_n _ _ (qh j x hj hx)] at o4
      exact o4
end
section
variable {E : zE} {U : zU} {K n : Nat → Nat} {I : Nat → Nat → Int32} {F : Nat → Nat → Option Nat} {J : Nat → Nat → Int64} {cb sb : Nat} {Q : zO → zH → Prop} {k : Nat → Nat} {X : Nat → List Nat} {R : Nat → List Nat} {N : Nat → Nat × Nat × Nat} {st : zStm} {pu pp : List Nat} {cu cp : Nat} {D Sg : Nat → Int32} {rc : zRec}
theorem cc_clearW {i : Nat} (h : CC E U K n I F J k X R N st pu cu pp cp D Sg) (hi : i < 4) (w : ∀ I', CC E U K n I' F J (va_up k i 0) X R N st pu cu pp cp D Sg → Q (.inl none) (K, n, I', F, J)) : AW E m_Rows_clear (K, n, I, F, J) cb sb Q 0 [some (.ref (uw U i))] [] := by
  have := h.clr hi (Nat.zero_le (X i).length)
  rw [nI_0] at this
  exact r_Rows_clear_0 ⟨(h.w hi).2.1, w _ this⟩
/-- sumAndDeliver() -/
theorem cc_sad {P : List Nat} {does : Nat} {stops : Bool} (hok : okS st) (hP : P.length ≤ 150) (hd3 : does < 3) (hPk : ∀ j ∈ P, j < k 0) (C : CC E U K n I F J k X R N st pu cu (xm X P) cp D Sg) (hB : RB k X R N rc) (hL : LD k X R N []) (h8 : D 8 = nI does) (h9 : D 9 = zB stops) (h13 : D 13 = nI 0) (h14 : D 14 = nI 0)
    (hcb : 3 * ((delivF st rc does stops P).1.length - (X 1).length) ≤ cb) (hsb : 405 * ((delivF st rc does stops P).1.length - (X 1).length) ≤ sb)
    (w : ∀ K' n' I' F' J' k' X' R' N' D', CC E U K' n' I' F' J' k' X' R' N' st pu cu (xm X' P) cp D' Sg → RB k' X' R' N' rc → LD k' X' R' N' (delivF st rc does stops P).1 → (∀ j, j ≠ 1 → k' j = k j ∧ X' j = X j) → (X' 1).length = max (X 1).length (delivF st rc does stops P).1.length → (∀ j x, j < 4 → j ≠ 1 → x ∈ X j → R' x = R x ∧ N' x = N x) → (∀ j, j ≠ 13 → j ≠ 14 → D' j = D j) → D' 14 = nI (delivF st rc does stops P).2 → Q (.inl none) (K', n', I', F', J')) :
    AW E m_Su_sumAndDeliver (K, n, I, F, J) cb sb Q 0 [some (.ref (uo U)), none, none] [] := by
  obtain ⟨l1, l2, l3, l4⟩ := C.l5
  have hlen := xm_len X P
  have hk0 := (C.w (i := 0) (by decide)).2.2.2.1
  have hk1 := (C.w (i := 1) (by decide)).2.2.2.1
  refine r_Su_sumAndDeliver_0 ?_
  cases P with
  | nil =>
    have e : (xm X []).length = 0 := rfl
    refine r_Su_sumAndDeliver_2 ⟨C.ro, _, l1, l2.1, c_size l2.1 l2.2.1 (r_Su_sumAndDeliver_10 (br_t (by rw [e]; decide) ⟨C.ro, _, l1, l2.1, c_isEmpty l2.1 l2.2.1 (by omega) ?_⟩))⟩
    rw [if_pos e]
    refine r_Su_sumAndDeliver_65 ⟨fun _ => r_Su_sumAndDeliver_72 ?_, fun z => absurd z (by decide)⟩
    exact w K n I F J k X R N D C hB hL (fun j _ => ⟨rfl, rfl⟩) (by show (X 1).length = max (X 1).length 0; omega) (fun _ _ _ _ _ => ⟨rfl, rfl⟩) (fun _ _ _ => rfl) h14
  | cons p is =>
    have hpk : p < k 0 := hPk p (by simp)
    have el : 0 < (p :: is).length := by simp
    refine r_Su_sumAndDeliver_2 ⟨C.ro, _, l1, l2.1, c_size l2.1 l2.2.1 (r_Su_sumAndDeliver_10 (br_f ?_ ⟨C.ro, _, l1, l2.1, c_get (i := 0) l2 (by omega) ?_⟩))⟩
    · exact nI_nle (by omega) (by omega)
    rw [xm_at el]
    show AW E m_Su_sumAndDeliver (K, n, I, F, J) cb sb Q 21 [some (.ref (uo U)), some (.int (0 : Int32)), none] [.ref ((X 0).getD p 0)]
    have vp := C.rV (C.rx (i := 0) (by decide) hpk)
    have vh := C.rV rws.hd
    rw [(hB p hpk).1, (hB p hpk).2] at vp
    have q0 : ∀ t, t < k 0 → (X 0).getD t 0 ≠ uhd U := fun t ht => C.nh (i := 0) (by decide) (by omega)
    have q1 : ∀ t, t < k 1 → (X 1).getD t 0 ≠ uhd U := fun t ht => C.nh (i := 1) (by decide) (by omega)
    refine r_Su_sumAndDeliver_21 ⟨vp.1.1, br_t (by decide) ?_⟩
    refine r_Su_sumAndDeliver_44 ⟨C.ro, _, C.hd, vh.1.1, c_become vh.1 vp.1 (fun z => q0 p hpk z.symm) C.G (fun I3 g3 i2 i3 i4 hr3 => r_Su_sumAndDeliver_52 ?_)⟩
    have C3 := C.row rws.hd (g3.mono (fun _ _ z => z)) (t := ((N (uhd U)).1, p, 1)) ⟨hr3, by rw [i2]; exact vh.2.1, by rw [i3]; exact vp.2.2.1, by rw [i4]; exact vp.2.2.2⟩
    have e01 : (0 : Int32) + 1 = nI 1 := rfl
    rw [e01]
    refine cc_sdL hok hP hd3 is 1 ((rc p).2, p, 1) 0 0 [] K n I3 F J k X _ _ D cb sb rfl (by omega) (by omega) hPk C3 (hB.up rfl rfl (fun t ht => ⟨va_up_n _ _ (q0 t ht), va_up_n _ _ (q0 t ht)⟩)) (hL.up rfl rfl (fun t ht => ⟨va_up_n _ _ (q1 t ht), va_up_n _ _ (q1 t ht)⟩)) (va_up_s _ _ _) (by rw [va_up_s]) h8 h9 h13 h14 (by omega) (by omega) (by simp) hcb hsb (fun K4 n4 I4 F4 J4 k4 X4 R4 N4 D4 C4 hB4 hL4 hX4 hl4 ho4 hD4 h144 => w K4 n4 I4 F4 J4 k4 X4 R4 N4 D4 C4 hB4 hL4 hX4 hl4 (fun j x hj hj1 hx => ?_) hD4 h144)
    have hxh : x ≠ uhd U := fun z => by
      obtain ⟨cap, fo, c1, -⟩ := C
      rw [z] at hx
      exact c1.2.2.2.2.2.2.2.2.2.2.2.2.2 j hj hx
    have o4 := ho4 j x hj hj1 hx
    rw [va_up_n _ _ hxh, va_up_n _ _ hxh] at o4
    exact o4
/-- run() -/
theorem cc_run {does : Nat} {stops : Bool} (hok : okS st) (hd3 : does < 3) (C : CC E U K n I F J k X R N st pu cu pp cp D Sg) (hB : RB k X R N rc) (hr3 : ∀ t, t < k 0 → (rc t).1 < 3) (h8 : D 8 = nI does) (h9 : D 9 = zB stops)
    (hcb : 3 * ((runF st rc (k 0) does stops).1.length - (X 1).length) + 3 * ((runF st rc (k 0) does stops).2.1.length - (X 2).length) + ((pickF st rc (k 0) 0 0 [] []).1.length - cp) ≤ cb) (hsb : 405 * ((runF st rc (k 0) does stops).1.length - (X 1).length) + 405 * ((runF st rc (k 0) does stops).2.1.length - (X 2).length) + 300 * ((pickF st rc (k 0) 0 0 [] []).1.length - cp) ≤ sb)
    (w : ∀ K' n' I' F' J' k' X' R' N' pp' cp' D', CC E U K' n' I' F' J' k' X' R' N' st pu cu pp' cp' D' Sg → RB k' X' R' N' rc → LD k' X' R' N' (runF st rc (k 0) does stops).1 → cB k' X' R' 2 (runF st rc (k 0) does stops).2.1 → (∀ j, j ≠ 1 → j ≠ 2 → k' j = k j ∧ X' j = X j) → (X' 1).length = max (X 1).length (runF st rc (k 0) does stops).1.length → (X' 2).length = max (X 2).length (runF st rc (k 0) does stops).2.1.length → cp ≤ cp' → (pickF st rc (k 0) 0 0 [] []).1.length ≤ cp' → (∀ x, x ∈ X 3 → R' x = R x) → (∀ x, x ∈ X 0 → N' x = N x) → (∀ j, j ≠ 13 → j ≠ 14 → D' j = D j) → D' 14 = nI (runF st rc (k 0) does stops).2.2 → Q (.inl (some (.int (nI (runF st rc (k 0) does stops).1.length)))) (K', n', I', F', J')) :
    AW E m_Su_run (K, n, I, F, J) cb sb Q 0 [some (.ref (uo U))] [] := by
  unfold runF at hcb hsb w
  dsimp only at hcb hsb w
  obtain ⟨a1, a2, -⟩ := C.w (i := 1) (by decide)
  refine r_Su_run_0 ⟨C.ro, _, a1, a2, cc_clearW C (by decide) (fun I1 C1 => ?_)⟩
  obtain ⟨b1, b2, -⟩ := C1.w (i := 2) (by decide)
  refine r_Su_run_7 ⟨C1.ro, _, b1, b2, cc_clearW C1 (by decide) (fun I2 C2 => ?_)⟩
  obtain ⟨l1, l2, l3, l4⟩ := C2.l5
  refine r_Su_run_14 ⟨C2.ro, _, l1, l2.1, aw_c0 (fun hc0 => c_clear l2 C2.G (fun I3 F3 g3 hG3 hL3 => ?_))⟩
  have C3 := C2.lst5 hc0 g3 hG3 hL3 l3 (fun a ha => by cases ha)
  have C4 := C3.oI (I' := zup (zup I3 (uo U) 13 (0 : Int32)) (uo U) 14 (0 : Int32)) (fun a ha => by rw [zup_n _ _ _ ha, zup_n _ _ _ ha])
  rw [zup_row, zup_row, C3.oD] at C4
  have hB0 : RB (va_up (va_up k 1 0) 2 0) X R N rc := hB.up (by rw [va_up_n _ _ (by decide), va_up_n _ _ (by decide)]) rfl (fun _ _ => ⟨rfl, rfl⟩)
  have ek0 : (va_up (va_up k 1 0) 2 0) 0 = k 0 := by rw [va_up_n _ _ (by decide), va_up_n _ _ (by decide)]
  have hk150 := C.k31 (i := 0) (by decide)
  have hge := pickF_ge st rc (k 0) 0 0 [] []
  have hpo := pickF_ok st rc (k 0) 0 0 [] [] (by simp) (fun i j _ h => by simp at h)
  generalize hpf : pickF st rc (k 0) 0 0 [] [] = PG at *
  obtain ⟨P, G⟩ := PG
  dsimp only at hcb hsb w hge hpo
  refine r_Su_run_21 ⟨C3.ro, 3 * (G.length - (X 2).length) + (P.length - cp), 405 * (G.length - (X 2).length) + 300 * (P.length - cp), 3 * ((delivF st rc does stops P).1.length - (X 1).length), 405 * ((delivF st rc does stops P).1.length - (X 1).length), by omega, by omega, r_Su_pickRecords_0 ?_⟩
  refine cc_pickL (rc := rc) (k 0) 0 0 [] [] K n _ F3 _ X R N cp _ _ C4 hB0 ⟨by rw [va_up_s]; rfl, fun t ht => by rw [va_up_s] at ht; omega⟩ (by simp) (fun i j _ h => by simp at h) (by simp) (by omega) (by rw [ek0]; omega) (by rw [ek0]; exact hr3) ?_ ?_ (fun K5 n5 I5 F5 k5 X5 R5 N5 cp5 C5 hB5 hf5 hX5 hl5 hcp5 ho5 => ?_)
  · rw [hpf]; exact Nat.le_refl _
  · rw [hpf]; exact Nat.le_refl _
  rw [hpf] at C5 hf5 hl5
  dsimp only at C5 hf5 hl5
  have e51 : k5 1 = 0 := by rw [(hX5 1 (by decide)).1, va_up_n _ _ (by decide), va_up_s]
  have e50 : k5 0 = k 0 := by rw [(hX5 0 (by decide)).1, ek0]
  have ex1 := (hX5 1 (by decide)).2
  refine r_Su_run_35 ⟨C5.ro, _, _, 0, 0, Nat.le_refl _, Nat.le_refl _, ?_⟩
  have D13 : va_up (va_up D 13 (0 : Int32)) 14 (0 : Int32) 13 = nI 0 := by rw [va_up_n _ _ (by decide), va_up_s]; rfl
  refine cc_sad (P := P) (does := does) (stops := stops) hok (by simp at hge; omega) hd3 (fun j hj => by rw [e50]; have := hpo.1 j hj; omega) C5 hB5 ⟨by rw [e51]; rfl, fun t ht => by omega⟩ (by rw [va_up_n _ _ (by decide), va_up_n _ _ (by decide)]; exact h8) (by rw [va_up_n _ _ (by decide), va_up_n _ _ (by decide)]; exact h9) D13 (by rw [va_up_s]; rfl) (by rw [ex1]; exact Nat.le_refl _) (by rw [ex1]; exact Nat.le_refl _) (fun K6 n6 I6 F6 J6 k6 X6 R6 N6 D6 C6 hB6 hL6 hX6 hl6 ho6 hD6 h146 => ?_)
  obtain ⟨y1, y2, y3, -⟩ := C6.w (i := 1) (by decide)
  refine r_Su_run_39 ⟨C6.ro, _, y1, y2, ?_⟩
  rw [y3, ← hL6.1]
  have hcp6 := C6.l5.2.1.2.2.1
  rw [xm_len] at hcp6
  have hX62 := hX6 2 (by decide)
  refine w K6 n6 I6 F6 J6 k6 X6 R6 N6 _ cp5 D6 C6 hB6 hL6 (hf5.up hX62.1 (fun t _ => by rw [hX62.2]) (fun t ht => ?_)) (fun j h1 h2 => ⟨by rw [(hX6 j h1).1, (hX5 j h2).1, va_up_n _ _ h2, va_up_n _ _ h1], by rw [(hX6 j h1).2, (hX5 j h2).2]⟩) (by rw [hl6, ex1]) (by rw [hX62.2, hl5]) hcp5 hcp6 (fun x hx => ?_) (fun x hx => ?_) (fun j h1 h2 => by rw [hD6 j h1 h2, va_up_n _ _ h2, va_up_n _ _ h1]) h146
  · have := (C5.w (i := 2) (by decide)).2.2.2.1
    exact (ho6 2 _ (by decide) (by decide) (zgetD_mem (by omega))).1
  · have q5 := ho5 3 x (by decide) (by decide) hx
    have q6 := ho6 3 x (by decide) (by decide) (by rw [(hX5 3 (by decide)).2]; exact hx)
    exact q6.1.trans q5.1
  · have q5 := ho5 0 x (by decide) (by decide) hx
    have q6 := ho6 0 x (by decide) (by decide) (by rw [(hX5 0 (by decide)).2]; exact hx)
    exact q6.2.trans q5.2
end
