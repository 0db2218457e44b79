-- ===== the class's calls on what it holds =====
section
variable {E : zE} {Uo : zUo} {K n : Nat → Nat} {I : Nat → Nat → Int32} {F : Nat → Nat → Option Nat} {J : Nat → Nat → Int64} {Q : zO → zH → Prop} {x : zTx} {L : Nat} {st : zStm} {rc : zRec} {M : Nat} {Ld : List zHel} {rf jn : List (List Nat)} {u : List Nat} {does : Nat} {stops : Bool} {code pc ps : Nat}
theorem CC.ct {K' n' : Nat → Nat} {I' : Nat → Nat → Int32} {F' : Nat → Nat → Option Nat} {J' : Nat → Nat → Int64} {k : Nat → Nat} {X R : Nat → List Nat} {N : Nat → Nat × Nat × Nat} {pu pp : List Nat} {cu cp : Nat} {D Sg : Nat → Int32} (h : CC E ((K, n, I, F, J), Uo) K' n' I' F' J' k X R N st pu cu pp cp D Sg) : CT Uo K n I F J (K', n', I', F', J') := h.gr
theorem cs_sign {v : Int32} (h : CS E Uo K n I F J x L st rc M Ld rf jn u does stops code pc ps) (hL5 : L ≤ 500) (w1 : L = 500 → Q (.inl none) (K, n, I, F, J))
    (w2 : L < 500 → ∀ K' n' I' F' J', CS E Uo K' n' I' F' J' (va_up x L (sgU v)) (L + 1) st rc M Ld rf jn u does stops code pc ps → CT Uo K n I F J (K', n', I', F', J') → Q (.inl none) (K', n', I', F', J')) :
    AW E m_Su_sign (K, n, I, F, J) 0 0 Q 0 [some (.ref Uo.1), some (.int v)] [] := by
  obtain ⟨k, X, R, N, pu, cu, pp, cp, D, Sg, C, ⟨a1, a2⟩, b, c, d, e, f⟩ := h
  refine cc_sign C a1 hL5 w1 (fun hl I' C' => w2 hl _ _ _ _ _ ⟨k, X, R, N, pu, cu, pp, cp, _, _, C'.re, ⟨va_up_s _ _ _, fun i hi => ?_⟩, b, c, d, ?_, f⟩ C'.ct)
  · by_cases z : i = L
    · rw [z, va_up_s, va_up_s]; exact (sgU_ok v).1
    · rw [va_up_n _ _ z, va_up_n _ _ z]; exact a2 i (by omega)
  · rw [va_up_n _ _ (by decide), va_up_n _ _ (by decide), va_up_n _ _ (by decide)]; exact e
theorem cs_read {cb sb : Nat} (h : CS E Uo K n I F J x L st rc M Ld rf jn u does stops code pc ps) (hL5 : L ≤ 500) (hcb : 6 + 140 * L ≤ cb) (hsb : 25 + 1400 * L ≤ sb)
    (w1 : ∀ s q, readP x L = (some s, q) → ∀ K' n' I' F' J', CS E Uo K' n' I' F' J' x 0 s rc M Ld rf jn u does stops code pc ps → CT Uo K n I F J (K', n', I', F', J') → Q (.inl (some (.int (nI s.2.2.2.2.2.2.2)))) (K', n', I', F', J'))
    (w2 : ∀ q, readP x L = (none, q) → ∀ K' n' I' F' J', CS E Uo K' n' I' F' J' x 0 st rc M Ld rf jn u does stops code pc ps → CT Uo K n I F J (K', n', I', F', J') → Q (.inl (some (.int (((-1) : Int32) - nI q)))) (K', n', I', F', J')) :
    AW E m_Su_read (K, n, I, F, J) cb sb Q 0 [some (.ref Uo.1), none, none] [] := by
  obtain ⟨k, X, R, N, pu, cu, pp, cp, D, Sg, C, ⟨a1, a2⟩, b, c, d, e, f⟩ := h
  have e' : va_up D 1 0 8 = nI does ∧ va_up D 1 0 9 = zB stops ∧ va_up D 1 0 14 = nI code := by
    rw [va_up_n _ _ (by decide), va_up_n _ _ (by decide), va_up_n _ _ (by decide)]; exact e
  refine cc_read C a1 hL5 a2 hcb hsb (fun s q K' n' I' F' er C' => w1 s q er _ _ _ _ _ ⟨k, X, R, N, pu, cu, pp, cp, _, _, C'.re, ⟨va_up_s _ _ _, fun i hi => absurd hi (Nat.not_lt_zero _)⟩, b, c, d, e', f⟩ C'.ct) (fun q K' n' I' F' er C' => w2 q er _ _ _ _ _ ⟨k, X, R, N, pu, cu, pp, cp, _, _, C'.re, ⟨va_up_s _ _ _, fun i hi => absurd hi (Nat.not_lt_zero _)⟩, b, c, d, e', f⟩ C'.ct)
theorem cs_exit {v : Int32} {b : Bool} (h : CS E Uo K n I F J x L st rc M Ld rf jn u does stops code pc ps) (w1 : ¬ inR v 3 → Q (.inl (some (.int (-1)))) (K, n, I, F, J))
    (w2 : inR v 3 → ∀ K' n' I' F' J', CS E Uo K' n' I' F' J' x L st rc M Ld rf jn u (xN v) b code pc ps → CT Uo K n I F J (K', n', I', F', J') → Q (.inl (some (.int (nI does)))) (K', n', I', F', J')) :
    AW E m_Su_exit (K, n, I, F, J) 0 0 Q 0 [some (.ref Uo.1), some (.int v), some (.int (zB b)), none] [] := by
  obtain ⟨k, X, R, N, pu, cu, pp, cp, D, Sg, C, ⟨a1, a2⟩, bb, c, d, e, f⟩ := h
  refine cc_exit C (by cases b; exact Or.inl rfl; exact Or.inr rfl) w1 (fun hv I' C' => ?_)
  rw [e.1]
  refine w2 hv _ _ _ _ _ ⟨k, X, R, N, pu, cu, pp, cp, _, _, C'.re, ⟨?_, a2⟩, bb, c, d, ⟨?_, ?_, ?_⟩, f⟩ C'.ct
  · rw [va_up_n _ _ (by decide), va_up_n _ _ (by decide)]; exact a1
  · rw [va_up_n _ _ (by decide), va_up_s]
    obtain ⟨j, -, j2, j3⟩ := inR_e (by decide) hv
    rw [j3]; exact j2
  · rw [va_up_s]
  · rw [va_up_n _ _ (by decide), va_up_n _ _ (by decide)]; exact e.2.2
theorem xm_congr {X X' : Nat → List Nat} {u : List Nat} (h : ∀ j ∈ u, (X' 0).getD j 0 = (X 0).getD j 0) : xm X' u = xm X u := by
  unfold xm
  exact List.map_congr_left h
theorem cs_record {v : Int32} (h : CS E Uo K n I F J x L st rc M Ld rf jn u does stops code pc ps) : ∃ d e, d ≤ pc ∧ e ≤ ps ∧ (¬ (inR v 3 ∧ M < 150) → d = 0 ∧ e = 0) ∧ ∀ Q : zO → zH → Prop, (¬ (inR v 3 ∧ M < 150) → Q (.inl (some (.int (-1)))) (K, n, I, F, J)) →
    (inR v 3 → M < 150 → ∀ K' n' I' F' J', CS E Uo K' n' I' F' J' x L st (va_up rc M (xN v, [])) (M + 1) Ld rf jn u does stops code (pc - d) (ps - e) → CT Uo K n I F J (K', n', I', F', J') → Q (.inl (some (.int (nI M)))) (K', n', I', F', J')) →
    AW E m_Su_record (K, n, I, F, J) d e Q 0 [some (.ref Uo.1), some (.int v), none, none] [] := by
  obtain ⟨k, X, R, N, pu, cu, pp, cp, D, Sg, C, a, ⟨b1, b2, b3⟩, ⟨c1, c2, c3⟩, ⟨d1, d2⟩, e, f1, f2⟩ := h
  unfold pot at f1
  unfold potS at f2
  by_cases hVM : inR v 3 ∧ M < 150
  · have hM := hVM.2
    refine ⟨3, 405, by omega, by omega, fun z => absurd hVM z, fun Q w1 w2 => ?_⟩
    subst b1
    refine cc_record C b2 (fun _ _ => ⟨Nat.le_refl _, Nat.le_refl _⟩) w1 (fun hv _ K' n' I' F' X' N' a' C' n1 n2 x1 x2 x3 x4 => w2 hv hM _ _ _ _ _ ⟨_, X', _, N', pu, cu, pp, cp, D, Sg, C'.re, a, ⟨va_up_s _ _ _, x4, fun t ht => ?_⟩, ⟨c1.fr (va_up_n _ _ (by decide)) (fun t ht => ?_), c2.fr (va_up_n _ _ (by decide)) (fun t ht => ?_), c3.fr (va_up_n _ _ (by decide)) (fun t ht => ?_)⟩, ⟨?_, fun j hj => ?_⟩, e, ?_, ?_⟩ C'.ct)
    · rw [va_up_s] at ht
      by_cases z : t = k 0
      · rw [z, x2, va_up_s, va_up_s, n2]; exact ⟨rfl, rfl⟩
      · have hne : (X 0).getD t 0 ≠ a' := fun q => z (C'.ne (i := 0) (j := 0) (by decide) (by decide) (t := t) (t' := k 0) (by omega) (by omega) (by rw [x2, x3 t (by omega)]; exact q)).2
        rw [x3 t (by omega), va_up_n _ _ hne, n1 _ hne, va_up_n _ _ z]
        exact b3 t (by omega)
    · have hl := (C.w (i := 1) (by decide)).2.2.2.1
      have hne : (X 1).getD t 0 ≠ a' := fun q => absurd (C'.ne (i := 1) (j := 0) (by decide) (by decide) (t := t) (t' := k 0) (by rw [x1 1 (by decide)]; omega) (by omega) (by rw [x2, x1 1 (by decide)]; exact q)).1 (by decide)
      rw [x1 1 (by decide), va_up_n _ _ hne, n1 _ hne]; exact ⟨rfl, rfl⟩
    · have hl := (C.w (i := 2) (by decide)).2.2.2.1
      have hne : (X 2).getD t 0 ≠ a' := fun q => absurd (C'.ne (i := 2) (j := 0) (by decide) (by decide) (t := t) (t' := k 0) (by rw [x1 2 (by decide)]; omega) (by omega) (by rw [x2, x1 2 (by decide)]; exact q)).1 (by decide)
      rw [x1 2 (by decide), va_up_n _ _ hne]
    · have hl := (C.w (i := 3) (by decide)).2.2.2.1
      have hne : (X 3).getD t 0 ≠ a' := fun q => absurd (C'.ne (i := 3) (j := 0) (by decide) (by decide) (t := t) (t' := k 0) (by rw [x1 3 (by decide)]; omega) (by omega) (by rw [x2, x1 3 (by decide)]; exact q)).1 (by decide)
      rw [x1 3 (by decide), va_up_n _ _ hne]
    · rw [d1]; exact (xm_congr (fun j hj => x3 j (d2 j hj))).symm
    · have := d2 j hj; omega
    · unfold pot; rw [x4, x1 1 (by decide), x1 2 (by decide), x1 3 (by decide)]; omega
    · unfold potS; rw [x4, x1 1 (by decide), x1 2 (by decide), x1 3 (by decide)]; omega
  · refine ⟨0, 0, by omega, by omega, fun _ => ⟨rfl, rfl⟩, fun Q w1 w2 => ?_⟩
    subst b1
    exact cc_record C b2 (fun y z => absurd ⟨y, z⟩ hVM) w1 (fun y z => absurd ⟨y, z⟩ hVM)
theorem cs_octet {v y z : Int32} (h : CS E Uo K n I F J x L st rc M Ld rf jn u does stops code pc ps) (w1 : ¬ (inR v M ∧ inR y 100) → Q (.inr "java/lang/ArrayIndexOutOfBoundsException") (K, n, I, F, J))
    (w2 : inR v M → inR y 100 → ∀ K' n' I' F' J', CS E Uo K' n' I' F' J' x L st (va_up rc (xN v) ((rc (xN v)).1, zput (rc (xN v)).2 (xN y) (z.toBitVec.toNat % 256))) M Ld rf jn u does stops code pc ps → CT Uo K n I F J (K', n', I', F', J') → Q (.inl none) (K', n', I', F', J')) :
    AW E m_Su_octet (K, n, I, F, J) 1 6 Q 0 [some (.ref Uo.1), some (.int v), some (.int y), some (.int z), none] [] := by
  obtain ⟨k, X, R, N, pu, cu, pp, cp, D, Sg, C, a, ⟨b1, b2, b3⟩, ⟨c1, c2, c3⟩, d, e, f⟩ := h
  subst b1
  refine cc_octet C (by decide) (by decide) w1 (fun hv hy I' a' ha C' => ?_)
  obtain ⟨t0, t1, t2, t3⟩ := inR_e (by have := C.k31 (i := 0) (by decide); omega) hv
  rw [t3] at ha
  have hR : R a' = (rc t0).2 := by rw [ha]; exact (b3 t0 t1).1
  refine w2 hv hy _ _ _ _ _ ⟨k, X, _, N, pu, cu, pp, cp, D, Sg, C'.re, a, ⟨rfl, b2, fun t ht => ?_⟩, ⟨c1.fr rfl (fun t ht => ?_), c2.fr rfl (fun t ht => ?_), c3.fr rfl (fun t ht => ?_)⟩, d, e, f⟩ C'.ct
  · rw [t3]
    by_cases q : t = t0
    · rw [q, ← ha, va_up_s, va_up_s, hR]
      refine ⟨rfl, ?_⟩
      rw [ha]; exact (b3 t0 t1).2
    · have hne : (X 0).getD t 0 ≠ a' := fun y => q (C.ne (i := 0) (j := 0) (by decide) (by decide) (t := t) (t' := t0) (by omega) (by omega) (by rw [y, ha])).2
      rw [va_up_n _ _ hne, va_up_n _ _ q]; exact b3 t ht
  · have hl := (C.w (i := 1) (by decide)).2.2.2.1
    rw [va_up_n _ _ (fun y => absurd (C.ne (i := 1) (j := 0) (by decide) (by decide) (t := t) (t' := t0) (by omega) (by omega) (by rw [y, ha])).1 (by decide))]; exact ⟨rfl, rfl⟩
  · have hl := (C.w (i := 2) (by decide)).2.2.2.1
    rw [va_up_n _ _ (fun y => absurd (C.ne (i := 2) (j := 0) (by decide) (by decide) (t := t) (t' := t0) (by omega) (by omega) (by rw [y, ha])).1 (by decide))]
  · have hl := (C.w (i := 3) (by decide)).2.2.2.1
    rw [va_up_n _ _ (fun y => absurd (C.ne (i := 3) (j := 0) (by decide) (by decide) (t := t) (t' := t0) (by omega) (by omega) (by rw [y, ha])).1 (by decide))]
end
