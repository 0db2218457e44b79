section
variable {E : zE} {Uo : zUo} {m : Nat} {A : Nat → Nat} {Q : zO → zH → Prop} {a0 : Nat}
theorem len4 {len j : Nat} (hl : len ≤ 2048) (hj : j ≤ 4096) : (nI len - (4 : Int32)) < nI j ↔ len < j + 4 := by
  by_cases h : 4 ≤ len
  · have e : nI len - (4 : Int32) = nI (len - 4) := pk_sub (a := len) (b := 4) h
    rw [e]
    constructor
    · intro z
      apply Classical.byContradiction
      intro q
      rcases Nat.lt_or_ge j (len - 4) with y | y
      · have := nI_lt y (by omega)
        exact Int32.lt_irrefl (Int32.lt_trans z this)
      · have : j = len - 4 := by omega
        rw [this] at z; exact Int32.lt_irrefl z
    · intro z
      exact nI_lt (by omega) (by omega)
  · have e : nI len - nI 4 < 0 := nI_subneg (by omega) (by decide)
    refine ⟨fun _ => by omega, fun _ => ?_⟩
    show nI len - nI 4 < nI j
    rcases Nat.eq_zero_or_pos j with y | y
    · rw [y]; exact e
    · exact Int32.lt_trans e (nI_lt (a := 0) y (by omega))
theorem law_loop (hlen : E.2.1 15 ≤ 2048) (ha0 : a0 = E.2.1 14) (w : ∀ h, Q (.inl (some (.int 1))) h) : ∀ (d j : Nat) (K n : Nat → Nat) (I : Nat → Nat → Int32) (F : Nat → Nat → Option Nat) (J : Nat → Nat → Int64) (x : zTx) (L : Nat) (st : zStm) (rc : zRec) (M : Nat) (Ld : List zHel) (rf jn : List (List Nat)) (u : List Nat) (does : Nat) (stops : Bool) (code pc ps cb sb : Nat), E.2.1 15 < j + 4 * d + 4 → j ≤ 4096 → LW E Uo m A K n I F J x L st rc M Ld rf jn u does stops code pc ps → pc + 140 * L + 146 * d ≤ cb → ps + 1400 * L + 1425 * d ≤ sb → AW E m_Law_law (K, n, I, F, J) cb sb Q 18 [some (.ref a0), some (.ref Uo.1), some (.ref m), some (.int (nI j)), none] []
  | 0, j, K, n, I, F, J, x, L, st, rc, M, Ld, rf, jn, u, does, stops, code, pc, ps, cb, sb, hd, hj2, h, hb, hs => r_Law_law_18 ⟨ha0, fun _ => w _, fun z => absurd ((len4 hlen hj2).mpr (by omega)) z⟩
  | d + 1, j, K, n, I, F, J, x, L, st, rc, M, Ld, rf, jn, u, does, stops, code, pc, ps, cb, sb, hd, hj2, h, hb, hs => by
    by_cases hj4 : E.2.1 15 < j + 4
    · exact r_Law_law_18 ⟨ha0, fun _ => w _, fun z => absurd ((len4 hlen hj2).mpr hj4) z⟩
    have hj4 : j + 4 ≤ E.2.1 15 := by omega
    have nx' : NX E Uo m A a0 j d Q := fun K n I F J x L st rc M Ld rf jn u does stops code pc ps cb sb hw hb hs => law_loop hlen ha0 w d (j + 4) K n I F J x L st rc M Ld rf jn u does stops code pc ps cb sb (by omega) (by omega) hw hb hs
    have h8 := h.1.o8
    have w1 : ∀ (Y : Nat → Prop), Y (j + 1) → ∃ i, nI j + (1 : Int32) = nI i ∧ i < E.2.1 15 ∧ i < 2147483648 ∧ Y i := fun Y y => ⟨j + 1, x31, by omega, by omega, y⟩
    have w2 : ∀ (Y : Nat → Prop), Y (j + 2) → ∃ i, nI j + (2 : Int32) = nI i ∧ i < E.2.1 15 ∧ i < 2147483648 ∧ Y i := fun Y y => ⟨j + 2, x32, by omega, by omega, y⟩
    have w3 : ∀ (Y : Nat → Prop), Y (j + 3) → ∃ i, nI j + (3 : Int32) = nI i ∧ i < E.2.1 15 ∧ i < 2147483648 ∧ Y i := fun Y y => ⟨j + 3, x33, by omega, by omega, y⟩
    refine r_Law_law_18 ⟨ha0, fun _ => w _, fun _ => ⟨ha0, j, rfl, by omega, by omega, ?_⟩⟩
    refine ⟨fun _ => ⟨ha0, w1 _ ⟨h8, lw_0 rfl h nx' ha0 hj4 hj2 hb hs⟩⟩, fun _ => ⟨h8, lw_1 h nx' ha0 hj4 hj2 hb hs⟩, fun _ => ⟨ha0, w1 _ ⟨h8, lw_2 rfl h nx' ha0 hj4 hj2 hb hs⟩⟩, fun _ => ⟨ha0, w1 _ ⟨ha0, w2 _ ⟨ha0, w3 _ (lw_3 h nx' ha0 hj4 hj2 hb hs)⟩⟩⟩, fun _ => ⟨h8, lw_4 h nx' ha0 hj4 hj2 hb hs⟩, fun _ => ⟨ha0, w1 _ ⟨ha0, w2 _ ⟨ha0, w3 _ ⟨h8, lw_5 h nx' ha0 hj4 hj2 hb hs⟩⟩⟩⟩, fun _ => ⟨ha0, w1 _ ⟨ha0, w2 _ ⟨h8, lw_6 h nx' ha0 hj4 hj2 hb hs⟩⟩⟩, fun _ => ⟨ha0, w1 _ ⟨ha0, w2 _ ⟨h8, lw_7 h nx' ha0 hj4 hj2 hb hs⟩⟩⟩, fun _ => ⟨ha0, w1 _ ⟨h8, lw_8 h nx' ha0 hj4 hj2 hb hs⟩⟩, fun _ => ⟨h8, lw_9 h nx' ha0 hj4 hj2 hb hs⟩, fun _ => ⟨ha0, w1 _ ⟨ha0, w2 _ ⟨fun z => ⟨h8, ?_⟩, fun z => ⟨h8, ?_⟩⟩⟩⟩, fun _ => ⟨ha0, w1 _ ⟨ha0, w2 _ ⟨h8, lw_11 h nx' ha0 hj4 hj2 hb hs⟩⟩⟩, fun _ => ⟨ha0, w1 _ ⟨h8, lw_12 h nx' ha0 hj4 hj2 hb hs⟩⟩, fun _ => ⟨ha0, w1 _ ⟨h8, lw_13 h nx' ha0 hj4 hj2 hb hs⟩⟩, fun _ _ _ _ _ _ _ _ _ _ _ _ _ _ => ?_⟩
    · exact lw_10 (b := false) (fun X Y p q => ⟨fun y => p y rfl, fun y => absurd z y⟩) h nx' ha0 hj4 hj2 hb hs
    · exact lw_10 (b := true) (fun X Y p q => ⟨fun y => absurd y z, fun y => q y rfl⟩) h nx' ha0 hj4 hj2 hb hs
    · rw [x34]; exact nx' _ _ _ _ _ _ _ _ _ _ _ _ _ _ _ _ _ _ _ _ _ h (by omega) (by omega)
end
