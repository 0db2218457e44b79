-- ===== the reference: tests of records, outputs =====
section
variable {E : zE} {B : (Nat → Nat → Int32) × (Nat → Nat → Int64)} {K n : Nat → Nat} {I : Nat → Nat → Int32} {F : Nat → Nat → Option Nat} {J : Nat → Nat → Int64} {m : Nat} {A : Nat → Nat} {V : Nat → Nat → Int32} {T : Nat → Int64} {cb sb : Nat} {Q : zO → zH → Prop}
theorem mo_hEnd {c rel : Nat} {D : Int} (h : MS B K n I F J m A V T) (hc : c < 10) (hrel : V 8 (6 * c + 3) = nI rel) (hr : rel < 128)
    (w : Q (.inl (some (.int (zB (if rel = 61 then decide (D = 0) else if rel = 35 then decide (D ≠ 0) else if rel = 60 then decide (D < 0) else decide (0 < D)))))) (K, n, I, F, J)) :
    K m = 9 ∧ (∃ b3 : Nat, F m 8 = some b3 ∧ K b3 = 21 ∧ (∃ j5 : Nat, (nI (6 * c) + (3 : Int32)) = nI j5 ∧ j5 < n b3 ∧ j5 < 2147483648 ∧ (((I b3 j5) = 35 → ((sgn D = 0 → Q (.inl (some (.int (0 : Int32)))) (K, n, I, F, J)) ∧ (¬ sgn D = 0 → Q (.inl (some (.int (1 : Int32)))) (K, n, I, F, J)))) ∧ ((I b3 j5) = 60 → ((0 ≤ sgn D → Q (.inl (some (.int (0 : Int32)))) (K, n, I, F, J)) ∧ (¬ 0 ≤ sgn D → Q (.inl (some (.int (1 : Int32)))) (K, n, I, F, J)))) ∧ ((I b3 j5) = 61 → ((¬ sgn D = 0 → Q (.inl (some (.int (0 : Int32)))) (K, n, I, F, J)) ∧ (sgn D = 0 → Q (.inl (some (.int (1 : Int32)))) (K, n, I, F, J)))) ∧ (¬ (I b3 j5) = 35 → ¬ (I b3 j5) = 60 → ¬ (I b3 j5) = 61 → ((sgn D ≤ 0 → Q (.inl (some (.int (0 : Int32)))) (K, n, I, F, J)) ∧ (¬ sgn D ≤ 0 → Q (.inl (some (.int (1 : Int32)))) (K, n, I, F, J))))))) := by
  refine ⟨h.K9, _, h.f (f := 8) (by decide), h.k (by decide), 6 * c + 3, nI_add (6 * c) 3, by rw [h.sz (by decide)]; show 6 * c + 3 < 120; omega, by omega, ?_⟩
  rw [h.a (by decide), hrel]
  have er : ∀ v : Nat, v < 128 → (nI rel = nI v ↔ rel = v) := fun v hv => nI_eq (by omega) (by omega)
  have s0 := sgn_0 D
  obtain ⟨-, s2⟩ := sgn_gt D
  have s1 : (0 : Int32) ≤ sgn D ↔ 0 ≤ D := by
    unfold sgn
    by_cases h : D = 0
    · rw [if_pos h]; exact ⟨fun _ => by omega, fun _ => by decide⟩
    · rw [if_neg h]
      by_cases h2 : D < 0
      · rw [if_pos h2]; exact ⟨fun q => absurd q (by decide), fun q => by omega⟩
      · rw [if_neg h2]; exact ⟨fun _ => by omega, fun _ => by decide⟩
  refine ⟨fun z => ?_, fun z => ?_, fun z => ?_, fun z1 z2 z3 => ?_⟩
  · have e : rel = 35 := (er 35 (by decide)).mp z
    rw [if_neg (by omega), if_pos e] at w
    refine ⟨fun y => ?_, fun y => ?_⟩
    · rw [decide_eq_false (by simp; exact s0.mp y)] at w; exact w
    · rw [decide_eq_true (show D ≠ 0 from fun q => y (s0.mpr q))] at w; exact w
  · have e : rel = 60 := (er 60 (by decide)).mp z
    rw [if_neg (by omega), if_neg (by omega), if_pos e] at w
    refine ⟨fun y => ?_, fun y => ?_⟩
    · have := s1.mp y
      rw [decide_eq_false (by omega)] at w; exact w
    · have : ¬ 0 ≤ D := fun q => y (s1.mpr q)
      rw [decide_eq_true (by omega)] at w; exact w
  · have e : rel = 61 := (er 61 (by decide)).mp z
    rw [if_pos e] at w
    refine ⟨fun y => ?_, fun y => ?_⟩
    · rw [decide_eq_false (fun q => y (s0.mpr q))] at w; exact w
    · rw [decide_eq_true (s0.mp y)] at w; exact w
  · have e1 : rel ≠ 35 := fun q => z1 (by rw [q]; rfl)
    have e2 : rel ≠ 60 := fun q => z2 (by rw [q]; rfl)
    have e3 : rel ≠ 61 := fun q => z3 (by rw [q]; rfl)
    rw [if_neg e3, if_neg e1, if_neg e2] at w
    refine ⟨fun y => ?_, fun y => ?_⟩
    · have := s2.mp y
      rw [decide_eq_false (by omega)] at w; exact w
    · have : ¬ D ≤ 0 := fun q => y (s2.mpr q)
      rw [decide_eq_true (by omega)] at w; exact w
theorem rR_len {f k lb : Nat} {g : zPart} (h : rR V f k lb g) : V f (k + 1) = nI g.2.2 ∧ g.2.2 ≤ 100 := by
  obtain ⟨g1, g2, g3⟩ := g
  unfold rR at h
  cases g1 with
  | none => exact ⟨h.2.1, by have := h.2.2; dsimp only at this ⊢; omega⟩
  | some t =>
    dsimp only at h ⊢
    obtain ⟨a1, a2, a3, a4, a5, a7, a6⟩ := h
    exact ⟨by rw [a4]; exact a2, by omega⟩
theorem mo_holdsL {c i : Nat} {t : zTest} {r : List Nat} (h : MS B K n I F J m A V T) (ht : tR V c t) (hc : c < 10) (hr : mRT V 12 13 i r)
    (w : Q (.inl (some (.int (zB (tval t r))))) (K, n, I, F, J)) : ∀ (d j : Nat), j + d = max t.2.1.2.2 t.2.2.2.2.2 → fdif (fun j => zdg false (poct t.2.1 r j)) (fun j => zdg false (poct t.2.2.2 r j)) j d = cmpP t.2.1 r t.2.2.2 r false →
    AW E m_Mo_holds (K, n, I, F, J) cb sb Q 51 [some (.ref m), some (.int (nI c)), some (.int (nI i)), some (.int (nI (6 * c))), some (.int (nI (max t.2.1.2.2 t.2.2.2.2.2))), some (.int (0 : Int32)), some (.int (nI j)), none, none] [] := by
  obtain ⟨t1, t2, t3, t4, t5, t6, t7⟩ := ht
  obtain ⟨r1, r2⟩ := rR_len t7
  have w' : Q (.inl (some (.int (zB (if t.2.2.1 = 61 then decide (cmpP t.2.1 r t.2.2.2 r false = 0) else if t.2.2.1 = 35 then decide (cmpP t.2.1 r t.2.2.2 r false ≠ 0) else if t.2.2.1 = 60 then decide (cmpP t.2.1 r t.2.2.2 r false < 0) else decide (0 < cmpP t.2.1 r t.2.2.2 r false)))))) (K, n, I, F, J) := w
  have fin := mo_hEnd h hc t5 t6 w'
  have bd : ∀ q, q < 6 → 6 * c + q < n (A 8) := fun q hq => by rw [h.sz (by decide)]; show 6 * c + q < 120; omega
  have s8 : I (A 8) = V 8 := h.a (by decide)
  intro d
  induction d with
  | zero =>
    intro j hj hD
    have hD0 : cmpP t.2.1 r t.2.2.2 r false = 0 := hD.symm
    have e0 : sgn (cmpP t.2.1 r t.2.2.2 r false) = 0 := (sgn_0 _).mpr hD0
    rw [e0] at fin
    exact r_Mo_holds_51 (br_t ((nI_leI (by omega) (by omega)).mpr (by omega)) fin)
  | succ d ih =>
    intro j hj hD
    have hu : poct t.2.1 r j < 256 := by
      unfold poct
      split
      · rw [t1]; exact oct_lt hr.1.2.2.1 _
      · omega
    -- the rest, once both bytes are known
    have tail : ∀ v, v < 256 → v = poct t.2.2.2 r j → AW E m_Mo_holds (K, n, I, F, J) cb sb Q 177 [some (.ref m), some (.int (nI c)), some (.int (nI i)), some (.int (nI (6 * c))), some (.int (nI (max t.2.1.2.2 t.2.2.2.2.2))), none, some (.int (nI j)), some (.int (nI (poct t.2.1 r j))), none] [.int (nI v)] := fun v hv ev => by
      unfold fdif at hD
      rw [← ev] at hD
      have hz : ∀ u, zdg false u = u := fun u => rfl
      simp only [hz] at hD
      have fend : poct t.2.1 r j ≠ v → ∀ z : Int32, z = sgn (cmpP t.2.1 r t.2.2.2 r false) → AW E m_Mo_holds (K, n, I, F, J) cb sb Q 51 [some (.ref m), some (.int (nI c)), some (.int (nI i)), some (.int (nI (6 * c))), some (.int (nI (max t.2.1.2.2 t.2.2.2.2.2))), some (.int z), some (.int (nI j + (1 : Int32))), none, none] [] := fun hne z hz => by
        have hz0 : ¬ z = 0 := fun y => by
          rw [hz, sgn_0, ← hD, if_neg hne] at y
          omega
        rw [hz]
        rw [hz] at hz0
        rw [nI_1]
        exact r_Mo_holds_51 (br_c (fun _ => fin) (fun _ => ⟨fun _ => fin, fun y => absurd y hz0⟩))
      refine r_Mo_holds_177 (pk_le v (poct t.2.1 r j) (fun q1 => pk_le (poct t.2.1 r j) v (fun q2 => ?_) (fun q2 => ?_) rfl rfl (by omega) (by omega)) (fun q1 => ?_) rfl rfl (by omega) (by omega))
      · have e : poct t.2.1 r j = v := by omega
        rw [if_pos e] at hD
        rw [nI_1]
        exact ih (j + 1) (by omega) hD
      · refine fend (by omega) 1 ?_
        rw [← hD]
        rw [if_neg (show ¬ poct t.2.1 r j = v by omega)]
        unfold sgn
        rw [if_neg (by omega), if_neg (by omega)]
      · refine fend (by omega) (-1) ?_
        rw [← hD]
        rw [if_neg (show ¬ poct t.2.1 r j = v by omega)]
        unfold sgn
        rw [if_neg (by omega), if_pos (by omega)]
    -- the right side
    have right : ((nI j < V 8 (6 * c + 5) → (∃ j28 : Nat, (nI (6 * c) + (4 : Int32)) = nI j28 ∧ j28 < n (A 8) ∧ j28 < 2147483648 ∧ ((¬ (V 8 j28) = 0 → (∃ b30 : Nat, F m 12 = some b30 ∧ (∃ b31 : Nat, F m 13 = some b31 ∧ AW E m_Mo_byteOf (K, n, I, F, J) 0 0 (zAft E m_Mo_holds cb sb Q 174 [some (.ref m), some (.int (nI c)), some (.int (nI i)), some (.int (nI (6 * c))), some (.int (nI (max t.2.1.2.2 t.2.2.2.2.2))), none, some (.int (nI j)), some (.int (nI (poct t.2.1 r j))), none] []) 0 [some (.ref b30), some (.ref b31), some (.int (nI i)), some (.int (((V 8 j28) - (1 : Int32)) + nI j))] []))) ∧ ((V 8 j28) = 0 → (∃ b32 : Nat, F m 11 = some b32 ∧ K b32 = 21 ∧ (∃ j34 : Nat, (((20 : Int32) * nI c) + nI j) = nI j34 ∧ j34 < n b32 ∧ j34 < 2147483648 ∧ AW E m_Mo_holds (K, n, I, F, J) cb sb Q 177 [some (.ref m), some (.int (nI c)), some (.int (nI i)), some (.int (nI (6 * c))), some (.int (nI (max t.2.1.2.2 t.2.2.2.2.2))), none, some (.int (nI j)), some (.int (nI (poct t.2.1 r j))), none] [.int (I b32 j34)])))))) ∧ (¬ nI j < V 8 (6 * c + 5) → AW E m_Mo_holds (K, n, I, F, J) cb sb Q 177 [some (.ref m), some (.int (nI c)), some (.int (nI i)), some (.int (nI (6 * c))), some (.int (nI (max t.2.1.2.2 t.2.2.2.2.2))), none, some (.int (nI j)), some (.int (nI (poct t.2.1 r j))), none] [.int (32 : Int32)])) := by
      have r1' : V 8 (6 * c + 5) = nI t.2.2.2.2.2 := r1
      rw [r1']
      refine pk_lt j t.2.2.2.2.2 (fun q => ⟨6 * c + 4, nI_add (6 * c) 4, bd 4 (by decide), by omega, ?_⟩) (fun q => ?_) rfl rfl (by omega) (by omega)
      · unfold rR at t7
        cases hg : t.2.2.2.1 with
        | none =>
          rw [hg] at t7
          dsimp only at t7
          have ep : poct t.2.2.2 r j = oct r (t.2.2.2.2.1 + j) := by unfold poct; rw [if_pos q, hg]
          have hb3 := t7.2.2
          rw [t7.1]
          have en : ¬ nI (t.2.2.2.2.1 + 1) = 0 := nI_ne0 (by omega) (by omega)
          refine ⟨fun _ => ⟨_, h.f (f := 12) (by decide), _, h.f (f := 13) (by decide), ?_⟩, fun z => absurd z en⟩
          rw [nI_pred, nI_add]
          exact mo_byteOf h hr (by omega) (tail _ (oct_lt hr.1.2.2.1 _) ep.symm)
        | some ts =>
          rw [hg] at t7
          dsimp only at t7
          obtain ⟨a1, a2, a3, a4, a5, a7, a6⟩ := t7
          have ep : poct t.2.2.2 r j = ts.getD j 0 := by unfold poct; rw [if_pos q, hg]
          rw [a1]
          refine ⟨fun z => absurd rfl z, fun _ => ⟨_, h.f (f := 11) (by decide), h.k (by decide), 20 * c + j, ?_, by rw [h.sz (by decide)]; show 20 * c + j < 880; omega, by omega, ?_⟩⟩
          · show nI 20 * nI c + nI j = _
            rw [pk_mul, nI_add]
          · rw [h.a (by decide), a6 j (by omega)]
            have hv : poct t.2.2.2 r j < 256 := by
              rw [ep]
              have := a7 _ (zgetD_mem (xs := ts) (i := j) (by omega))
              omega
            rw [← ep]
            exact tail _ hv rfl
      · have ep : poct t.2.2.2 r j = 32 := by unfold poct; rw [if_neg (by omega)]
        exact tail 32 (by omega) ep.symm
    refine r_Mo_holds_51 (br_f (nI_ge (by omega) (by omega)) ⟨fun z => absurd rfl z, fun _ => ⟨h.K9, _, h.f (f := 8) (by decide), h.k (by decide), 6 * c + 2, nI_add (6 * c) 2, bd 2 (by decide), by omega, ?_⟩⟩)
    rw [s8, t3]
    refine pk_le t.2.1.2.2 j (fun q => ⟨6 * c + 5, nI_add (6 * c) 5, bd 5 (by decide), by omega, ?_⟩) (fun q => ⟨_, h.f (f := 12) (by decide), _, h.f (f := 13) (by decide), 6 * c + 1, nI_add (6 * c) 1, bd 1 (by decide), by omega, ?_⟩) rfl rfl (by omega) (by omega)
    · have ep : poct t.2.1 r j = 32 := by unfold poct; rw [if_neg (by omega)]
      rw [ep] at right
      exact right
    · have ep : poct t.2.1 r j = oct r (t.2.1.2.1 + j) := by unfold poct; rw [if_pos q, t1]
      rw [t2, nI_pred, nI_add]
      refine mo_byteOf h hr (by omega) (r_Mo_holds_101 ⟨h.K9, _, h.f (f := 8) (by decide), h.k (by decide), 6 * c + 5, nI_add (6 * c) 5, bd 5 (by decide), by omega, ?_⟩)
      rw [s8, ← ep]
      exact right
end
