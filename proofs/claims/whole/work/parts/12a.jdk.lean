set_option maxRecDepth 20000 in
theorem r_Math_max_0 {E : zE} {K n : Nat → Nat} {I : Nat → Nat → Int32} {F : Nat → Nat → Option Nat} {J : Nat → Nat → Int64} {cb sb : Nat} {Q : zO → zH → Prop} {x0 : Int32} {x1 : Int32}
    (w : ((x0 < x1 → Q (.inl (some (.int x1))) (K, n, I, F, J)) ∧ (¬ x0 < x1 → Q (.inl (some (.int x0))) (K, n, I, F, J)))) :
    AW E m_Math_max (K, n, I, F, J) cb sb Q 0 [some (.int x0), some (.int x1)] [] := by
  refine aw_iload_n (x := x0) d_Math_max_0 rfl ?_
  refine aw_iload_n (x := x1) d_Math_max_1 rfl ?_
  refine aw_icmp_lt (tgt := 9) d_Math_max_2 (by decide) (fun cc1 => ?_) (fun cc1 => ?_)
  · replace w := w.1 cc1
    refine aw_iload_n (x := x1) d_Math_max_9 rfl ?_
    exact aw_ireturn .int rfl rfl d_Math_max_10 w
  · replace w := w.2 cc1
    refine aw_iload_n (x := x0) d_Math_max_5 rfl ?_
    refine aw_goto (tgt := 10) d_Math_max_6 (by decide) ?_
    exact aw_ireturn .int rfl rfl d_Math_max_10 w
set_option maxRecDepth 20000 in
theorem r_Math_min_0 {E : zE} {K n : Nat → Nat} {I : Nat → Nat → Int32} {F : Nat → Nat → Option Nat} {J : Nat → Nat → Int64} {cb sb : Nat} {Q : zO → zH → Prop} {x0 : Int32} {x1 : Int32}
    (w : ((x1 < x0 → Q (.inl (some (.int x1))) (K, n, I, F, J)) ∧ (¬ x1 < x0 → Q (.inl (some (.int x0))) (K, n, I, F, J)))) :
    AW E m_Math_min (K, n, I, F, J) cb sb Q 0 [some (.int x0), some (.int x1)] [] := by
  refine aw_iload_n (x := x0) d_Math_min_0 rfl ?_
  refine aw_iload_n (x := x1) d_Math_min_1 rfl ?_
  refine aw_icmp_gt (tgt := 9) d_Math_min_2 (by decide) (fun cc1 => ?_) (fun cc1 => ?_)
  · replace w := w.1 cc1
    refine aw_iload_n (x := x1) d_Math_min_9 rfl ?_
    exact aw_ireturn .int rfl rfl d_Math_min_10 w
  · replace w := w.2 cc1
    refine aw_iload_n (x := x0) d_Math_min_5 rfl ?_
    refine aw_goto (tgt := 10) d_Math_min_6 (by decide) ?_
    exact aw_ireturn .int rfl rfl d_Math_min_10 w
set_option maxRecDepth 20000 in
theorem r_AbstractCollection_init_0 {E : zE} {K n : Nat → Nat} {I : Nat → Nat → Int32} {F : Nat → Nat → Option Nat} {J : Nat → Nat → Int64} {cb sb : Nat} {Q : zO → zH → Prop} {a0 : Nat}
    (w : Q (.inl none) (K, n, I, F, J)) :
    AW E m_AbstractCollection_init (K, n, I, F, J) cb sb Q 0 [some (.ref a0)] [] := by
  refine aw_aload_n (x := a0) d_AbstractCollection_init_0 rfl ?_
  refine aw_objInit 54 tb_54 (by decide) (by decide) d_AbstractCollection_init_1 ?_
  exact aw_return rfl d_AbstractCollection_init_4 w
set_option maxRecDepth 20000 in
theorem r_AbstractList_init_0 {E : zE} {K n : Nat → Nat} {I : Nat → Nat → Int32} {F : Nat → Nat → Option Nat} {J : Nat → Nat → Int64} {cb sb : Nat} {Q : zO → zH → Prop} {a0 : Nat}
    (w : AW E m_AbstractCollection_init (K, n, I, F, J) 0 0 (zAft E m_AbstractList_init cb sb Q 1 [some (.ref a0)] []) 0 [some (.ref a0)] []) :
    AW E m_AbstractList_init (K, n, I, F, J) cb sb Q 0 [some (.ref a0)] [] := by
  refine aw_aload_n (x := a0) d_AbstractList_init_0 rfl ?_
  exact aw_room (cb' := 0 + cb) (sb' := 0 + sb) (by omega) (by omega) (aw_weak (lv' := [some (.ref a0)]) ⟨rfl, trivial⟩ (aw_callI (M' := m_AbstractCollection_init) (lv0 := [some (.ref a0)]) (As := []) (rest := []) 51 52 53 tb_51 tb_52 tb_53 rfl rfl rfl rfl 0 0 rfl rfl ⟨by decide, by decide, by decide +kernel, by decide +kernel, by decide, by decide⟩ (Nat.le_of_ble_eq_true rfl) ⟨rfl, trivial⟩ rfl d_AbstractList_init_1 w))
set_option maxRecDepth 20000 in
theorem r_AbstractList_init_4 {E : zE} {K n : Nat → Nat} {I : Nat → Nat → Int32} {F : Nat → Nat → Option Nat} {J : Nat → Nat → Int64} {cb sb : Nat} {Q : zO → zH → Prop} {a0 : Nat}
    (w : K a0 = 10 ∧ Q (.inl none) (K, n, (zup I a0 0 (0 : Int32)), F, J)) :
    AW E m_AbstractList_init (K, n, I, F, J) cb sb Q 4 [some (.ref a0)] [] := by
  refine aw_aload_n (x := a0) d_AbstractList_init_4 rfl ?_
  refine aw_iconst (v := (0 : Int32)) d_AbstractList_init_5 (by decide) ?_
  obtain ⟨hk1, w⟩ := w
  refine pf_AbstractList_7 rfl hk1 d_AbstractList_init_6 ?_
  exact aw_return rfl d_AbstractList_init_9 w
set_option maxRecDepth 20000 in
theorem r_ArrayList_init_0 {E : zE} {K n : Nat → Nat} {I : Nat → Nat → Int32} {F : Nat → Nat → Option Nat} {J : Nat → Nat → Int64} {cb sb : Nat} {Q : zO → zH → Prop} {a0 : Nat}
    (w : AW E m_AbstractList_init (K, n, I, F, J) 0 0 (zAft E m_ArrayList_init cb sb Q 1 [some (.ref a0)] []) 0 [some (.ref a0)] []) :
    AW E m_ArrayList_init (K, n, I, F, J) cb sb Q 0 [some (.ref a0)] [] := by
  refine aw_aload_n (x := a0) d_ArrayList_init_0 rfl ?_
  exact aw_room (cb' := 0 + cb) (sb' := 0 + sb) (by omega) (by omega) (aw_weak (lv' := [some (.ref a0)]) ⟨rfl, trivial⟩ (aw_callI (M' := m_AbstractList_init) (lv0 := [some (.ref a0)]) (As := []) (rest := []) 48 49 50 tb_48 tb_49 tb_50 rfl rfl rfl rfl 0 0 rfl rfl ⟨by decide, by decide, by decide +kernel, by decide +kernel, by decide, by decide⟩ (Nat.le_of_ble_eq_true rfl) ⟨rfl, trivial⟩ rfl d_ArrayList_init_1 w))
set_option maxRecDepth 20000 in
theorem r_ArrayList_init_4 {E : zE} {K n : Nat → Nat} {I : Nat → Nat → Int32} {F : Nat → Nat → Option Nat} {J : Nat → Nat → Int64} {cb sb : Nat} {Q : zO → zH → Prop} {a0 : Nat}
    (w : K a0 = 10 ∧ Q (.inl none) (K, n, I, (zup F a0 1 (some (E.2.1 10))), J)) :
    AW E m_ArrayList_init (K, n, I, F, J) cb sb Q 4 [some (.ref a0)] [] := by
  refine aw_aload_n (x := a0) d_ArrayList_init_4 rfl ?_
  refine aw_getsZ 0 55 (fun _ q => q) tb_55 d_ArrayList_init_5 ?_
  obtain ⟨hk1, w⟩ := w
  refine pf_ArrayList_9 (r := (some (E.2.1 10))) rfl hk1 d_ArrayList_init_8 ?_
  exact aw_return rfl d_ArrayList_init_11 w
set_option maxRecDepth 20000 in
theorem r_ArrayList_grow1_0 {E : zE} {K n : Nat → Nat} {I : Nat → Nat → Int32} {F : Nat → Nat → Option Nat} {J : Nat → Nat → Int64} {cb sb : Nat} {Q : zO → zH → Prop} {a0 : Nat} {x1 : Int32}
    (w : K a0 = 10 ∧ (∃ b2 : Nat, F a0 1 = some b2 ∧ (∃ j3 : Nat, zlen E K n b2 j3 ∧ ((0 < (nI j3) → (∃ c1 s1 c2 s2 : Nat, c1 + c2 ≤ cb ∧ s1 + s2 ≤ sb ∧ AW E m_ArraysSupport_newLength (K, n, I, F, J) c1 s1 (zAft E m_ArrayList_grow1 c2 s2 Q 27 [some (.ref a0), none, none, none] []) 0 [some (.int (nI j3)), some (.int (x1 - (nI j3))), some (.int ((nI j3) >>> ((1 : Int32) &&& 31))), none] [])) ∧ (¬ 0 < (nI j3) → (((some b2) = (some (E.2.1 10)) → AW E m_Math_max (K, n, I, F, J) 0 0 (zAft E m_ArrayList_grow1 cb sb Q 49 [none, none, none, none] [.ref a0]) 0 [some (.int (10 : Int32)), some (.int x1)] []) ∧ (¬ (some b2) = (some (E.2.1 10)) → (∃ c1 s1 c2 s2 : Nat, c1 + c2 ≤ cb ∧ s1 + s2 ≤ sb ∧ AW E m_ArraysSupport_newLength (K, n, I, F, J) c1 s1 (zAft E m_ArrayList_grow1 c2 s2 Q 27 [some (.ref a0), none, none, none] []) 0 [some (.int (nI j3)), some (.int (x1 - (nI j3))), some (.int ((nI j3) >>> ((1 : Int32) &&& 31))), none] [])))))))) :
    AW E m_ArrayList_grow1 (K, n, I, F, J) cb sb Q 0 [some (.ref a0), some (.int x1), none, none] [] := by
  refine aw_aload_n (x := a0) d_ArrayList_grow1_0 rfl ?_
  obtain ⟨hk1, w⟩ := w
  obtain ⟨b2, hb2, w⟩ := w
  refine gs_ArrayList_9 rfl hk1 hb2 d_ArrayList_grow1_1 ?_
  obtain ⟨j3, hj3, w⟩ := w
  refine aw_alenZ hj3 d_ArrayList_grow1_4 ?_
  refine aw_istore_n d_ArrayList_grow1_5 (by decide) ?_
  refine aw_iload_n (x := (nI j3)) d_ArrayList_grow1_6 rfl ?_
  refine aw_if_gt (tgt := 20) d_ArrayList_grow1_7 (by decide) (fun cc4 => ?_) (fun cc4 => ?_)
  · replace w := w.1 cc4
    refine aw_iload_n (x := (nI j3)) d_ArrayList_grow1_20 rfl ?_
    refine aw_iload_n (x := x1) d_ArrayList_grow1_21 rfl ?_
    refine aw_iload_n (x := (nI j3)) d_ArrayList_grow1_22 rfl ?_
    refine aw_isub d_ArrayList_grow1_23 ?_
    refine aw_iload_n (x := (nI j3)) d_ArrayList_grow1_24 rfl ?_
    refine aw_iconst (v := (1 : Int32)) d_ArrayList_grow1_25 (by decide) ?_
    refine aw_ishr d_ArrayList_grow1_26 ?_
    obtain ⟨c1, s1, c2, s2, hq1, hq2, w⟩ := w
    exact aw_room hq1 hq2 (aw_weak (lv' := [some (.ref a0), none, none, none]) ⟨rfl, trivial⟩ (aw_callS (M' := m_ArraysSupport_newLength) (lv0 := [some (.int (nI j3)), some (.int (x1 - (nI j3))), some (.int ((nI j3) >>> ((1 : Int32) &&& 31))), none]) (As := [.int (nI j3), .int (x1 - (nI j3)), .int ((nI j3) >>> ((1 : Int32) &&& 31))]) (rest := []) 472 473 474 22 tb_472 tb_473 tb_474 tb_22 rfl rfl 3 0 rfl rfl ⟨by decide, by decide, by decide +kernel, by decide +kernel, by decide, by decide⟩ (Nat.le_of_ble_eq_true rfl) ⟨rfl, rfl, rfl, trivial⟩ rfl d_ArrayList_grow1_27 w))
  · replace w := w.2 cc4
    refine aw_aload_n (x := a0) d_ArrayList_grow1_10 rfl ?_
    refine gs_ArrayList_9 rfl hk1 hb2 d_ArrayList_grow1_11 ?_
    refine aw_getsZ 0 55 (fun _ q => q) tb_55 d_ArrayList_grow1_14 ?_
    refine aw_acmp_eq (rx := (some b2)) (ry := (some (E.2.1 10))) (tgt := 45) d_ArrayList_grow1_17 (by decide) (fun cc5 => ?_) (fun cc5 => ?_)
    · replace w := w.1 cc5
      refine aw_aload_n (x := a0) d_ArrayList_grow1_45 rfl ?_
      refine aw_bipush (v := (10 : Int32)) d_ArrayList_grow1_46 (by decide) ?_
      refine aw_iload_n (x := x1) d_ArrayList_grow1_48 rfl ?_
      exact aw_room (cb' := 0 + cb) (sb' := 0 + sb) (by omega) (by omega) (aw_weak (lv' := [none, none, none, none]) trivial (aw_callS (M' := m_Math_max) (lv0 := [some (.int (10 : Int32)), some (.int x1)]) (As := [.int (10 : Int32), .int x1]) (rest := [.ref a0]) 512 476 477 10 tb_512 tb_476 tb_477 tb_10 rfl rfl 2 1 rfl rfl ⟨by decide, by decide, by decide +kernel, by decide +kernel, by decide, by decide⟩ (Nat.le_of_ble_eq_true rfl) ⟨rfl, rfl, trivial⟩ rfl d_ArrayList_grow1_49 w))
    · replace w := w.2 cc5
      refine aw_iload_n (x := (nI j3)) d_ArrayList_grow1_20 rfl ?_
      refine aw_iload_n (x := x1) d_ArrayList_grow1_21 rfl ?_
      refine aw_iload_n (x := (nI j3)) d_ArrayList_grow1_22 rfl ?_
      refine aw_isub d_ArrayList_grow1_23 ?_
      refine aw_iload_n (x := (nI j3)) d_ArrayList_grow1_24 rfl ?_
      refine aw_iconst (v := (1 : Int32)) d_ArrayList_grow1_25 (by decide) ?_
      refine aw_ishr d_ArrayList_grow1_26 ?_
      obtain ⟨c1, s1, c2, s2, hq1, hq2, w⟩ := w
      exact aw_room hq1 hq2 (aw_weak (lv' := [some (.ref a0), none, none, none]) ⟨rfl, trivial⟩ (aw_callS (M' := m_ArraysSupport_newLength) (lv0 := [some (.int (nI j3)), some (.int (x1 - (nI j3))), some (.int ((nI j3) >>> ((1 : Int32) &&& 31))), none]) (As := [.int (nI j3), .int (x1 - (nI j3)), .int ((nI j3) >>> ((1 : Int32) &&& 31))]) (rest := []) 472 473 474 22 tb_472 tb_473 tb_474 tb_22 rfl rfl 3 0 rfl rfl ⟨by decide, by decide, by decide +kernel, by decide +kernel, by decide, by decide⟩ (Nat.le_of_ble_eq_true rfl) ⟨rfl, rfl, rfl, trivial⟩ rfl d_ArrayList_grow1_27 w))
set_option maxRecDepth 20000 in
theorem r_ArrayList_grow1_30 {E : zE} {K n : Nat → Nat} {I : Nat → Nat → Int32} {F : Nat → Nat → Option Nat} {J : Nat → Nat → Int64} {cb sb : Nat} {Q : zO → zH → Prop} {a0 : Nat} {sx0 : Int32}
    (w : K a0 = 10 ∧ (∃ b2 : Nat, F a0 1 = some b2 ∧ (∃ c1 s1 c2 s2 : Nat, c1 + c2 ≤ cb ∧ s1 + s2 ≤ sb ∧ AW E m_Arrays_copyOf (K, n, I, F, J) c1 s1 (zAft E m_ArrayList_grow1 c2 s2 Q 37 [none, none, none, none] [.ref a0]) 0 [some (.ref b2), some (.int sx0)] []))) :
    AW E m_ArrayList_grow1 (K, n, I, F, J) cb sb Q 30 [some (.ref a0), none, none, none] [.int sx0] := by
  refine aw_istore_n d_ArrayList_grow1_30 (by decide) ?_
  refine aw_aload_n (x := a0) d_ArrayList_grow1_31 rfl ?_
  refine aw_aload_n (x := a0) d_ArrayList_grow1_32 rfl ?_
  obtain ⟨hk1, w⟩ := w
  obtain ⟨b2, hb2, w⟩ := w
  refine gs_ArrayList_9 rfl hk1 hb2 d_ArrayList_grow1_33 ?_
  refine aw_iload_n (x := sx0) d_ArrayList_grow1_36 rfl ?_
  obtain ⟨c1, s1, c2, s2, hq1, hq2, w⟩ := w
  exact aw_room hq1 hq2 (aw_weak (lv' := [none, none, none, none]) trivial (aw_callS (M' := m_Arrays_copyOf) (lv0 := [some (.ref b2), some (.int sx0)]) (As := [.ref b2, .int sx0]) (rest := [.ref a0]) 482 483 484 23 tb_482 tb_483 tb_484 tb_23 rfl rfl 2 1 rfl rfl ⟨by decide, by decide, by decide +kernel, by decide +kernel, by decide, by decide⟩ (Nat.le_of_ble_eq_true rfl) ⟨rfl, rfl, trivial⟩ rfl d_ArrayList_grow1_37 w))
set_option maxRecDepth 20000 in
theorem r_ArrayList_grow1_40 {E : zE} {K n : Nat → Nat} {I : Nat → Nat → Int32} {F : Nat → Nat → Option Nat} {J : Nat → Nat → Int64} {cb sb : Nat} {Q : zO → zH → Prop} {sa0 : Nat} {sa1 : Nat}
    (w : K sa0 = 10 ∧ Q (.inl (some (.ref sa1))) (K, n, I, (zup F sa0 1 (some sa1)), J)) :
    AW E m_ArrayList_grow1 (K, n, I, F, J) cb sb Q 40 [none, none, none, none] [.ref sa1, .ref sa0] := by
  refine aw_dup_x1 d_ArrayList_grow1_40 rfl rfl ?_
  obtain ⟨hk1, w⟩ := w
  refine pf_ArrayList_9 (r := (some sa1)) rfl hk1 d_ArrayList_grow1_41 ?_
  exact aw_areturn (r := (some sa1)) _ rfl rfl d_ArrayList_grow1_44 w
set_option maxRecDepth 20000 in
theorem r_ArrayList_grow1_52 {E : zE} {K n : Nat → Nat} {I : Nat → Nat → Int32} {F : Nat → Nat → Option Nat} {J : Nat → Nat → Int64} {cb sb : Nat} {Q : zO → zH → Prop} {sa0 : Nat} {sx1 : Int32}
    (w : (∃ NN : Nat, sx1 = nI NN ∧ NN ≤ 100000 ∧ (∃ cb9 sb9 : Nat, cb9 + 1 ≤ cb ∧ sb9 + NN ≤ sb ∧ ∀ q : Nat, K q = 0 → AW E m_ArrayList_grow1 ((va_up K q 23), (va_up n q NN), I, (va_up F q (fun _ => none)), J) cb9 sb9 Q 55 [none, none, none, none] [.ref q, .ref sa0]))) :
    AW E m_ArrayList_grow1 (K, n, I, F, J) cb sb Q 52 [none, none, none, none] [.int sx1, .ref sa0] := by
  obtain ⟨NN, hNa, hNb, cb9, sb9, hq1, hq2, w⟩ := w
  exact aw_room hq1 hq2 (aw_weak (lv' := [none, none, none, none]) trivial (aw_newR NN hNa hNb 513 506 tb_513 tb_506 d_ArrayList_grow1_52 w))
set_option maxRecDepth 20000 in
theorem r_ArrayList_grow1_55 {E : zE} {K n : Nat → Nat} {I : Nat → Nat → Int32} {F : Nat → Nat → Option Nat} {J : Nat → Nat → Int64} {cb sb : Nat} {Q : zO → zH → Prop} {sa0 : Nat} {sa1 : Nat}
    (w : K sa0 = 10 ∧ Q (.inl (some (.ref sa1))) (K, n, I, (zup F sa0 1 (some sa1)), J)) :
    AW E m_ArrayList_grow1 (K, n, I, F, J) cb sb Q 55 [none, none, none, none] [.ref sa1, .ref sa0] := by
  refine aw_dup_x1 d_ArrayList_grow1_55 rfl rfl ?_
  obtain ⟨hk1, w⟩ := w
  refine pf_ArrayList_9 (r := (some sa1)) rfl hk1 d_ArrayList_grow1_56 ?_
  exact aw_areturn (r := (some sa1)) _ rfl rfl d_ArrayList_grow1_59 w
set_option maxRecDepth 20000 in
theorem r_ArrayList_grow_0 {E : zE} {K n : Nat → Nat} {I : Nat → Nat → Int32} {F : Nat → Nat → Option Nat} {J : Nat → Nat → Int64} {cb sb : Nat} {Q : zO → zH → Prop} {a0 : Nat}
    (w : K a0 = 10 ∧ (∃ c1 s1 c2 s2 : Nat, c1 + c2 ≤ cb ∧ s1 + s2 ≤ sb ∧ AW E m_ArrayList_grow1 (K, n, I, F, J) c1 s1 (zAft E m_ArrayList_grow c2 s2 Q 7 [none] []) 0 [some (.ref a0), some (.int ((I a0 2) + (1 : Int32))), none, none] [])) :
    AW E m_ArrayList_grow (K, n, I, F, J) cb sb Q 0 [some (.ref a0)] [] := by
  refine aw_aload_n (x := a0) d_ArrayList_grow_0 rfl ?_
  refine aw_aload_n (x := a0) d_ArrayList_grow_1 rfl ?_
  obtain ⟨hk1, w⟩ := w
  refine gf_ArrayList_48 rfl hk1 d_ArrayList_grow_2 ?_
  refine aw_iconst (v := (1 : Int32)) d_ArrayList_grow_5 (by decide) ?_
  refine aw_iadd d_ArrayList_grow_6 ?_
  obtain ⟨c1, s1, c2, s2, hq1, hq2, w⟩ := w
  exact aw_room hq1 hq2 (aw_weak (lv' := [none]) trivial (aw_callV (M' := m_ArrayList_grow1) (lv0 := [some (.ref a0), some (.int ((I a0 2) + (1 : Int32))), none, none]) (As := [.int ((I a0 2) + (1 : Int32))]) (rest := []) 9 468 470 471 rfl (by decide) rfl hk1 tb_468 tb_470 tb_471 (fun U hU => hU.p 12 rfl) rfl rfl 1 0 rfl rfl ⟨by decide, by decide, by decide +kernel, by decide +kernel, by decide, by decide⟩ (Nat.le_of_ble_eq_true rfl) ⟨rfl, rfl, trivial⟩ rfl d_ArrayList_grow_7 w))
set_option maxRecDepth 20000 in
theorem r_ArrayList_grow_10 {E : zE} {K n : Nat → Nat} {I : Nat → Nat → Int32} {F : Nat → Nat → Option Nat} {J : Nat → Nat → Int64} {cb sb : Nat} {Q : zO → zH → Prop} {sa0 : Nat}
    (w : Q (.inl (some (.ref sa0))) (K, n, I, F, J)) :
    AW E m_ArrayList_grow (K, n, I, F, J) cb sb Q 10 [none] [.ref sa0] := by
  exact aw_areturn (r := (some sa0)) _ rfl rfl d_ArrayList_grow_10 w
set_option maxRecDepth 20000 in
theorem r_ArrayList_size_0 {E : zE} {K n : Nat → Nat} {I : Nat → Nat → Int32} {F : Nat → Nat → Option Nat} {J : Nat → Nat → Int64} {cb sb : Nat} {Q : zO → zH → Prop} {a0 : Nat}
    (w : K a0 = 10 ∧ Q (.inl (some (.int (I a0 2)))) (K, n, I, F, J)) :
    AW E m_ArrayList_size (K, n, I, F, J) cb sb Q 0 [some (.ref a0)] [] := by
  refine aw_aload_n (x := a0) d_ArrayList_size_0 rfl ?_
  obtain ⟨hk1, w⟩ := w
  refine gf_ArrayList_48 rfl hk1 d_ArrayList_size_1 ?_
  exact aw_ireturn .int rfl rfl d_ArrayList_size_4 w
set_option maxRecDepth 20000 in
theorem r_ArrayList_isEmpty_0 {E : zE} {K n : Nat → Nat} {I : Nat → Nat → Int32} {F : Nat → Nat → Option Nat} {J : Nat → Nat → Int64} {cb sb : Nat} {Q : zO → zH → Prop} {a0 : Nat}
    (w : K a0 = 10 ∧ ((¬ (I a0 2) = 0 → Q (.inl (some (.int (0 : Int32)))) (K, n, I, F, J)) ∧ ((I a0 2) = 0 → Q (.inl (some (.int (1 : Int32)))) (K, n, I, F, J)))) :
    AW E m_ArrayList_isEmpty (K, n, I, F, J) cb sb Q 0 [some (.ref a0)] [] := by
  refine aw_aload_n (x := a0) d_ArrayList_isEmpty_0 rfl ?_
  obtain ⟨hk1, w⟩ := w
  refine gf_ArrayList_48 rfl hk1 d_ArrayList_isEmpty_1 ?_
  refine aw_if_ne (tgt := 11) d_ArrayList_isEmpty_4 (by decide) (fun cc2 => ?_) (fun cc2 => ?_)
  · replace w := w.1 cc2
    refine aw_iconst (v := (0 : Int32)) d_ArrayList_isEmpty_11 (by decide) ?_
    exact aw_ireturn .boolean rfl rfl d_ArrayList_isEmpty_12 w
  · replace w := w.2 cc2
    refine aw_iconst (v := (1 : Int32)) d_ArrayList_isEmpty_7 (by decide) ?_
    refine aw_goto (tgt := 12) d_ArrayList_isEmpty_8 (by decide) ?_
    exact aw_ireturn .boolean rfl rfl d_ArrayList_isEmpty_12 w
set_option maxRecDepth 20000 in
theorem r_ArrayList_elementData_0 {E : zE} {K n : Nat → Nat} {I : Nat → Nat → Int32} {F : Nat → Nat → Option Nat} {J : Nat → Nat → Int64} {cb sb : Nat} {Q : zO → zH → Prop} {a0 : Nat} {x1 : Int32}
    (w : K a0 = 10 ∧ (∃ b2 : Nat, F a0 1 = some b2 ∧ K b2 = 23 ∧ (∃ j4 : Nat, x1 = nI j4 ∧ j4 < n b2 ∧ j4 < 2147483648 ∧ Q (.inl (some (va_rf (F b2 j4)))) (K, n, I, F, J)))) :
    AW E m_ArrayList_elementData (K, n, I, F, J) cb sb Q 0 [some (.ref a0), some (.int x1)] [] := by
  refine aw_aload_n (x := a0) d_ArrayList_elementData_0 rfl ?_
  obtain ⟨hk1, w⟩ := w
  obtain ⟨b2, hb2, w⟩ := w
  refine gs_ArrayList_9 rfl hk1 hb2 d_ArrayList_elementData_1 ?_
  refine aw_iload_n (x := x1) d_ArrayList_elementData_4 rfl ?_
  obtain ⟨hk3, w⟩ := w
  obtain ⟨j4, hj4a, hj4b, hj4c, w⟩ := w
  refine aw_aaload j4 hk3 hj4a hj4b hj4c d_ArrayList_elementData_5 ?_
  exact aw_areturn (r := (F b2 j4)) _ rfl rfl d_ArrayList_elementData_6 w
set_option maxRecDepth 20000 in
theorem r_ArrayList_get_0 {E : zE} {K n : Nat → Nat} {I : Nat → Nat → Int32} {F : Nat → Nat → Option Nat} {J : Nat → Nat → Int64} {cb sb : Nat} {Q : zO → zH → Prop} {a0 : Nat} {x1 : Int32}
    (w : K a0 = 10 ∧ AW E m_Objects_checkIndex (K, n, I, F, J) 0 0 (zAft E m_ArrayList_get cb sb Q 5 [some (.ref a0), some (.int x1)] []) 0 [some (.int x1), some (.int (I a0 2))] []) :
    AW E m_ArrayList_get (K, n, I, F, J) cb sb Q 0 [some (.ref a0), some (.int x1)] [] := by
  refine aw_iload_n (x := x1) d_ArrayList_get_0 rfl ?_
  refine aw_aload_n (x := a0) d_ArrayList_get_1 rfl ?_
  obtain ⟨hk1, w⟩ := w
  refine gf_ArrayList_48 rfl hk1 d_ArrayList_get_2 ?_
  exact aw_room (cb' := 0 + cb) (sb' := 0 + sb) (by omega) (by omega) (aw_weak (lv' := [some (.ref a0), some (.int x1)]) ⟨rfl, rfl, trivial⟩ (aw_callS (M' := m_Objects_checkIndex) (lv0 := [some (.int x1), some (.int (I a0 2))]) (As := [.int x1, .int (I a0 2)]) (rest := []) 593 594 595 26 tb_593 tb_594 tb_595 tb_26 rfl rfl 2 0 rfl rfl ⟨by decide, by decide, by decide +kernel, by decide +kernel, by decide, by decide⟩ (Nat.le_of_ble_eq_true rfl) ⟨rfl, rfl, trivial⟩ rfl d_ArrayList_get_5 w))
set_option maxRecDepth 20000 in
theorem r_ArrayList_get_8 {E : zE} {K n : Nat → Nat} {I : Nat → Nat → Int32} {F : Nat → Nat → Option Nat} {J : Nat → Nat → Int64} {cb sb : Nat} {Q : zO → zH → Prop} {a0 : Nat} {x1 : Int32} {sx0 : Int32}
    (w : K a0 = 10 ∧ AW E m_ArrayList_elementData (K, n, I, F, J) 0 0 (zAft E m_ArrayList_get cb sb Q 11 [none, none] []) 0 [some (.ref a0), some (.int x1)] []) :
    AW E m_ArrayList_get (K, n, I, F, J) cb sb Q 8 [some (.ref a0), some (.int x1)] [.int sx0] := by
  refine aw_pop d_ArrayList_get_8 rfl ?_
  refine aw_aload_n (x := a0) d_ArrayList_get_9 rfl ?_
  refine aw_iload_n (x := x1) d_ArrayList_get_10 rfl ?_
  obtain ⟨hk1, w⟩ := w
  exact aw_room (cb' := 0 + cb) (sb' := 0 + sb) (by omega) (by omega) (aw_weak (lv' := [none, none]) trivial (aw_callV (M' := m_ArrayList_elementData) (lv0 := [some (.ref a0), some (.int x1)]) (As := [.int x1]) (rest := []) 9 597 598 600 rfl (by decide) rfl hk1 tb_597 tb_598 tb_600 (fun U hU => hU.t 599 tb_599 rfl) rfl rfl 1 0 rfl rfl ⟨by decide, by decide, by decide +kernel, by decide +kernel, by decide, by decide⟩ (Nat.le_of_ble_eq_true rfl) ⟨rfl, rfl, trivial⟩ rfl d_ArrayList_get_11 w))
set_option maxRecDepth 20000 in
theorem r_ArrayList_get_14 {E : zE} {K n : Nat → Nat} {I : Nat → Nat → Int32} {F : Nat → Nat → Option Nat} {J : Nat → Nat → Int64} {cb sb : Nat} {Q : zO → zH → Prop} {sr0 : Option Nat}
    (w : Q (.inl (some (va_rf sr0))) (K, n, I, F, J)) :
    AW E m_ArrayList_get (K, n, I, F, J) cb sb Q 14 [none, none] [va_rf sr0] := by
  exact aw_areturn (r := sr0) _ rfl rfl d_ArrayList_get_14 w
set_option maxRecDepth 20000 in
theorem r_ArrayList_add2_0 {E : zE} {K n : Nat → Nat} {I : Nat → Nat → Int32} {F : Nat → Nat → Option Nat} {J : Nat → Nat → Int64} {cb sb : Nat} {Q : zO → zH → Prop} {a0 : Nat} {a1 : Nat} {a2 : Nat} {x3 : Int32}
    (w : (∃ j1 : Nat, zlen E K n a2 j1 ∧ ((¬ x3 = (nI j1) → K a2 = 23 ∧ (∃ j4 : Nat, x3 = nI j4 ∧ j4 < n a2 ∧ j4 < 2147483648 ∧ zEl (K a1) ∧ K a0 = 10 ∧ Q (.inl none) (K, n, (zup I a0 2 (x3 + (1 : Int32))), (zup F a2 j4 (some a1)), J))) ∧ (x3 = (nI j1) → K a0 = 10 ∧ (∃ c1 s1 c2 s2 : Nat, c1 + c2 ≤ cb ∧ s1 + s2 ≤ sb ∧ AW E m_ArrayList_grow (K, n, I, F, J) c1 s1 (zAft E m_ArrayList_add2 c2 s2 Q 7 [some (.ref a0), some (.ref a1), none, some (.int x3)] []) 0 [some (.ref a0)] []))))) :
    AW E m_ArrayList_add2 (K, n, I, F, J) cb sb Q 0 [some (.ref a0), some (.ref a1), some (.ref a2), some (.int x3)] [] := by
  refine aw_iload_n (x := x3) d_ArrayList_add2_0 rfl ?_
  refine aw_aload_n (x := a2) d_ArrayList_add2_1 rfl ?_
  obtain ⟨j1, hj1, w⟩ := w
  refine aw_alenZ hj1 d_ArrayList_add2_2 ?_
  refine aw_icmp_ne (tgt := 11) d_ArrayList_add2_3 (by decide) (fun cc2 => ?_) (fun cc2 => ?_)
  · replace w := w.1 cc2
    refine aw_aload_n (x := a2) d_ArrayList_add2_11 rfl ?_
    refine aw_iload_n (x := x3) d_ArrayList_add2_12 rfl ?_
    refine aw_aload_n (x := a1) d_ArrayList_add2_13 rfl ?_
    obtain ⟨hk3, w⟩ := w
    obtain ⟨j4, hj4a, hj4b, hj4c, w⟩ := w
    obtain ⟨hk5, w⟩ := w
    refine aw_aastore j4 hk3 hk5 hj4a hj4b hj4c d_ArrayList_add2_14 ?_
    refine aw_aload_n (x := a0) d_ArrayList_add2_15 rfl ?_
    refine aw_iload_n (x := x3) d_ArrayList_add2_16 rfl ?_
    refine aw_iconst (v := (1 : Int32)) d_ArrayList_add2_17 (by decide) ?_
    refine aw_iadd d_ArrayList_add2_18 ?_
    obtain ⟨hk6, w⟩ := w
    refine pf_ArrayList_48 rfl hk6 d_ArrayList_add2_19 ?_
    exact aw_return rfl d_ArrayList_add2_22 w
  · replace w := w.2 cc2
    refine aw_aload_n (x := a0) d_ArrayList_add2_6 rfl ?_
    obtain ⟨hk7, w⟩ := w
    obtain ⟨c1, s1, c2, s2, hq1, hq2, w⟩ := w
    exact aw_room hq1 hq2 (aw_weak (lv' := [some (.ref a0), some (.ref a1), none, some (.int x3)]) ⟨rfl, rfl, rfl, trivial⟩ (aw_callV (M' := m_ArrayList_grow) (lv0 := [some (.ref a0)]) (As := []) (rest := []) 9 464 466 467 rfl (by decide) rfl hk7 tb_464 tb_466 tb_467 (fun U hU => hU.p 11 rfl) rfl rfl 0 0 rfl rfl ⟨by decide, by decide, by decide +kernel, by decide +kernel, by decide, by decide⟩ (Nat.le_of_ble_eq_true rfl) ⟨rfl, trivial⟩ rfl d_ArrayList_add2_7 w))
set_option maxRecDepth 20000 in
theorem r_ArrayList_add2_10 {E : zE} {K n : Nat → Nat} {I : Nat → Nat → Int32} {F : Nat → Nat → Option Nat} {J : Nat → Nat → Int64} {cb sb : Nat} {Q : zO → zH → Prop} {a0 : Nat} {a1 : Nat} {x3 : Int32} {sa0 : Nat}
    (w : K sa0 = 23 ∧ (∃ j2 : Nat, x3 = nI j2 ∧ j2 < n sa0 ∧ j2 < 2147483648 ∧ zEl (K a1) ∧ K a0 = 10 ∧ Q (.inl none) (K, n, (zup I a0 2 (x3 + (1 : Int32))), (zup F sa0 j2 (some a1)), J))) :
    AW E m_ArrayList_add2 (K, n, I, F, J) cb sb Q 10 [some (.ref a0), some (.ref a1), none, some (.int x3)] [.ref sa0] := by
  refine aw_astore_n d_ArrayList_add2_10 (by decide) ?_
  refine aw_aload_n (x := sa0) d_ArrayList_add2_11 rfl ?_
  refine aw_iload_n (x := x3) d_ArrayList_add2_12 rfl ?_
  refine aw_aload_n (x := a1) d_ArrayList_add2_13 rfl ?_
  obtain ⟨hk1, w⟩ := w
  obtain ⟨j2, hj2a, hj2b, hj2c, w⟩ := w
  obtain ⟨hk3, w⟩ := w
  refine aw_aastore j2 hk1 hk3 hj2a hj2b hj2c d_ArrayList_add2_14 ?_
  refine aw_aload_n (x := a0) d_ArrayList_add2_15 rfl ?_
  refine aw_iload_n (x := x3) d_ArrayList_add2_16 rfl ?_
  refine aw_iconst (v := (1 : Int32)) d_ArrayList_add2_17 (by decide) ?_
  refine aw_iadd d_ArrayList_add2_18 ?_
  obtain ⟨hk4, w⟩ := w
  refine pf_ArrayList_48 rfl hk4 d_ArrayList_add2_19 ?_
  exact aw_return rfl d_ArrayList_add2_22 w
set_option maxRecDepth 20000 in
theorem r_ArrayList_add_0 {E : zE} {K n : Nat → Nat} {I : Nat → Nat → Int32} {F : Nat → Nat → Option Nat} {J : Nat → Nat → Int64} {cb sb : Nat} {Q : zO → zH → Prop} {a0 : Nat} {a1 : Nat}
    (w : K a0 = 10 ∧ (∃ b2 : Nat, F a0 1 = some b2 ∧ (∃ c1 s1 c2 s2 : Nat, c1 + c2 ≤ cb ∧ s1 + s2 ≤ sb ∧ AW E m_ArrayList_add2 (K, n, (zup I a0 0 ((I a0 0) + (1 : Int32))), F, J) c1 s1 (zAft E m_ArrayList_add c2 s2 Q 20 [none, none] []) 0 [some (.ref a0), some (.ref a1), some (.ref b2), some (.int ((zup I a0 0 ((I a0 0) + (1 : Int32))) a0 2))] []))) :
    AW E m_ArrayList_add (K, n, I, F, J) cb sb Q 0 [some (.ref a0), some (.ref a1)] [] := by
  refine aw_aload_n (x := a0) d_ArrayList_add_0 rfl ?_
  refine aw_dup d_ArrayList_add_1 rfl ?_
  obtain ⟨hk1, w⟩ := w
  refine gf_ArrayList_63 rfl hk1 d_ArrayList_add_2 ?_
  refine aw_iconst (v := (1 : Int32)) d_ArrayList_add_5 (by decide) ?_
  refine aw_iadd d_ArrayList_add_6 ?_
  refine pf_ArrayList_63 rfl hk1 d_ArrayList_add_7 ?_
  refine aw_aload_n (x := a0) d_ArrayList_add_10 rfl ?_
  refine aw_aload_n (x := a1) d_ArrayList_add_11 rfl ?_
  refine aw_aload_n (x := a0) d_ArrayList_add_12 rfl ?_
  obtain ⟨b2, hb2, w⟩ := w
  refine gs_ArrayList_9 rfl hk1 hb2 d_ArrayList_add_13 ?_
  refine aw_aload_n (x := a0) d_ArrayList_add_16 rfl ?_
  refine gf_ArrayList_48 rfl hk1 d_ArrayList_add_17 ?_
  obtain ⟨c1, s1, c2, s2, hq1, hq2, w⟩ := w
  exact aw_room hq1 hq2 (aw_weak (lv' := [none, none]) trivial (aw_callV (M' := m_ArrayList_add2) (lv0 := [some (.ref a0), some (.ref a1), some (.ref b2), some (.int ((zup I a0 0 ((I a0 0) + (1 : Int32))) a0 2))]) (As := [.ref a1, .ref b2, .int ((zup I a0 0 ((I a0 0) + (1 : Int32))) a0 2)]) (rest := []) 9 460 462 463 rfl (by decide) rfl hk1 tb_460 tb_462 tb_463 (fun U hU => hU.p 10 rfl) rfl rfl 3 0 rfl rfl ⟨by decide, by decide, by decide +kernel, by decide +kernel, by decide, by decide⟩ (Nat.le_of_ble_eq_true rfl) ⟨rfl, rfl, rfl, rfl, trivial⟩ rfl d_ArrayList_add_20 w))
set_option maxRecDepth 20000 in
theorem r_ArrayList_add_23 {E : zE} {K n : Nat → Nat} {I : Nat → Nat → Int32} {F : Nat → Nat → Option Nat} {J : Nat → Nat → Int64} {cb sb : Nat} {Q : zO → zH → Prop}
    (w : Q (.inl (some (.int (1 : Int32)))) (K, n, I, F, J)) :
    AW E m_ArrayList_add (K, n, I, F, J) cb sb Q 23 [none, none] [] := by
  refine aw_iconst (v := (1 : Int32)) d_ArrayList_add_23 (by decide) ?_
  exact aw_ireturn .boolean rfl rfl d_ArrayList_add_24 w
set_option maxRecDepth 20000 in
theorem r_ArrayList_add1_0 {E : zE} {K n : Nat → Nat} {I : Nat → Nat → Int32} {F : Nat → Nat → Option Nat} {J : Nat → Nat → Int64} {cb sb : Nat} {Q : zO → zH → Prop} {a0 : Nat} {x1 : Int32} {a2 : Nat}
    (w : K a0 = 10 ∧ (∃ c1 s1 c2 s2 : Nat, c1 + c2 ≤ cb ∧ s1 + s2 ≤ sb ∧ AW E m_ArrayList_rangeCheckForAdd (K, n, I, F, J) c1 s1 (zAft E m_ArrayList_add1 c2 s2 Q 2 [some (.ref a0), some (.int x1), some (.ref a2), none, none] []) 0 [some (.ref a0), some (.int x1)] [])) :
    AW E m_ArrayList_add1 (K, n, I, F, J) cb sb Q 0 [some (.ref a0), some (.int x1), some (.ref a2), none, none] [] := by
  refine aw_aload_n (x := a0) d_ArrayList_add1_0 rfl ?_
  refine aw_iload_n (x := x1) d_ArrayList_add1_1 rfl ?_
  obtain ⟨hk1, w⟩ := w
  obtain ⟨c1, s1, c2, s2, hq1, hq2, w⟩ := w
  exact aw_room hq1 hq2 (aw_weak (lv' := [some (.ref a0), some (.int x1), some (.ref a2), none, none]) ⟨rfl, rfl, rfl, trivial⟩ (aw_callV (M' := m_ArrayList_rangeCheckForAdd) (lv0 := [some (.ref a0), some (.int x1)]) (As := [.int x1]) (rest := []) 9 668 670 671 rfl (by decide) rfl hk1 tb_668 tb_670 tb_671 (fun U hU => hU.p 20 rfl) rfl rfl 1 0 rfl rfl ⟨by decide, by decide, by decide +kernel, by decide +kernel, by decide, by decide⟩ (Nat.le_of_ble_eq_true rfl) ⟨rfl, rfl, trivial⟩ rfl d_ArrayList_add1_2 w))
set_option maxRecDepth 20000 in
theorem r_ArrayList_add1_5 {E : zE} {K n : Nat → Nat} {I : Nat → Nat → Int32} {F : Nat → Nat → Option Nat} {J : Nat → Nat → Int64} {cb sb : Nat} {Q : zO → zH → Prop} {a0 : Nat} {x1 : Int32} {a2 : Nat}
    (w : K a0 = 10 ∧ (∃ b2 : Nat, F a0 1 = some b2 ∧ (∃ j3 : Nat, zlen E K n b2 j3 ∧ ((¬ ((zup I a0 0 ((I a0 0) + (1 : Int32))) a0 2) = (nI j3) → K b2 = 23 ∧ (∃ cs cd cN : Nat, x1 = nI cs ∧ (x1 + (1 : Int32)) = nI cd ∧ (((zup I a0 0 ((I a0 0) + (1 : Int32))) a0 2) - x1) = nI cN ∧ cs + cN ≤ n b2 ∧ cd + cN ≤ n b2 ∧ n b2 ≤ 100000 ∧ n b2 ≤ 100000 ∧ (∀ i, i < cN → ∀ v, F b2 (cs + i) = some v → zEl (K v)) ∧ (∃ j6 : Nat, x1 = nI j6 ∧ j6 < n b2 ∧ j6 < 2147483648 ∧ zEl (K a2) ∧ Q (.inl none) (K, n, (zup (zup I a0 0 ((I a0 0) + (1 : Int32))) a0 2 (((zup I a0 0 ((I a0 0) + (1 : Int32))) a0 2) + (1 : Int32))), (zup (va_up F b2 (va_cpy (F b2) (F b2) cs cd cN)) b2 j6 (some a2)), J)))) ∧ (((zup I a0 0 ((I a0 0) + (1 : Int32))) a0 2) = (nI j3) → (∃ c1 s1 c2 s2 : Nat, c1 + c2 ≤ cb ∧ s1 + s2 ≤ sb ∧ AW E m_ArrayList_grow (K, n, (zup I a0 0 ((I a0 0) + (1 : Int32))), F, J) c1 s1 (zAft E m_ArrayList_add1 c2 s2 Q 33 [some (.ref a0), some (.int x1), some (.ref a2), some (.int ((zup I a0 0 ((I a0 0) + (1 : Int32))) a0 2)), none] []) 0 [some (.ref a0)] [])))))) :
    AW E m_ArrayList_add1 (K, n, I, F, J) cb sb Q 5 [some (.ref a0), some (.int x1), some (.ref a2), none, none] [] := by
  refine aw_aload_n (x := a0) d_ArrayList_add1_5 rfl ?_
  refine aw_dup d_ArrayList_add1_6 rfl ?_
  obtain ⟨hk1, w⟩ := w
  refine gf_ArrayList_63 rfl hk1 d_ArrayList_add1_7 ?_
  refine aw_iconst (v := (1 : Int32)) d_ArrayList_add1_10 (by decide) ?_
  refine aw_iadd d_ArrayList_add1_11 ?_
  refine pf_ArrayList_63 rfl hk1 d_ArrayList_add1_12 ?_
  refine aw_aload_n (x := a0) d_ArrayList_add1_15 rfl ?_
  refine gf_ArrayList_48 rfl hk1 d_ArrayList_add1_16 ?_
  refine aw_dup d_ArrayList_add1_19 rfl ?_
  refine aw_istore_n d_ArrayList_add1_20 (by decide) ?_
  refine aw_aload_n (x := a0) d_ArrayList_add1_21 rfl ?_
  obtain ⟨b2, hb2, w⟩ := w
  refine gs_ArrayList_9 rfl hk1 hb2 d_ArrayList_add1_22 ?_
  refine aw_dup d_ArrayList_add1_25 rfl ?_
  refine aw_astore d_ArrayList_add1_26 (by decide) ?_
  obtain ⟨j3, hj3, w⟩ := w
  refine aw_alenZ hj3 d_ArrayList_add1_28 ?_
  refine aw_icmp_ne (tgt := 38) d_ArrayList_add1_29 (by decide) (fun cc4 => ?_) (fun cc4 => ?_)
  · replace w := w.1 cc4
    refine aw_aload (x := b2) d_ArrayList_add1_38 rfl ?_
    refine aw_iload_n (x := x1) d_ArrayList_add1_40 rfl ?_
    refine aw_aload (x := b2) d_ArrayList_add1_41 rfl ?_
    refine aw_iload_n (x := x1) d_ArrayList_add1_43 rfl ?_
    refine aw_iconst (v := (1 : Int32)) d_ArrayList_add1_44 (by decide) ?_
    refine aw_iadd d_ArrayList_add1_45 ?_
    refine aw_iload_n (x := ((zup I a0 0 ((I a0 0) + (1 : Int32))) a0 2)) d_ArrayList_add1_46 rfl ?_
    refine aw_iload_n (x := x1) d_ArrayList_add1_47 rfl ?_
    refine aw_isub d_ArrayList_add1_48 ?_
    obtain ⟨hk5, w⟩ := w
    obtain ⟨cs, cd, cN, hq1, hq2, hq3, hq4, hq5, hq6, hq7, hq8, w⟩ := w
    refine aw_copyR cs cd cN 672 tb_672 hk5 hk5 hq1 hq2 hq3 hq4 hq5 hq6 hq7 hq8 (by decide) (Nat.le_of_ble_eq_true rfl) d_ArrayList_add1_49 ?_
    refine aw_aload (x := b2) d_ArrayList_add1_52 rfl ?_
    refine aw_iload_n (x := x1) d_ArrayList_add1_54 rfl ?_
    refine aw_aload_n (x := a2) d_ArrayList_add1_55 rfl ?_
    obtain ⟨j6, hj6a, hj6b, hj6c, w⟩ := w
    obtain ⟨hk7, w⟩ := w
    refine aw_aastore j6 hk5 hk7 hj6a hj6b hj6c d_ArrayList_add1_56 ?_
    refine aw_aload_n (x := a0) d_ArrayList_add1_57 rfl ?_
    refine aw_iload_n (x := ((zup I a0 0 ((I a0 0) + (1 : Int32))) a0 2)) d_ArrayList_add1_58 rfl ?_
    refine aw_iconst (v := (1 : Int32)) d_ArrayList_add1_59 (by decide) ?_
    refine aw_iadd d_ArrayList_add1_60 ?_
    refine pf_ArrayList_48 rfl hk1 d_ArrayList_add1_61 ?_
    exact aw_return rfl d_ArrayList_add1_64 w
  · replace w := w.2 cc4
    refine aw_aload_n (x := a0) d_ArrayList_add1_32 rfl ?_
    obtain ⟨c1, s1, c2, s2, hq1, hq2, w⟩ := w
    exact aw_room hq1 hq2 (aw_weak (lv' := [some (.ref a0), some (.int x1), some (.ref a2), some (.int ((zup I a0 0 ((I a0 0) + (1 : Int32))) a0 2)), none]) ⟨rfl, rfl, rfl, rfl, trivial⟩ (aw_callV (M' := m_ArrayList_grow) (lv0 := [some (.ref a0)]) (As := []) (rest := []) 9 464 466 467 rfl (by decide) rfl hk1 tb_464 tb_466 tb_467 (fun U hU => hU.p 11 rfl) rfl rfl 0 0 rfl rfl ⟨by decide, by decide, by decide +kernel, by decide +kernel, by decide, by decide⟩ (Nat.le_of_ble_eq_true rfl) ⟨rfl, trivial⟩ rfl d_ArrayList_add1_33 w))
set_option maxRecDepth 20000 in
theorem r_ArrayList_add1_36 {E : zE} {K n : Nat → Nat} {I : Nat → Nat → Int32} {F : Nat → Nat → Option Nat} {J : Nat → Nat → Int64} {cb sb : Nat} {Q : zO → zH → Prop} {a0 : Nat} {x1 : Int32} {a2 : Nat} {x3 : Int32} {sa0 : Nat}
    (w : K sa0 = 23 ∧ (∃ cs cd cN : Nat, x1 = nI cs ∧ (x1 + (1 : Int32)) = nI cd ∧ (x3 - x1) = nI cN ∧ cs + cN ≤ n sa0 ∧ cd + cN ≤ n sa0 ∧ n sa0 ≤ 100000 ∧ n sa0 ≤ 100000 ∧ (∀ i, i < cN → ∀ v, F sa0 (cs + i) = some v → zEl (K v)) ∧ (∃ j2 : Nat, x1 = nI j2 ∧ j2 < n sa0 ∧ j2 < 2147483648 ∧ zEl (K a2) ∧ K a0 = 10 ∧ Q (.inl none) (K, n, (zup I a0 2 (x3 + (1 : Int32))), (zup (va_up F sa0 (va_cpy (F sa0) (F sa0) cs cd cN)) sa0 j2 (some a2)), J)))) :
    AW E m_ArrayList_add1 (K, n, I, F, J) cb sb Q 36 [some (.ref a0), some (.int x1), some (.ref a2), some (.int x3), none] [.ref sa0] := by
  refine aw_astore d_ArrayList_add1_36 (by decide) ?_
  refine aw_aload (x := sa0) d_ArrayList_add1_38 rfl ?_
  refine aw_iload_n (x := x1) d_ArrayList_add1_40 rfl ?_
  refine aw_aload (x := sa0) d_ArrayList_add1_41 rfl ?_
  refine aw_iload_n (x := x1) d_ArrayList_add1_43 rfl ?_
  refine aw_iconst (v := (1 : Int32)) d_ArrayList_add1_44 (by decide) ?_
  refine aw_iadd d_ArrayList_add1_45 ?_
  refine aw_iload_n (x := x3) d_ArrayList_add1_46 rfl ?_
  refine aw_iload_n (x := x1) d_ArrayList_add1_47 rfl ?_
  refine aw_isub d_ArrayList_add1_48 ?_
  obtain ⟨hk1, w⟩ := w
  obtain ⟨cs, cd, cN, hq1, hq2, hq3, hq4, hq5, hq6, hq7, hq8, w⟩ := w
  refine aw_copyR cs cd cN 672 tb_672 hk1 hk1 hq1 hq2 hq3 hq4 hq5 hq6 hq7 hq8 (by decide) (Nat.le_of_ble_eq_true rfl) d_ArrayList_add1_49 ?_
  refine aw_aload (x := sa0) d_ArrayList_add1_52 rfl ?_
  refine aw_iload_n (x := x1) d_ArrayList_add1_54 rfl ?_
  refine aw_aload_n (x := a2) d_ArrayList_add1_55 rfl ?_
  obtain ⟨j2, hj2a, hj2b, hj2c, w⟩ := w
  obtain ⟨hk3, w⟩ := w
  refine aw_aastore j2 hk1 hk3 hj2a hj2b hj2c d_ArrayList_add1_56 ?_
  refine aw_aload_n (x := a0) d_ArrayList_add1_57 rfl ?_
  refine aw_iload_n (x := x3) d_ArrayList_add1_58 rfl ?_
  refine aw_iconst (v := (1 : Int32)) d_ArrayList_add1_59 (by decide) ?_
  refine aw_iadd d_ArrayList_add1_60 ?_
  obtain ⟨hk4, w⟩ := w
  refine pf_ArrayList_48 rfl hk4 d_ArrayList_add1_61 ?_
  exact aw_return rfl d_ArrayList_add1_64 w
set_option maxRecDepth 20000 in
theorem r_ArrayList_clear_0 {E : zE} {K n : Nat → Nat} {I : Nat → Nat → Int32} {F : Nat → Nat → Option Nat} {J : Nat → Nat → Int64} {cb sb : Nat} {Q : zO → zH → Prop} {a0 : Nat}
    (w : K a0 = 10 ∧ (∃ b2 : Nat, F a0 1 = some b2 ∧ AW E m_ArrayList_clear (K, n, (zup (zup I a0 0 ((I a0 0) + (1 : Int32))) a0 2 (0 : Int32)), F, J) cb sb Q 27 [none, some (.ref b2), some (.int ((zup I a0 0 ((I a0 0) + (1 : Int32))) a0 2)), some (.int (0 : Int32))] [])) :
    AW E m_ArrayList_clear (K, n, I, F, J) cb sb Q 0 [some (.ref a0), none, none, none] [] := by
  refine aw_aload_n (x := a0) d_ArrayList_clear_0 rfl ?_
  refine aw_dup d_ArrayList_clear_1 rfl ?_
  obtain ⟨hk1, w⟩ := w
  refine gf_ArrayList_63 rfl hk1 d_ArrayList_clear_2 ?_
  refine aw_iconst (v := (1 : Int32)) d_ArrayList_clear_5 (by decide) ?_
  refine aw_iadd d_ArrayList_clear_6 ?_
  refine pf_ArrayList_63 rfl hk1 d_ArrayList_clear_7 ?_
  refine aw_aload_n (x := a0) d_ArrayList_clear_10 rfl ?_
  obtain ⟨b2, hb2, w⟩ := w
  refine gs_ArrayList_9 rfl hk1 hb2 d_ArrayList_clear_11 ?_
  refine aw_astore_n d_ArrayList_clear_14 (by decide) ?_
  refine aw_aload_n (x := a0) d_ArrayList_clear_15 rfl ?_
  refine gf_ArrayList_48 rfl hk1 d_ArrayList_clear_16 ?_
  refine aw_istore_n d_ArrayList_clear_19 (by decide) ?_
  refine aw_aload_n (x := a0) d_ArrayList_clear_20 rfl ?_
  refine aw_iconst (v := (0 : Int32)) d_ArrayList_clear_21 (by decide) ?_
  refine aw_dup_x1 d_ArrayList_clear_22 rfl rfl ?_
  refine pf_ArrayList_48 rfl hk1 d_ArrayList_clear_23 ?_
  refine aw_istore_n d_ArrayList_clear_26 (by decide) ?_
  exact aw_weak (lv' := [none, some (.ref b2), some (.int ((zup I a0 0 ((I a0 0) + (1 : Int32))) a0 2)), some (.int (0 : Int32))]) ⟨rfl, rfl, rfl, trivial⟩ w
set_option maxRecDepth 20000 in
theorem r_ArrayList_clear_27 {E : zE} {K n : Nat → Nat} {I : Nat → Nat → Int32} {F : Nat → Nat → Option Nat} {J : Nat → Nat → Int64} {cb sb : Nat} {Q : zO → zH → Prop} {a1 : Nat} {x2 : Int32} {x3 : Int32}
    (w : ((x2 ≤ x3 → Q (.inl none) (K, n, I, F, J)) ∧ (¬ x2 ≤ x3 → K a1 = 23 ∧ (∃ j3 : Nat, x3 = nI j3 ∧ j3 < n a1 ∧ j3 < 2147483648 ∧ AW E m_ArrayList_clear (K, n, I, (zup F a1 j3 none), J) cb sb Q 27 [none, some (.ref a1), some (.int x2), some (.int (x3 + (1 : Int32)))] [])))) :
    AW E m_ArrayList_clear (K, n, I, F, J) cb sb Q 27 [none, some (.ref a1), some (.int x2), some (.int x3)] [] := by
  refine aw_iload_n (x := x3) d_ArrayList_clear_27 rfl ?_
  refine aw_iload_n (x := x2) d_ArrayList_clear_28 rfl ?_
  refine aw_icmp_ge (tgt := 42) d_ArrayList_clear_29 (by decide) (fun cc1 => ?_) (fun cc1 => ?_)
  · replace w := w.1 cc1
    exact aw_return rfl d_ArrayList_clear_42 w
  · replace w := w.2 cc1
    refine aw_aload_n (x := a1) d_ArrayList_clear_32 rfl ?_
    refine aw_iload_n (x := x3) d_ArrayList_clear_33 rfl ?_
    refine aw_null d_ArrayList_clear_34 ?_
    obtain ⟨hk2, w⟩ := w
    obtain ⟨j3, hj3a, hj3b, hj3c, w⟩ := w
    refine aw_aastoreN j3 hk2 hj3a hj3b hj3c d_ArrayList_clear_35 ?_
    refine aw_iinc (v := (x3 + (1 : Int32))) d_ArrayList_clear_36 rfl (by rfl) (by decide) ?_
    refine aw_goto (tgt := 27) d_ArrayList_clear_39 (by decide) ?_
    exact aw_weak (lv' := [none, some (.ref a1), some (.int x2), some (.int (x3 + (1 : Int32)))]) ⟨rfl, rfl, rfl, trivial⟩ w
set_option maxRecDepth 20000 in
theorem r_ArrayList_rangeCheckForAdd_0 {E : zE} {K n : Nat → Nat} {I : Nat → Nat → Int32} {F : Nat → Nat → Option Nat} {J : Nat → Nat → Int64} {cb sb : Nat} {Q : zO → zH → Prop} {a0 : Nat} {x1 : Int32}
    (w : K a0 = 10 ∧ (((I a0 2) < x1 → False) ∧ (¬ (I a0 2) < x1 → ((0 ≤ x1 → Q (.inl none) (K, n, I, F, J)) ∧ (¬ 0 ≤ x1 → False))))) :
    AW E m_ArrayList_rangeCheckForAdd (K, n, I, F, J) cb sb Q 0 [some (.ref a0), some (.int x1)] [] := by
  refine aw_iload_n (x := x1) d_ArrayList_rangeCheckForAdd_0 rfl ?_
  refine aw_aload_n (x := a0) d_ArrayList_rangeCheckForAdd_1 rfl ?_
  obtain ⟨hk1, w⟩ := w
  refine gf_ArrayList_48 rfl hk1 d_ArrayList_rangeCheckForAdd_2 ?_
  refine aw_icmp_gt (tgt := 12) d_ArrayList_rangeCheckForAdd_5 (by decide) (fun cc2 => ?_) (fun cc2 => ?_)
  · replace w := w.1 cc2
    exact w.elim
  · replace w := w.2 cc2
    refine aw_iload_n (x := x1) d_ArrayList_rangeCheckForAdd_8 rfl ?_
    refine aw_if_ge (tgt := 25) d_ArrayList_rangeCheckForAdd_9 (by decide) (fun cc3 => ?_) (fun cc3 => ?_)
    · replace w := w.1 cc3
      exact aw_return rfl d_ArrayList_rangeCheckForAdd_25 w
    · replace w := w.2 cc3
      exact w.elim
set_option maxRecDepth 20000 in
theorem r_Arrays_fill_0 {E : zE} {K n : Nat → Nat} {I : Nat → Nat → Int32} {F : Nat → Nat → Option Nat} {J : Nat → Nat → Int64} {cb sb : Nat} {Q : zO → zH → Prop} {a0 : Nat} {x1 : Int32}
    (w : (20 ≤ K a0 ∧ K a0 ≤ 23) ∧ AW E m_Arrays_fill (K, n, I, F, J) cb sb Q 5 [some (.ref a0), some (.int x1), some (.int (0 : Int32)), some (.int (nI (n a0)))] []) :
    AW E m_Arrays_fill (K, n, I, F, J) cb sb Q 0 [some (.ref a0), some (.int x1), none, none] [] := by
  refine aw_iconst (v := (0 : Int32)) d_Arrays_fill_0 (by decide) ?_
  refine aw_istore_n d_Arrays_fill_1 (by decide) ?_
  refine aw_aload_n (x := a0) d_Arrays_fill_2 rfl ?_
  obtain ⟨hk1, w⟩ := w
  refine aw_alen hk1.1 hk1.2 d_Arrays_fill_3 ?_
  refine aw_istore_n d_Arrays_fill_4 (by decide) ?_
  exact aw_weak (lv' := [some (.ref a0), some (.int x1), some (.int (0 : Int32)), some (.int (nI (n a0)))]) ⟨rfl, rfl, rfl, rfl, trivial⟩ w
set_option maxRecDepth 20000 in
theorem r_Arrays_fill_5 {E : zE} {K n : Nat → Nat} {I : Nat → Nat → Int32} {F : Nat → Nat → Option Nat} {J : Nat → Nat → Int64} {cb sb : Nat} {Q : zO → zH → Prop} {a0 : Nat} {x1 : Int32} {x2 : Int32} {x3 : Int32}
    (w : ((x3 ≤ x2 → Q (.inl none) (K, n, I, F, J)) ∧ (¬ x3 ≤ x2 → K a0 = 20 ∧ (∃ j3 : Nat, x2 = nI j3 ∧ j3 < n a0 ∧ j3 < 2147483648 ∧ AW E m_Arrays_fill (K, n, (zup I a0 j3 x1.toInt8.toInt32), F, J) cb sb Q 5 [some (.ref a0), some (.int x1), some (.int (x2 + (1 : Int32))), some (.int x3)] [])))) :
    AW E m_Arrays_fill (K, n, I, F, J) cb sb Q 5 [some (.ref a0), some (.int x1), some (.int x2), some (.int x3)] [] := by
  refine aw_iload_n (x := x2) d_Arrays_fill_5 rfl ?_
  refine aw_iload_n (x := x3) d_Arrays_fill_6 rfl ?_
  refine aw_icmp_ge (tgt := 20) d_Arrays_fill_7 (by decide) (fun cc1 => ?_) (fun cc1 => ?_)
  · replace w := w.1 cc1
    exact aw_return rfl d_Arrays_fill_20 w
  · replace w := w.2 cc1
    refine aw_aload_n (x := a0) d_Arrays_fill_10 rfl ?_
    refine aw_iload_n (x := x2) d_Arrays_fill_11 rfl ?_
    refine aw_iload_n (x := x1) d_Arrays_fill_12 rfl ?_
    obtain ⟨hk2, w⟩ := w
    obtain ⟨j3, hj3a, hj3b, hj3c, w⟩ := w
    refine aw_bastore j3 hk2 hj3a hj3b hj3c d_Arrays_fill_13 ?_
    refine aw_iinc (v := (x2 + (1 : Int32))) d_Arrays_fill_14 rfl (by rfl) (by decide) ?_
    refine aw_goto (tgt := 5) d_Arrays_fill_17 (by decide) ?_
    exact aw_weak (lv' := [some (.ref a0), some (.int x1), some (.int (x2 + (1 : Int32))), some (.int x3)]) ⟨rfl, rfl, rfl, rfl, trivial⟩ w
set_option maxRecDepth 20000 in
theorem r_Arrays_copyOf_0 {E : zE} {K n : Nat → Nat} {I : Nat → Nat → Int32} {F : Nat → Nat → Option Nat} {J : Nat → Nat → Int64} {cb sb : Nat} {Q : zO → zH → Prop} {a0 : Nat} {x1 : Int32}
    (w : K a0 = 23 ∧ (∃ c1 s1 c2 s2 : Nat, c1 + c2 ≤ cb ∧ s1 + s2 ≤ sb ∧ AW E m_Arrays_copyOf1 (K, n, I, F, J) c1 s1 (zAft E m_Arrays_copyOf c2 s2 Q 6 [none, none] []) 0 [some (.ref a0), some (.int x1), some (.ref (E.2.1 13)), none] [])) :
    AW E m_Arrays_copyOf (K, n, I, F, J) cb sb Q 0 [some (.ref a0), some (.int x1)] [] := by
  refine aw_aload_n (x := a0) d_Arrays_copyOf_0 rfl ?_
  refine aw_iload_n (x := x1) d_Arrays_copyOf_1 rfl ?_
  refine aw_aload_n (x := a0) d_Arrays_copyOf_2 rfl ?_
  obtain ⟨hk1, w⟩ := w
  refine aw_getClass 485 tb_485 hk1 (by decide) (Nat.le_of_ble_eq_true rfl) d_Arrays_copyOf_3 ?_
  obtain ⟨c1, s1, c2, s2, hq1, hq2, w⟩ := w
  exact aw_room hq1 hq2 (aw_weak (lv' := [none, none]) trivial (aw_callS (M' := m_Arrays_copyOf1) (lv0 := [some (.ref a0), some (.int x1), some (.ref (E.2.1 13)), none]) (As := [.ref a0, .int x1, .ref (E.2.1 13)]) (rest := []) 502 503 504 23 tb_502 tb_503 tb_504 tb_23 rfl rfl 3 0 rfl rfl ⟨by decide, by decide, by decide +kernel, by decide +kernel, by decide, by decide⟩ (Nat.le_of_ble_eq_true rfl) ⟨rfl, rfl, rfl, trivial⟩ rfl d_Arrays_copyOf_6 w))
set_option maxRecDepth 20000 in
theorem r_Arrays_copyOf_9 {E : zE} {K n : Nat → Nat} {I : Nat → Nat → Int32} {F : Nat → Nat → Option Nat} {J : Nat → Nat → Int64} {cb sb : Nat} {Q : zO → zH → Prop} {sa0 : Nat}
    (w : Q (.inl (some (.ref sa0))) (K, n, I, F, J)) :
    AW E m_Arrays_copyOf (K, n, I, F, J) cb sb Q 9 [none, none] [.ref sa0] := by
  exact aw_areturn (r := (some sa0)) _ rfl rfl d_Arrays_copyOf_9 w
set_option maxRecDepth 20000 in
theorem r_Arrays_copyOf1_0 {E : zE} {K n : Nat → Nat} {I : Nat → Nat → Int32} {F : Nat → Nat → Option Nat} {J : Nat → Nat → Int64} {cb sb : Nat} {Q : zO → zH → Prop} {a0 : Nat} {x1 : Int32} {a2 : Nat}
    (w : ((¬ (some a2) = (some (E.2.1 13)) → False) ∧ ((some a2) = (some (E.2.1 13)) → (∃ NN : Nat, x1 = nI NN ∧ NN ≤ 100000 ∧ (∃ cb9 sb9 : Nat, cb9 + 1 ≤ cb ∧ sb9 + NN ≤ sb ∧ ∀ q : Nat, K q = 0 → AW E m_Arrays_copyOf1 ((va_up K q 23), (va_up n q NN), I, (va_up F q (fun _ => none)), J) cb9 sb9 Q 10 [some (.ref a0), some (.int x1), none, none] [.ref q]))))) :
    AW E m_Arrays_copyOf1 (K, n, I, F, J) cb sb Q 0 [some (.ref a0), some (.int x1), some (.ref a2), none] [] := by
  refine aw_aload_n (x := a2) d_Arrays_copyOf1_0 rfl ?_
  refine aw_ldcM 505 tb_505 d_Arrays_copyOf1_1 ?_
  refine aw_acmp_ne (rx := (some a2)) (ry := (some (E.2.1 13))) (tgt := 13) d_Arrays_copyOf1_3 (by decide) (fun cc1 => ?_) (fun cc1 => ?_)
  · replace w := w.1 cc1
    exact w.elim
  · replace w := w.2 cc1
    refine aw_iload_n (x := x1) d_Arrays_copyOf1_6 rfl ?_
    obtain ⟨NN, hNa, hNb, cb9, sb9, hq1, hq2, w⟩ := w
    exact aw_room hq1 hq2 (aw_weak (lv' := [some (.ref a0), some (.int x1), none, none]) ⟨rfl, rfl, trivial⟩ (aw_newR NN hNa hNb 507 506 tb_507 tb_506 d_Arrays_copyOf1_7 w))
set_option maxRecDepth 20000 in
theorem r_Arrays_copyOf1_10 {E : zE} {K n : Nat → Nat} {I : Nat → Nat → Int32} {F : Nat → Nat → Option Nat} {J : Nat → Nat → Int64} {cb sb : Nat} {Q : zO → zH → Prop} {a0 : Nat} {x1 : Int32} {sa0 : Nat}
    (w : (∃ j1 : Nat, zlen E K n a0 j1 ∧ AW E m_Math_min (K, n, I, F, J) 0 0 (zAft E m_Arrays_copyOf1 cb sb Q 32 [none, none, none, some (.ref sa0)] [.int (0 : Int32), .ref sa0, .int (0 : Int32), .ref a0]) 0 [some (.int (nI j1)), some (.int x1)] [])) :
    AW E m_Arrays_copyOf1 (K, n, I, F, J) cb sb Q 10 [some (.ref a0), some (.int x1), none, none] [.ref sa0] := by
  refine aw_goto (tgt := 24) d_Arrays_copyOf1_10 (by decide) ?_
  refine aw_astore_n d_Arrays_copyOf1_24 (by decide) ?_
  refine aw_aload_n (x := a0) d_Arrays_copyOf1_25 rfl ?_
  refine aw_iconst (v := (0 : Int32)) d_Arrays_copyOf1_26 (by decide) ?_
  refine aw_aload_n (x := sa0) d_Arrays_copyOf1_27 rfl ?_
  refine aw_iconst (v := (0 : Int32)) d_Arrays_copyOf1_28 (by decide) ?_
  refine aw_aload_n (x := a0) d_Arrays_copyOf1_29 rfl ?_
  obtain ⟨j1, hj1, w⟩ := w
  refine aw_alenZ hj1 d_Arrays_copyOf1_30 ?_
  refine aw_iload_n (x := x1) d_Arrays_copyOf1_31 rfl ?_
  exact aw_room (cb' := 0 + cb) (sb' := 0 + sb) (by omega) (by omega) (aw_weak (lv' := [none, none, none, some (.ref sa0)]) ⟨rfl, trivial⟩ (aw_callS (M' := m_Math_min) (lv0 := [some (.int (nI j1)), some (.int x1)]) (As := [.int (nI j1), .int x1]) (rest := [.int (0 : Int32), .ref sa0, .int (0 : Int32), .ref a0]) 508 221 222 10 tb_508 tb_221 tb_222 tb_10 rfl rfl 2 4 rfl rfl ⟨by decide, by decide, by decide +kernel, by decide +kernel, by decide, by decide⟩ (Nat.le_of_ble_eq_true rfl) ⟨rfl, rfl, trivial⟩ rfl d_Arrays_copyOf1_32 w))
set_option maxRecDepth 20000 in
theorem r_Arrays_copyOf1_35 {E : zE} {K n : Nat → Nat} {I : Nat → Nat → Int32} {F : Nat → Nat → Option Nat} {J : Nat → Nat → Int64} {cb sb : Nat} {Q : zO → zH → Prop} {a3 : Nat} {sa0 : Nat} {sx1 : Int32} {sa2 : Nat} {sx3 : Int32} {sx4 : Int32}
    (w : K sa0 = 23 ∧ K sa2 = 23 ∧ (∃ cs cd cN : Nat, sx1 = nI cs ∧ sx3 = nI cd ∧ sx4 = nI cN ∧ cs + cN ≤ n sa0 ∧ cd + cN ≤ n sa2 ∧ n sa0 ≤ 100000 ∧ n sa2 ≤ 100000 ∧ (∀ i, i < cN → ∀ v, F sa0 (cs + i) = some v → zEl (K v)) ∧ Q (.inl (some (.ref a3))) (K, n, I, (va_up F sa2 (va_cpy (F sa0) (F sa2) cs cd cN)), J))) :
    AW E m_Arrays_copyOf1 (K, n, I, F, J) cb sb Q 35 [none, none, none, some (.ref a3)] [.int sx4, .int sx3, .ref sa2, .int sx1, .ref sa0] := by
  obtain ⟨hk1, w⟩ := w
  obtain ⟨hk2, w⟩ := w
  obtain ⟨cs, cd, cN, hq1, hq2, hq3, hq4, hq5, hq6, hq7, hq8, w⟩ := w
  refine aw_copyR cs cd cN 509 tb_509 hk1 hk2 hq1 hq2 hq3 hq4 hq5 hq6 hq7 hq8 (by decide) (Nat.le_of_ble_eq_true rfl) d_Arrays_copyOf1_35 ?_
  refine aw_aload_n (x := a3) d_Arrays_copyOf1_38 rfl ?_
  exact aw_areturn (r := (some a3)) _ rfl rfl d_Arrays_copyOf1_39 w
set_option maxRecDepth 20000 in
theorem r_Objects_checkIndex_0 {E : zE} {K n : Nat → Nat} {I : Nat → Nat → Int32} {F : Nat → Nat → Option Nat} {J : Nat → Nat → Int64} {cb sb : Nat} {Q : zO → zH → Prop} {x0 : Int32} {x1 : Int32}
    (w : AW E m_Preconditions_checkIndex (K, n, I, F, J) 0 0 (zAft E m_Objects_checkIndex cb sb Q 3 [none, none] []) 0 [some (.int x0), some (.int x1), none] []) :
    AW E m_Objects_checkIndex (K, n, I, F, J) cb sb Q 0 [some (.int x0), some (.int x1)] [] := by
  refine aw_iload_n (x := x0) d_Objects_checkIndex_0 rfl ?_
  refine aw_iload_n (x := x1) d_Objects_checkIndex_1 rfl ?_
  refine aw_null d_Objects_checkIndex_2 ?_
  exact aw_room (cb' := 0 + cb) (sb' := 0 + sb) (by omega) (by omega) (aw_weak (lv' := [none, none]) trivial (aw_callS (M' := m_Preconditions_checkIndex) (lv0 := [some (.int x0), some (.int x1), none]) (As := [.int x0, .int x1, va_rf none]) (rest := []) 596 292 293 13 tb_596 tb_292 tb_293 tb_13 rfl rfl 3 0 rfl rfl ⟨by decide, by decide, by decide +kernel, by decide +kernel, by decide, by decide⟩ (Nat.le_of_ble_eq_true rfl) ⟨rfl, rfl, trivial⟩ rfl d_Objects_checkIndex_3 w))
set_option maxRecDepth 20000 in
theorem r_Objects_checkIndex_6 {E : zE} {K n : Nat → Nat} {I : Nat → Nat → Int32} {F : Nat → Nat → Option Nat} {J : Nat → Nat → Int64} {cb sb : Nat} {Q : zO → zH → Prop} {sx0 : Int32}
    (w : Q (.inl (some (.int sx0))) (K, n, I, F, J)) :
    AW E m_Objects_checkIndex (K, n, I, F, J) cb sb Q 6 [none, none] [.int sx0] := by
  exact aw_ireturn .int rfl rfl d_Objects_checkIndex_6 w
set_option maxRecDepth 20000 in
theorem r_ArraysSupport_newLength_0 {E : zE} {K n : Nat → Nat} {I : Nat → Nat → Int32} {F : Nat → Nat → Option Nat} {J : Nat → Nat → Int64} {cb sb : Nat} {Q : zO → zH → Prop} {x0 : Int32} {x1 : Int32} {x2 : Int32}
    (w : AW E m_Math_max (K, n, I, F, J) 0 0 (zAft E m_ArraysSupport_newLength cb sb Q 3 [none, none, none, none] [.int x0]) 0 [some (.int x1), some (.int x2)] []) :
    AW E m_ArraysSupport_newLength (K, n, I, F, J) cb sb Q 0 [some (.int x0), some (.int x1), some (.int x2), none] [] := by
  refine aw_iload_n (x := x0) d_ArraysSupport_newLength_0 rfl ?_
  refine aw_iload_n (x := x1) d_ArraysSupport_newLength_1 rfl ?_
  refine aw_iload_n (x := x2) d_ArraysSupport_newLength_2 rfl ?_
  exact aw_room (cb' := 0 + cb) (sb' := 0 + sb) (by omega) (by omega) (aw_weak (lv' := [none, none, none, none]) trivial (aw_callS (M' := m_Math_max) (lv0 := [some (.int x1), some (.int x2)]) (As := [.int x1, .int x2]) (rest := [.int x0]) 475 476 477 10 tb_475 tb_476 tb_477 tb_10 rfl rfl 2 1 rfl rfl ⟨by decide, by decide, by decide +kernel, by decide +kernel, by decide, by decide⟩ (Nat.le_of_ble_eq_true rfl) ⟨rfl, rfl, trivial⟩ rfl d_ArraysSupport_newLength_3 w))
set_option maxRecDepth 20000 in
theorem r_ArraysSupport_newLength_6 {E : zE} {K n : Nat → Nat} {I : Nat → Nat → Int32} {F : Nat → Nat → Option Nat} {J : Nat → Nat → Int64} {cb sb : Nat} {Q : zO → zH → Prop} {sx0 : Int32} {sx1 : Int32}
    (w : (((sx0 + sx1) ≤ (0 : Int32) → False) ∧ (¬ (sx0 + sx1) ≤ (0 : Int32) → (((2147483639 : Int32) < (sx0 + sx1) → False) ∧ (¬ (2147483639 : Int32) < (sx0 + sx1) → Q (.inl (some (.int (sx0 + sx1)))) (K, n, I, F, J)))))) :
    AW E m_ArraysSupport_newLength (K, n, I, F, J) cb sb Q 6 [none, none, none, none] [.int sx1, .int sx0] := by
  refine aw_iadd d_ArraysSupport_newLength_6 ?_
  refine aw_istore_n d_ArraysSupport_newLength_7 (by decide) ?_
  refine aw_iconst (v := (0 : Int32)) d_ArraysSupport_newLength_8 (by decide) ?_
  refine aw_iload_n (x := (sx0 + sx1)) d_ArraysSupport_newLength_9 rfl ?_
  refine aw_icmp_ge (tgt := 21) d_ArraysSupport_newLength_10 (by decide) (fun cc1 => ?_) (fun cc1 => ?_)
  · replace w := w.1 cc1
    exact w.elim
  · replace w := w.2 cc1
    refine aw_iload_n (x := (sx0 + sx1)) d_ArraysSupport_newLength_13 rfl ?_
    refine aw_ldc (v := 2147483639) 478 tb_478 d_ArraysSupport_newLength_14 ?_
    refine aw_icmp_gt (tgt := 21) d_ArraysSupport_newLength_16 (by decide) (fun cc2 => ?_) (fun cc2 => ?_)
    · replace w := w.1 cc2
      exact w.elim
    · replace w := w.2 cc2
      refine aw_iload_n (x := (sx0 + sx1)) d_ArraysSupport_newLength_19 rfl ?_
      exact aw_ireturn .int rfl rfl d_ArraysSupport_newLength_20 w
set_option maxRecDepth 20000 in
theorem r_Preconditions_checkIndex_0 {E : zE} {K n : Nat → Nat} {I : Nat → Nat → Int32} {F : Nat → Nat → Option Nat} {J : Nat → Nat → Int64} {cb sb : Nat} {Q : zO → zH → Prop} {x0 : Int32} {x1 : Int32}
    (w : ((x0 < 0 → False) ∧ (¬ x0 < 0 → ((x0 < x1 → Q (.inl (some (.int x0))) (K, n, I, F, J)) ∧ (¬ x0 < x1 → False))))) :
    AW E m_Preconditions_checkIndex (K, n, I, F, J) cb sb Q 0 [some (.int x0), some (.int x1), none] [] := by
  refine aw_iload_n (x := x0) d_Preconditions_checkIndex_0 rfl ?_
  refine aw_if_lt (tgt := 9) d_Preconditions_checkIndex_1 (by decide) (fun cc1 => ?_) (fun cc1 => ?_)
  · replace w := w.1 cc1
    exact w.elim
  · replace w := w.2 cc1
    refine aw_iload_n (x := x0) d_Preconditions_checkIndex_4 rfl ?_
    refine aw_iload_n (x := x1) d_Preconditions_checkIndex_5 rfl ?_
    refine aw_icmp_lt (tgt := 16) d_Preconditions_checkIndex_6 (by decide) (fun cc2 => ?_) (fun cc2 => ?_)
    · replace w := w.1 cc2
      refine aw_iload_n (x := x0) d_Preconditions_checkIndex_16 rfl ?_
      exact aw_ireturn .int rfl rfl d_Preconditions_checkIndex_17 w
    · replace w := w.2 cc2
      exact w.elim
