set_option maxRecDepth 20000 in
theorem r_Key_init_0 {E : zE} {K n : Nat → Nat} {I : Nat → Nat → Int32} {F : Nat → Nat → Option Nat} {J : Nat → Nat → Int64} {cb sb : Nat} {Q : zO → zH → Prop} {a0 : Nat} {a1 : Nat} {x2 : Int32} {x3 : Int32}
    (w : K a0 = 1 ∧ (x2 = 0 ∨ x2 = 1) ∧ (x3 = 0 ∨ x3 = 1) ∧ Q (.inl none) (K, n, (zup (zup I a0 1 x2) a0 2 x3), (zup F a0 0 (some a1)), J)) :
    AW E m_Key_init (K, n, I, F, J) cb sb Q 0 [some (.ref a0), some (.ref a1), some (.int x2), some (.int x3)] [] := by
  refine aw_aload_n (x := a0) d_Key_init_0 rfl ?_
  refine aw_objInit 440 tb_440 (by decide) (by decide) d_Key_init_1 ?_
  refine aw_aload_n (x := a0) d_Key_init_4 rfl ?_
  refine aw_aload_n (x := a1) d_Key_init_5 rfl ?_
  obtain ⟨hk1, w⟩ := w
  refine pf_Key_7 (r := (some a1)) rfl hk1 rfl d_Key_init_6 ?_
  refine aw_aload_n (x := a0) d_Key_init_9 rfl ?_
  refine aw_iload_n (x := x2) d_Key_init_10 rfl ?_
  obtain ⟨hz2, w⟩ := w
  refine pf_Key_13 rfl hk1 hz2 rfl d_Key_init_11 ?_
  refine aw_aload_n (x := a0) d_Key_init_14 rfl ?_
  refine aw_iload_n (x := x3) d_Key_init_15 rfl ?_
  obtain ⟨hz3, w⟩ := w
  refine pf_Key_17 rfl hk1 hz3 rfl d_Key_init_16 ?_
  exact aw_return rfl d_Key_init_19 w
set_option maxRecDepth 20000 in
theorem r_Part_init_0 {E : zE} {K n : Nat → Nat} {I : Nat → Nat → Int32} {F : Nat → Nat → Option Nat} {J : Nat → Nat → Int64} {cb sb : Nat} {Q : zO → zH → Prop} {a0 : Nat} {r1 : Option Nat} {x2 : Int32} {x3 : Int32}
    (w : K a0 = 2 ∧ Q (.inl none) (K, n, (zup (zup I a0 1 x2) a0 2 x3), (zup F a0 0 r1), J)) :
    AW E m_Part_init (K, n, I, F, J) cb sb Q 0 [some (.ref a0), some (va_rf r1), some (.int x2), some (.int x3)] [] := by
  refine aw_aload_n (x := a0) d_Part_init_0 rfl ?_
  refine aw_objInit 421 tb_421 (by decide) (by decide) d_Part_init_1 ?_
  refine aw_aload_n (x := a0) d_Part_init_4 rfl ?_
  refine aw_aload_nR (r := r1) d_Part_init_5 (by first | rfl | (cases r1 <;> rfl)) ?_
  obtain ⟨hk1, w⟩ := w
  refine pf_Part_9 (r := r1) rfl hk1 rfl d_Part_init_6 ?_
  refine aw_aload_n (x := a0) d_Part_init_9 rfl ?_
  refine aw_iload_n (x := x2) d_Part_init_10 rfl ?_
  refine pf_Part_15 rfl hk1 rfl d_Part_init_11 ?_
  refine aw_aload_n (x := a0) d_Part_init_14 rfl ?_
  refine aw_iload_n (x := x3) d_Part_init_15 rfl ?_
  refine pf_Part_19 rfl hk1 rfl d_Part_init_16 ?_
  exact aw_return rfl d_Part_init_19 w
set_option maxRecDepth 20000 in
theorem r_Part_ofField_0 {E : zE} {K n : Nat → Nat} {I : Nat → Nat → Int32} {F : Nat → Nat → Option Nat} {J : Nat → Nat → Int64} {cb sb : Nat} {Q : zO → zH → Prop} {x0 : Int32} {x1 : Int32}
    (w : (∃ cb9 sb9 : Nat, cb9 + 1 ≤ cb ∧ sb9 + 3 ≤ sb ∧ ∀ q : Nat, K q = 0 → AW E m_Part_ofField ((va_up K q 2), n, (va_up I q (fun _ => 0)), (va_up F q (fun _ => none)), J) cb9 sb9 Q 3 [some (.int x0), some (.int x1)] [.ref q])) :
    AW E m_Part_ofField (K, n, I, F, J) cb sb Q 0 [some (.int x0), some (.int x1)] [] := by
  obtain ⟨cb9, sb9, hq1, hq2, w⟩ := w
  exact aw_room hq1 hq2 (aw_weak (lv' := [some (.int x0), some (.int x1)]) ⟨rfl, rfl, trivial⟩ (aw_new 1 (T := zt_Part) zy_Part rfl (by decide) zin_Part zyo_Part 416 417 20 tb_416 tb_417 tb_20 (by decide) d_Part_ofField_0 w))
set_option maxRecDepth 20000 in
theorem r_Part_ofField_3 {E : zE} {K n : Nat → Nat} {I : Nat → Nat → Int32} {F : Nat → Nat → Option Nat} {J : Nat → Nat → Int64} {cb sb : Nat} {Q : zO → zH → Prop} {x0 : Int32} {x1 : Int32} {sa0 : Nat}
    (w : AW E m_Part_init (K, n, I, F, J) 0 0 (zAft E m_Part_ofField cb sb Q 9 [none, none] [.ref sa0]) 0 [some (.ref sa0), some (va_rf none), some (.int (x0 - (1 : Int32))), some (.int x1)] []) :
    AW E m_Part_ofField (K, n, I, F, J) cb sb Q 3 [some (.int x0), some (.int x1)] [.ref sa0] := by
  refine aw_dup d_Part_ofField_3 rfl ?_
  refine aw_null d_Part_ofField_4 ?_
  refine aw_iload_n (x := x0) d_Part_ofField_5 rfl ?_
  refine aw_iconst (v := (1 : Int32)) d_Part_ofField_6 (by decide) ?_
  refine aw_isub d_Part_ofField_7 ?_
  refine aw_iload_n (x := x1) d_Part_ofField_8 rfl ?_
  exact aw_room (cb' := 0 + cb) (sb' := 0 + sb) (by omega) (by omega) (aw_weak (lv' := [none, none]) trivial (aw_callI (M' := m_Part_init) (lv0 := [some (.ref sa0), some (va_rf none), some (.int (x0 - (1 : Int32))), some (.int x1)]) (As := [va_rf none, .int (x0 - (1 : Int32)), .int x1]) (rest := [.ref sa0]) 418 419 420 tb_418 tb_419 tb_420 rfl rfl rfl rfl 3 1 rfl rfl ⟨by decide, by decide, by decide +kernel, by decide +kernel, by decide, by decide⟩ (Nat.le_of_ble_eq_true rfl) ⟨rfl, rfl, rfl, rfl, trivial⟩ rfl d_Part_ofField_9 w))
set_option maxRecDepth 20000 in
theorem r_Part_ofField_12 {E : zE} {K n : Nat → Nat} {I : Nat → Nat → Int32} {F : Nat → Nat → Option Nat} {J : Nat → Nat → Int64} {cb sb : Nat} {Q : zO → zH → Prop} {sa0 : Nat}
    (w : Q (.inl (some (.ref sa0))) (K, n, I, F, J)) :
    AW E m_Part_ofField (K, n, I, F, J) cb sb Q 12 [none, none] [.ref sa0] := by
  exact aw_areturn (r := (some sa0)) _ rfl rfl d_Part_ofField_12 w
set_option maxRecDepth 20000 in
theorem r_Part_ofText_0 {E : zE} {K n : Nat → Nat} {I : Nat → Nat → Int32} {F : Nat → Nat → Option Nat} {J : Nat → Nat → Int64} {cb sb : Nat} {Q : zO → zH → Prop} {a0 : Nat}
    (w : (∃ cb9 sb9 : Nat, cb9 + 1 ≤ cb ∧ sb9 + 3 ≤ sb ∧ ∀ q : Nat, K q = 0 → AW E m_Part_ofText ((va_up K q 2), n, (va_up I q (fun _ => 0)), (va_up F q (fun _ => none)), J) cb9 sb9 Q 3 [some (.ref a0)] [.ref q])) :
    AW E m_Part_ofText (K, n, I, F, J) cb sb Q 0 [some (.ref a0)] [] := by
  obtain ⟨cb9, sb9, hq1, hq2, w⟩ := w
  exact aw_room hq1 hq2 (aw_weak (lv' := [some (.ref a0)]) ⟨rfl, trivial⟩ (aw_new 1 (T := zt_Part) zy_Part rfl (by decide) zin_Part zyo_Part 416 417 20 tb_416 tb_417 tb_20 (by decide) d_Part_ofText_0 w))
set_option maxRecDepth 20000 in
theorem r_Part_ofText_3 {E : zE} {K n : Nat → Nat} {I : Nat → Nat → Int32} {F : Nat → Nat → Option Nat} {J : Nat → Nat → Int64} {cb sb : Nat} {Q : zO → zH → Prop} {a0 : Nat} {sa0 : Nat}
    (w : (20 ≤ K a0 ∧ K a0 ≤ 23) ∧ AW E m_Part_init (K, n, I, F, J) 0 0 (zAft E m_Part_ofText cb sb Q 8 [none] [.ref sa0]) 0 [some (.ref sa0), some (va_rf (some a0)), some (.int (0 : Int32)), some (.int (nI (n a0)))] []) :
    AW E m_Part_ofText (K, n, I, F, J) cb sb Q 3 [some (.ref a0)] [.ref sa0] := by
  refine aw_dup d_Part_ofText_3 rfl ?_
  refine aw_aload_n (x := a0) d_Part_ofText_4 rfl ?_
  refine aw_iconst (v := (0 : Int32)) d_Part_ofText_5 (by decide) ?_
  refine aw_aload_n (x := a0) d_Part_ofText_6 rfl ?_
  obtain ⟨hk1, w⟩ := w
  refine aw_alen hk1.1 hk1.2 d_Part_ofText_7 ?_
  exact aw_room (cb' := 0 + cb) (sb' := 0 + sb) (by omega) (by omega) (aw_weak (lv' := [none]) trivial (aw_callI (M' := m_Part_init) (lv0 := [some (.ref sa0), some (va_rf (some a0)), some (.int (0 : Int32)), some (.int (nI (n a0)))]) (As := [.ref a0, .int (0 : Int32), .int (nI (n a0))]) (rest := [.ref sa0]) 418 419 420 tb_418 tb_419 tb_420 rfl rfl rfl rfl 3 1 rfl rfl ⟨by decide, by decide, by decide +kernel, by decide +kernel, by decide, by decide⟩ (Nat.le_of_ble_eq_true rfl) ⟨rfl, rfl, rfl, rfl, trivial⟩ rfl d_Part_ofText_8 w))
set_option maxRecDepth 20000 in
theorem r_Part_ofText_11 {E : zE} {K n : Nat → Nat} {I : Nat → Nat → Int32} {F : Nat → Nat → Option Nat} {J : Nat → Nat → Int64} {cb sb : Nat} {Q : zO → zH → Prop} {sa0 : Nat}
    (w : Q (.inl (some (.ref sa0))) (K, n, I, F, J)) :
    AW E m_Part_ofText (K, n, I, F, J) cb sb Q 11 [none] [.ref sa0] := by
  exact aw_areturn (r := (some sa0)) _ rfl rfl d_Part_ofText_11 w
set_option maxRecDepth 20000 in
theorem r_Part_octetAt_0 {E : zE} {K n : Nat → Nat} {I : Nat → Nat → Int32} {F : Nat → Nat → Option Nat} {J : Nat → Nat → Int64} {cb sb : Nat} {Q : zO → zH → Prop} {a0 : Nat} {a1 : Nat} {x2 : Int32}
    (w : ((x2 < 0 → Q (.inl (some (.int (32 : Int32)))) (K, n, I, F, J)) ∧ (¬ x2 < 0 → K a0 = 2 ∧ ((x2 < (I a0 2) → (((F a0 0) = none → K a1 = 4 ∧ AW E m_Row_octetAt (K, n, I, F, J) 0 0 (zAft E m_Part_octetAt cb sb Q 29 [none, none, none] []) 0 [some (.ref a1), some (.int ((I a0 1) + x2))] []) ∧ (∀ z4 : Nat, (F a0 0) = some z4 → K z4 = 20 ∧ (∃ j8 : Nat, x2 = nI j8 ∧ j8 < n z4 ∧ j8 < 2147483648 ∧ Q (.inl (some (.int (I z4 j8)))) (K, n, I, F, J))))) ∧ (¬ x2 < (I a0 2) → Q (.inl (some (.int (32 : Int32)))) (K, n, I, F, J)))))) :
    AW E m_Part_octetAt (K, n, I, F, J) cb sb Q 0 [some (.ref a0), some (.ref a1), some (.int x2)] [] := by
  refine aw_iload_n (x := x2) d_Part_octetAt_0 rfl ?_
  refine aw_if_lt (tgt := 12) d_Part_octetAt_1 (by decide) (fun cc1 => ?_) (fun cc1 => ?_)
  · replace w := w.1 cc1
    refine aw_bipush (v := (32 : Int32)) d_Part_octetAt_12 (by decide) ?_
    exact aw_ireturn .int rfl rfl d_Part_octetAt_14 w
  · replace w := w.2 cc1
    refine aw_iload_n (x := x2) d_Part_octetAt_4 rfl ?_
    refine aw_aload_n (x := a0) d_Part_octetAt_5 rfl ?_
    obtain ⟨hk2, w⟩ := w
    refine gf_Part_19 rfl hk2 d_Part_octetAt_6 ?_
    refine aw_icmp_lt (tgt := 15) d_Part_octetAt_9 (by decide) (fun cc3 => ?_) (fun cc3 => ?_)
    · replace w := w.1 cc3
      refine aw_aload_n (x := a0) d_Part_octetAt_15 rfl ?_
      refine gf_Part_9 rfl hk2 d_Part_octetAt_16 ?_
      refine aw_ifnonnull (r := (F a0 0)) (tgt := 35) d_Part_octetAt_19 (by decide) (fun z4 cc5 => ?_) (fun cc5 => ?_)
      · replace w := w.2 z4 cc5
        have hz4 := cc5
        try rw [cc5]
        refine aw_aload_n (x := a0) d_Part_octetAt_35 rfl ?_
        refine gs_Part_9 rfl hk2 hz4 d_Part_octetAt_36 ?_
        refine aw_iload_n (x := x2) d_Part_octetAt_39 rfl ?_
        obtain ⟨hk7, w⟩ := w
        obtain ⟨j8, hj8a, hj8b, hj8c, w⟩ := w
        refine aw_baload j8 hk7 hj8a hj8b hj8c d_Part_octetAt_40 ?_
        exact aw_ireturn .int rfl rfl d_Part_octetAt_41 w
      · replace w := w.1 cc5
        try rw [cc5]
        refine aw_aload_n (x := a1) d_Part_octetAt_22 rfl ?_
        refine aw_aload_n (x := a0) d_Part_octetAt_23 rfl ?_
        refine gf_Part_15 rfl hk2 d_Part_octetAt_24 ?_
        refine aw_iload_n (x := x2) d_Part_octetAt_27 rfl ?_
        refine aw_iadd d_Part_octetAt_28 ?_
        obtain ⟨hk6, w⟩ := w
        exact aw_room (cb' := 0 + cb) (sb' := 0 + sb) (by omega) (by omega) (aw_weak (lv' := [none, none, none]) trivial (aw_callV (M' := m_Row_octetAt) (lv0 := [some (.ref a1), some (.int ((I a0 1) + x2))]) (As := [.int ((I a0 1) + x2)]) (rest := []) 3 643 644 646 rfl (by decide) rfl hk6 tb_643 tb_644 tb_646 (fun U hU => hU.t 645 tb_645 rfl) rfl rfl 1 0 rfl rfl ⟨by decide, by decide, by decide +kernel, by decide +kernel, by decide, by decide⟩ (Nat.le_of_ble_eq_true rfl) ⟨rfl, rfl, trivial⟩ rfl d_Part_octetAt_29 w))
    · replace w := w.2 cc3
      refine aw_bipush (v := (32 : Int32)) d_Part_octetAt_12 (by decide) ?_
      exact aw_ireturn .int rfl rfl d_Part_octetAt_14 w
set_option maxRecDepth 20000 in
theorem r_Part_octetAt_32 {E : zE} {K n : Nat → Nat} {I : Nat → Nat → Int32} {F : Nat → Nat → Option Nat} {J : Nat → Nat → Int64} {cb sb : Nat} {Q : zO → zH → Prop} {sx0 : Int32}
    (w : Q (.inl (some (.int sx0))) (K, n, I, F, J)) :
    AW E m_Part_octetAt (K, n, I, F, J) cb sb Q 32 [none, none, none] [.int sx0] := by
  refine aw_goto (tgt := 41) d_Part_octetAt_32 (by decide) ?_
  exact aw_ireturn .int rfl rfl d_Part_octetAt_41 w
set_option maxRecDepth 20000 in
theorem r_Part_numberIn_0 {E : zE} {K n : Nat → Nat} {I : Nat → Nat → Int32} {F : Nat → Nat → Option Nat} {J : Nat → Nat → Int64} {cb sb : Nat} {Q : zO → zH → Prop} {a0 : Nat} {a1 : Nat}
    (w : AW E m_Part_numberIn (K, n, I, F, J) cb sb Q 5 [some (.ref a0), some (.ref a1), some (.long (0 : Int64)), none, some (.int (0 : Int32))] []) :
    AW E m_Part_numberIn (K, n, I, F, J) cb sb Q 0 [some (.ref a0), some (.ref a1), none, none, none] [] := by
  refine aw_lconst (v := 0) d_Part_numberIn_0 (by decide) ?_
  refine aw_lstore_n d_Part_numberIn_1 (by decide) ?_
  refine aw_iconst (v := (0 : Int32)) d_Part_numberIn_2 (by decide) ?_
  refine aw_istore d_Part_numberIn_3 (by decide) ?_
  exact aw_weak (lv' := [some (.ref a0), some (.ref a1), some (.long (0 : Int64)), none, some (.int (0 : Int32))]) ⟨rfl, rfl, rfl, rfl, trivial⟩ w
set_option maxRecDepth 20000 in
theorem r_Part_numberIn_5 {E : zE} {K n : Nat → Nat} {I : Nat → Nat → Int32} {F : Nat → Nat → Option Nat} {J : Nat → Nat → Int64} {cb sb : Nat} {Q : zO → zH → Prop} {a0 : Nat} {a1 : Nat} {y2 : Int64} {x4 : Int32}
    (w : K a0 = 2 ∧ (((I a0 2) ≤ x4 → Q (.inl (some (.long y2))) (K, n, I, F, J)) ∧ (¬ (I a0 2) ≤ x4 → AW E m_Part_octetAt (K, n, I, F, J) 0 0 (zAft E m_Part_numberIn cb sb Q 23 [some (.ref a0), some (.ref a1), none, none, some (.int x4)] [.long (y2 * (10 : Int64))]) 0 [some (.ref a0), some (.ref a1), some (.int x4)] []))) :
    AW E m_Part_numberIn (K, n, I, F, J) cb sb Q 5 [some (.ref a0), some (.ref a1), some (.long y2), none, some (.int x4)] [] := by
  refine aw_iload (x := x4) d_Part_numberIn_5 rfl ?_
  refine aw_aload_n (x := a0) d_Part_numberIn_7 rfl ?_
  obtain ⟨hk1, w⟩ := w
  refine gf_Part_19 rfl hk1 d_Part_numberIn_8 ?_
  refine aw_icmp_ge (tgt := 38) d_Part_numberIn_11 (by decide) (fun cc2 => ?_) (fun cc2 => ?_)
  · replace w := w.1 cc2
    refine aw_lload_n (x := y2) d_Part_numberIn_38 rfl ?_
    exact aw_lreturn rfl d_Part_numberIn_39 w
  · replace w := w.2 cc2
    refine aw_lload_n (x := y2) d_Part_numberIn_14 rfl ?_
    refine aw_ldc2 (v := 10) 700 tb_700 d_Part_numberIn_15 ?_
    refine aw_lmul d_Part_numberIn_18 ?_
    refine aw_aload_n (x := a0) d_Part_numberIn_19 rfl ?_
    refine aw_aload_n (x := a1) d_Part_numberIn_20 rfl ?_
    refine aw_iload (x := x4) d_Part_numberIn_21 rfl ?_
    exact aw_room (cb' := 0 + cb) (sb' := 0 + sb) (by omega) (by omega) (aw_weak (lv' := [some (.ref a0), some (.ref a1), none, none, some (.int x4)]) ⟨rfl, rfl, rfl, trivial⟩ (aw_callV (M' := m_Part_octetAt) (lv0 := [some (.ref a0), some (.ref a1), some (.int x4)]) (As := [.ref a1, .int x4]) (rest := [.long (y2 * (10 : Int64))]) 1 701 640 642 rfl (by decide) rfl hk1 tb_701 tb_640 tb_642 (fun U hU => hU.t 641 tb_641 rfl) rfl rfl 2 1 rfl rfl ⟨by decide, by decide, by decide +kernel, by decide +kernel, by decide, by decide⟩ (Nat.le_of_ble_eq_true rfl) ⟨rfl, rfl, rfl, trivial⟩ rfl d_Part_numberIn_23 w))
set_option maxRecDepth 20000 in
theorem r_Part_numberIn_26 {E : zE} {K n : Nat → Nat} {I : Nat → Nat → Int32} {F : Nat → Nat → Option Nat} {J : Nat → Nat → Int64} {cb sb : Nat} {Q : zO → zH → Prop} {a0 : Nat} {a1 : Nat} {x4 : Int32} {sy0 : Int64} {sx1 : Int32}
    (w : AW E m_Su_digitOf (K, n, I, F, J) 0 0 (zAft E m_Part_numberIn cb sb Q 26 [some (.ref a0), some (.ref a1), none, none, some (.int x4)] [.long sy0]) 0 [some (.int sx1)] []) :
    AW E m_Part_numberIn (K, n, I, F, J) cb sb Q 26 [some (.ref a0), some (.ref a1), none, none, some (.int x4)] [.int sx1, .long sy0] := by
  exact aw_room (cb' := 0 + cb) (sb' := 0 + sb) (by omega) (by omega) (aw_weak (lv' := [some (.ref a0), some (.ref a1), none, none, some (.int x4)]) ⟨rfl, rfl, rfl, trivial⟩ (aw_callSN (M' := m_Su_digitOf) (lv0 := [some (.int sx1)]) (As := [.int sx1]) (rest := [.long sy0]) 702 648 649 1 "SortUtility" tb_702 tb_648 tb_649 tb_1 rfl rfl 1 1 rfl rfl ⟨by decide, by decide, by decide +kernel, by decide +kernel, by decide, by decide⟩ (Nat.le_of_ble_eq_true rfl) ⟨rfl, trivial⟩ rfl d_Part_numberIn_26 w))
set_option maxRecDepth 20000 in
theorem r_Part_numberIn_29 {E : zE} {K n : Nat → Nat} {I : Nat → Nat → Int32} {F : Nat → Nat → Option Nat} {J : Nat → Nat → Int64} {cb sb : Nat} {Q : zO → zH → Prop} {a0 : Nat} {a1 : Nat} {x4 : Int32} {sy0 : Int64} {sx1 : Int32}
    (w : AW E m_Part_numberIn (K, n, I, F, J) cb sb Q 5 [some (.ref a0), some (.ref a1), some (.long (sy0 + sx1.toInt64)), none, some (.int (x4 + (1 : Int32)))] []) :
    AW E m_Part_numberIn (K, n, I, F, J) cb sb Q 29 [some (.ref a0), some (.ref a1), none, none, some (.int x4)] [.int sx1, .long sy0] := by
  refine aw_i2l (v := sx1.toInt64) d_Part_numberIn_29 rfl ?_
  refine aw_ladd d_Part_numberIn_30 ?_
  refine aw_lstore_n d_Part_numberIn_31 (by decide) ?_
  refine aw_iinc (v := (x4 + (1 : Int32))) d_Part_numberIn_32 rfl (by rfl) (by decide) ?_
  refine aw_goto (tgt := 5) d_Part_numberIn_35 (by decide) ?_
  exact aw_weak (lv' := [some (.ref a0), some (.ref a1), some (.long (sy0 + sx1.toInt64)), none, some (.int (x4 + (1 : Int32)))]) ⟨rfl, rfl, rfl, rfl, trivial⟩ w
set_option maxRecDepth 20000 in
theorem r_Part_firstNumberTooLong_0 {E : zE} {K n : Nat → Nat} {I : Nat → Nat → Int32} {F : Nat → Nat → Option Nat} {J : Nat → Nat → Int64} {cb sb : Nat} {Q : zO → zH → Prop} {a0 : Nat}
    (w : AW E m_Part_firstNumberTooLong (K, n, I, F, J) cb sb Q 4 [some (.ref a0), some (.long (1 : Int64)), none, some (.int (0 : Int32))] []) :
    AW E m_Part_firstNumberTooLong (K, n, I, F, J) cb sb Q 0 [some (.ref a0), none, none, none] [] := by
  refine aw_lconst (v := 1) d_Part_firstNumberTooLong_0 (by decide) ?_
  refine aw_lstore_n d_Part_firstNumberTooLong_1 (by decide) ?_
  refine aw_iconst (v := (0 : Int32)) d_Part_firstNumberTooLong_2 (by decide) ?_
  refine aw_istore_n d_Part_firstNumberTooLong_3 (by decide) ?_
  exact aw_weak (lv' := [some (.ref a0), some (.long (1 : Int64)), none, some (.int (0 : Int32))]) ⟨rfl, rfl, rfl, trivial⟩ w
set_option maxRecDepth 20000 in
theorem r_Part_firstNumberTooLong_4 {E : zE} {K n : Nat → Nat} {I : Nat → Nat → Int32} {F : Nat → Nat → Option Nat} {J : Nat → Nat → Int64} {cb sb : Nat} {Q : zO → zH → Prop} {a0 : Nat} {y1 : Int64} {x3 : Int32}
    (w : K a0 = 2 ∧ (((I a0 2) ≤ x3 → Q (.inl (some (.long y1))) (K, n, I, F, J)) ∧ (¬ (I a0 2) ≤ x3 → AW E m_Part_firstNumberTooLong (K, n, I, F, J) cb sb Q 4 [some (.ref a0), some (.long (y1 * (10 : Int64))), none, some (.int (x3 + (1 : Int32)))] []))) :
    AW E m_Part_firstNumberTooLong (K, n, I, F, J) cb sb Q 4 [some (.ref a0), some (.long y1), none, some (.int x3)] [] := by
  refine aw_iload_n (x := x3) d_Part_firstNumberTooLong_4 rfl ?_
  refine aw_aload_n (x := a0) d_Part_firstNumberTooLong_5 rfl ?_
  obtain ⟨hk1, w⟩ := w
  refine gf_Part_19 rfl hk1 d_Part_firstNumberTooLong_6 ?_
  refine aw_icmp_ge (tgt := 24) d_Part_firstNumberTooLong_9 (by decide) (fun cc2 => ?_) (fun cc2 => ?_)
  · replace w := w.1 cc2
    refine aw_lload_n (x := y1) d_Part_firstNumberTooLong_24 rfl ?_
    exact aw_lreturn rfl d_Part_firstNumberTooLong_25 w
  · replace w := w.2 cc2
    refine aw_lload_n (x := y1) d_Part_firstNumberTooLong_12 rfl ?_
    refine aw_ldc2 (v := 10) 700 tb_700 d_Part_firstNumberTooLong_13 ?_
    refine aw_lmul d_Part_firstNumberTooLong_16 ?_
    refine aw_lstore_n d_Part_firstNumberTooLong_17 (by decide) ?_
    refine aw_iinc (v := (x3 + (1 : Int32))) d_Part_firstNumberTooLong_18 rfl (by rfl) (by decide) ?_
    refine aw_goto (tgt := 4) d_Part_firstNumberTooLong_21 (by decide) ?_
    exact aw_weak (lv' := [some (.ref a0), some (.long (y1 * (10 : Int64))), none, some (.int (x3 + (1 : Int32)))]) ⟨rfl, rfl, rfl, trivial⟩ w
set_option maxRecDepth 20000 in
theorem r_Part_writeNumber_0 {E : zE} {K n : Nat → Nat} {I : Nat → Nat → Int32} {F : Nat → Nat → Option Nat} {J : Nat → Nat → Int64} {cb sb : Nat} {Q : zO → zH → Prop} {a0 : Nat} {a1 : Nat} {y2 : Int64}
    (w : K a0 = 2 ∧ AW E m_Part_writeNumber (K, n, I, F, J) cb sb Q 11 [some (.ref a0), some (.ref a1), none, none, some (.long y2), none, some (.int ((I a0 2) - (1 : Int32)))] []) :
    AW E m_Part_writeNumber (K, n, I, F, J) cb sb Q 0 [some (.ref a0), some (.ref a1), some (.long y2), none, none, none, none] [] := by
  refine aw_lload_n (x := y2) d_Part_writeNumber_0 rfl ?_
  refine aw_lstore d_Part_writeNumber_1 (by decide) ?_
  refine aw_aload_n (x := a0) d_Part_writeNumber_3 rfl ?_
  obtain ⟨hk1, w⟩ := w
  refine gf_Part_19 rfl hk1 d_Part_writeNumber_4 ?_
  refine aw_iconst (v := (1 : Int32)) d_Part_writeNumber_7 (by decide) ?_
  refine aw_isub d_Part_writeNumber_8 ?_
  refine aw_istore d_Part_writeNumber_9 (by decide) ?_
  exact aw_weak (lv' := [some (.ref a0), some (.ref a1), none, none, some (.long y2), none, some (.int ((I a0 2) - (1 : Int32)))]) ⟨rfl, rfl, rfl, rfl, trivial⟩ w
set_option maxRecDepth 20000 in
theorem r_Part_writeNumber_11 {E : zE} {K n : Nat → Nat} {I : Nat → Nat → Int32} {F : Nat → Nat → Option Nat} {J : Nat → Nat → Int64} {cb sb : Nat} {Q : zO → zH → Prop} {a0 : Nat} {a1 : Nat} {y4 : Int64} {x6 : Int32}
    (w : ((x6 < 0 → Q (.inl none) (K, n, I, F, J)) ∧ (¬ x6 < 0 → K a0 = 2 ∧ K a1 = 4 ∧ AW E m_Row_put (K, n, I, F, J) 0 0 (zAft E m_Part_writeNumber cb sb Q 35 [some (.ref a0), some (.ref a1), none, none, some (.long y4), none, some (.int x6)] []) 0 [some (.ref a1), some (.int ((I a0 1) + x6)), some (.int (((48 : Int64) + (y4 - y4 / (10 : Int64) * (10 : Int64))).toInt32))] []))) :
    AW E m_Part_writeNumber (K, n, I, F, J) cb sb Q 11 [some (.ref a0), some (.ref a1), none, none, some (.long y4), none, some (.int x6)] [] := by
  refine aw_iload (x := x6) d_Part_writeNumber_11 rfl ?_
  refine aw_if_lt (tgt := 52) d_Part_writeNumber_13 (by decide) (fun cc1 => ?_) (fun cc1 => ?_)
  · replace w := w.1 cc1
    exact aw_return rfl d_Part_writeNumber_52 w
  · replace w := w.2 cc1
    refine aw_aload_n (x := a1) d_Part_writeNumber_16 rfl ?_
    refine aw_aload_n (x := a0) d_Part_writeNumber_17 rfl ?_
    obtain ⟨hk2, w⟩ := w
    refine gf_Part_15 rfl hk2 d_Part_writeNumber_18 ?_
    refine aw_iload (x := x6) d_Part_writeNumber_21 rfl ?_
    refine aw_iadd d_Part_writeNumber_23 ?_
    refine aw_ldc2 (v := 48) 711 tb_711 d_Part_writeNumber_24 ?_
    refine aw_lload (x := y4) d_Part_writeNumber_27 rfl ?_
    refine aw_ldc2 (v := 10) 700 tb_700 d_Part_writeNumber_29 ?_
    refine aw_lrem d_Part_writeNumber_32 (by decide) ?_
    refine aw_ladd d_Part_writeNumber_33 ?_
    refine aw_l2i (v := ((48 : Int64) + (y4 - y4 / (10 : Int64) * (10 : Int64))).toInt32) d_Part_writeNumber_34 rfl ?_
    obtain ⟨hk3, w⟩ := w
    exact aw_room (cb' := 0 + cb) (sb' := 0 + sb) (by omega) (by omega) (aw_weak (lv' := [some (.ref a0), some (.ref a1), none, none, some (.long y4), none, some (.int x6)]) ⟨rfl, rfl, rfl, rfl, trivial⟩ (aw_callV (M' := m_Row_put) (lv0 := [some (.ref a1), some (.int ((I a0 1) + x6)), some (.int (((48 : Int64) + (y4 - y4 / (10 : Int64) * (10 : Int64))).toInt32))]) (As := [.int ((I a0 1) + x6), .int (((48 : Int64) + (y4 - y4 / (10 : Int64) * (10 : Int64))).toInt32)]) (rest := []) 3 712 713 715 rfl (by decide) rfl hk3 tb_712 tb_713 tb_715 (fun U hU => hU.t 714 tb_714 rfl) rfl rfl 2 0 rfl rfl ⟨by decide, by decide, by decide +kernel, by decide +kernel, by decide, by decide⟩ (Nat.le_of_ble_eq_true rfl) ⟨rfl, rfl, rfl, trivial⟩ rfl d_Part_writeNumber_35 w))
set_option maxRecDepth 20000 in
theorem r_Part_writeNumber_38 {E : zE} {K n : Nat → Nat} {I : Nat → Nat → Int32} {F : Nat → Nat → Option Nat} {J : Nat → Nat → Int64} {cb sb : Nat} {Q : zO → zH → Prop} {a0 : Nat} {a1 : Nat} {y4 : Int64} {x6 : Int32}
    (w : AW E m_Part_writeNumber (K, n, I, F, J) cb sb Q 11 [some (.ref a0), some (.ref a1), none, none, some (.long (y4 / (10 : Int64))), none, some (.int (x6 + ((-1) : Int32)))] []) :
    AW E m_Part_writeNumber (K, n, I, F, J) cb sb Q 38 [some (.ref a0), some (.ref a1), none, none, some (.long y4), none, some (.int x6)] [] := by
  refine aw_lload (x := y4) d_Part_writeNumber_38 rfl ?_
  refine aw_ldc2 (v := 10) 700 tb_700 d_Part_writeNumber_40 ?_
  refine aw_ldiv d_Part_writeNumber_43 (by decide) ?_
  refine aw_lstore d_Part_writeNumber_44 (by decide) ?_
  refine aw_iinc (v := (x6 + ((-1) : Int32))) d_Part_writeNumber_46 rfl (by rfl) (by decide) ?_
  refine aw_goto (tgt := 11) d_Part_writeNumber_49 (by decide) ?_
  exact aw_weak (lv' := [some (.ref a0), some (.ref a1), none, none, some (.long (y4 / (10 : Int64))), none, some (.int (x6 + ((-1) : Int32)))]) ⟨rfl, rfl, rfl, rfl, trivial⟩ w
set_option maxRecDepth 20000 in
theorem r_Row_init_0 {E : zE} {K n : Nat → Nat} {I : Nat → Nat → Int32} {F : Nat → Nat → Option Nat} {J : Nat → Nat → Int64} {cb sb : Nat} {Q : zO → zH → Prop} {a0 : Nat}
    (w : (∃ cb9 sb9 : Nat, cb9 + 1 ≤ cb ∧ sb9 + 100 ≤ sb ∧ ∀ q : Nat, K q = 0 → AW E m_Row_init ((va_up K q 20), (va_up n q 100), (va_up I q (fun _ => 0)), F, J) cb9 sb9 Q 9 [some (.ref a0)] [.ref q, .ref a0])) :
    AW E m_Row_init (K, n, I, F, J) cb sb Q 0 [some (.ref a0)] [] := by
  refine aw_aload_n (x := a0) d_Row_init_0 rfl ?_
  refine aw_objInit 133 tb_133 (by decide) (by decide) d_Row_init_1 ?_
  refine aw_aload_n (x := a0) d_Row_init_4 rfl ?_
  refine aw_bipush (v := (100 : Int32)) d_Row_init_5 (by decide) ?_
  obtain ⟨cb9, sb9, hq1, hq2, w⟩ := w
  exact aw_room hq1 hq2 (aw_weak (lv' := [some (.ref a0)]) ⟨rfl, trivial⟩ (aw_newB 100 (by rfl) (by decide) 155 tb_155 d_Row_init_7 w))
set_option maxRecDepth 20000 in
theorem r_Row_init_9 {E : zE} {K n : Nat → Nat} {I : Nat → Nat → Int32} {F : Nat → Nat → Option Nat} {J : Nat → Nat → Int64} {cb sb : Nat} {Q : zO → zH → Prop} {a0 : Nat} {sa0 : Nat} {sa1 : Nat}
    (w : K sa0 = 4 ∧ K a0 = 4 ∧ Q (.inl none) (K, n, (zup (zup (zup (zup I a0 1 (0 : Int32)) a0 2 (0 : Int32)) a0 3 (0 : Int32)) a0 4 (1 : Int32)), (zup F sa0 0 (some sa1)), J)) :
    AW E m_Row_init (K, n, I, F, J) cb sb Q 9 [some (.ref a0)] [.ref sa1, .ref sa0] := by
  obtain ⟨hk1, w⟩ := w
  refine pf_Row_9 (r := (some sa1)) rfl hk1 rfl d_Row_init_9 ?_
  refine aw_aload_n (x := a0) d_Row_init_12 rfl ?_
  refine aw_iconst (v := (0 : Int32)) d_Row_init_13 (by decide) ?_
  obtain ⟨hk2, w⟩ := w
  refine pf_Row_15 rfl hk2 d_Row_init_14 ?_
  refine aw_aload_n (x := a0) d_Row_init_17 rfl ?_
  refine aw_iconst (v := (0 : Int32)) d_Row_init_18 (by decide) ?_
  refine pf_Row_19 rfl hk2 d_Row_init_19 ?_
  refine aw_aload_n (x := a0) d_Row_init_22 rfl ?_
  refine aw_iconst (v := (0 : Int32)) d_Row_init_23 (by decide) ?_
  refine pf_Row_22 rfl hk2 d_Row_init_24 ?_
  refine aw_aload_n (x := a0) d_Row_init_27 rfl ?_
  refine aw_iconst (v := (1 : Int32)) d_Row_init_28 (by decide) ?_
  refine pf_Row_25 rfl hk2 d_Row_init_29 ?_
  exact aw_return rfl d_Row_init_32 w
set_option maxRecDepth 20000 in
theorem r_Row_octetAt_0 {E : zE} {K n : Nat → Nat} {I : Nat → Nat → Int32} {F : Nat → Nat → Option Nat} {J : Nat → Nat → Int64} {cb sb : Nat} {Q : zO → zH → Prop} {a0 : Nat} {x1 : Int32}
    (w : ((x1 < 0 → Q (.inl (some (.int (32 : Int32)))) (K, n, I, F, J)) ∧ (¬ x1 < 0 → K a0 = 4 ∧ (((I a0 1) ≤ x1 → Q (.inl (some (.int (32 : Int32)))) (K, n, I, F, J)) ∧ (¬ (I a0 1) ≤ x1 → (∃ b4 : Nat, F a0 0 = some b4 ∧ K b4 = 20 ∧ (∃ j6 : Nat, x1 = nI j6 ∧ j6 < n b4 ∧ j6 < 2147483648 ∧ Q (.inl (some (.int ((I b4 j6) &&& (255 : Int32))))) (K, n, I, F, J)))))))) :
    AW E m_Row_octetAt (K, n, I, F, J) cb sb Q 0 [some (.ref a0), some (.int x1)] [] := by
  refine aw_iload_n (x := x1) d_Row_octetAt_0 rfl ?_
  refine aw_if_lt (tgt := 25) d_Row_octetAt_1 (by decide) (fun cc1 => ?_) (fun cc1 => ?_)
  · replace w := w.1 cc1
    refine aw_bipush (v := (32 : Int32)) d_Row_octetAt_25 (by decide) ?_
    exact aw_ireturn .int rfl rfl d_Row_octetAt_27 w
  · replace w := w.2 cc1
    refine aw_iload_n (x := x1) d_Row_octetAt_4 rfl ?_
    refine aw_aload_n (x := a0) d_Row_octetAt_5 rfl ?_
    obtain ⟨hk2, w⟩ := w
    refine gf_Row_15 rfl hk2 d_Row_octetAt_6 ?_
    refine aw_icmp_ge (tgt := 25) d_Row_octetAt_9 (by decide) (fun cc3 => ?_) (fun cc3 => ?_)
    · replace w := w.1 cc3
      refine aw_bipush (v := (32 : Int32)) d_Row_octetAt_25 (by decide) ?_
      exact aw_ireturn .int rfl rfl d_Row_octetAt_27 w
    · replace w := w.2 cc3
      refine aw_aload_n (x := a0) d_Row_octetAt_12 rfl ?_
      obtain ⟨b4, hb4, w⟩ := w
      refine gs_Row_9 rfl hk2 hb4 d_Row_octetAt_13 ?_
      refine aw_iload_n (x := x1) d_Row_octetAt_16 rfl ?_
      obtain ⟨hk5, w⟩ := w
      obtain ⟨j6, hj6a, hj6b, hj6c, w⟩ := w
      refine aw_baload j6 hk5 hj6a hj6b hj6c d_Row_octetAt_17 ?_
      refine aw_sipush (v := (255 : Int32)) d_Row_octetAt_18 (by decide) ?_
      refine aw_iand d_Row_octetAt_21 ?_
      refine aw_goto (tgt := 27) d_Row_octetAt_22 (by decide) ?_
      exact aw_ireturn .int rfl rfl d_Row_octetAt_27 w
set_option maxRecDepth 20000 in
theorem r_Row_put_0 {E : zE} {K n : Nat → Nat} {I : Nat → Nat → Int32} {F : Nat → Nat → Option Nat} {J : Nat → Nat → Int64} {cb sb : Nat} {Q : zO → zH → Prop} {a0 : Nat} {x1 : Int32} {x2 : Int32}
    (w : ((x1 < 0 → Q (.inl none) (K, n, I, F, J)) ∧ (¬ x1 < 0 → ((x1 < (100 : Int32) → AW E m_Row_put (K, n, I, F, J) cb sb Q 11 [some (.ref a0), some (.int x1), some (.int x2)] []) ∧ (¬ x1 < (100 : Int32) → Q (.inl none) (K, n, I, F, J)))))) :
    AW E m_Row_put (K, n, I, F, J) cb sb Q 0 [some (.ref a0), some (.int x1), some (.int x2)] [] := by
  refine aw_iload_n (x := x1) d_Row_put_0 rfl ?_
  refine aw_if_lt (tgt := 10) d_Row_put_1 (by decide) (fun cc1 => ?_) (fun cc1 => ?_)
  · replace w := w.1 cc1
    exact aw_return rfl d_Row_put_10 w
  · replace w := w.2 cc1
    refine aw_iload_n (x := x1) d_Row_put_4 rfl ?_
    refine aw_bipush (v := (100 : Int32)) d_Row_put_5 (by decide) ?_
    refine aw_icmp_lt (tgt := 11) d_Row_put_7 (by decide) (fun cc2 => ?_) (fun cc2 => ?_)
    · replace w := w.1 cc2
      exact aw_weak (lv' := [some (.ref a0), some (.int x1), some (.int x2)]) ⟨rfl, rfl, rfl, trivial⟩ w
    · replace w := w.2 cc2
      exact aw_return rfl d_Row_put_10 w
set_option maxRecDepth 20000 in
theorem r_Row_put_11 {E : zE} {K n : Nat → Nat} {I : Nat → Nat → Int32} {F : Nat → Nat → Option Nat} {J : Nat → Nat → Int64} {cb sb : Nat} {Q : zO → zH → Prop} {a0 : Nat} {x1 : Int32} {x2 : Int32}
    (w : K a0 = 4 ∧ ((x1 ≤ (I a0 1) → AW E m_Math_max (K, n, I, F, J) 0 0 (zAft E m_Row_put cb sb Q 51 [some (.ref a0), some (.int x1), some (.int x2)] [.ref a0]) 0 [some (.int (I a0 1)), some (.int (x1 + (1 : Int32)))] []) ∧ (¬ x1 ≤ (I a0 1) → (∃ b3 : Nat, F a0 0 = some b3 ∧ K b3 = 20 ∧ (∃ j5 : Nat, (I a0 1) = nI j5 ∧ j5 < n b3 ∧ j5 < 2147483648 ∧ AW E m_Row_put (K, n, (zup (zup I b3 j5 (32 : Int32).toInt8.toInt32) a0 1 (((zup I b3 j5 (32 : Int32).toInt8.toInt32) a0 1) + (1 : Int32))), F, J) cb sb Q 11 [some (.ref a0), some (.int x1), some (.int x2)] []))))) :
    AW E m_Row_put (K, n, I, F, J) cb sb Q 11 [some (.ref a0), some (.int x1), some (.int x2)] [] := by
  refine aw_aload_n (x := a0) d_Row_put_11 rfl ?_
  obtain ⟨hk1, w⟩ := w
  refine gf_Row_15 rfl hk1 d_Row_put_12 ?_
  refine aw_iload_n (x := x1) d_Row_put_15 rfl ?_
  refine aw_icmp_ge (tgt := 43) d_Row_put_16 (by decide) (fun cc2 => ?_) (fun cc2 => ?_)
  · replace w := w.1 cc2
    refine aw_aload_n (x := a0) d_Row_put_43 rfl ?_
    refine aw_aload_n (x := a0) d_Row_put_44 rfl ?_
    refine gf_Row_15 rfl hk1 d_Row_put_45 ?_
    refine aw_iload_n (x := x1) d_Row_put_48 rfl ?_
    refine aw_iconst (v := (1 : Int32)) d_Row_put_49 (by decide) ?_
    refine aw_iadd d_Row_put_50 ?_
    exact aw_room (cb' := 0 + cb) (sb' := 0 + sb) (by omega) (by omega) (aw_weak (lv' := [some (.ref a0), some (.int x1), some (.int x2)]) ⟨rfl, rfl, rfl, trivial⟩ (aw_callS (M' := m_Math_max) (lv0 := [some (.int (I a0 1)), some (.int (x1 + (1 : Int32)))]) (As := [.int (I a0 1), .int (x1 + (1 : Int32))]) (rest := [.ref a0]) 716 476 477 10 tb_716 tb_476 tb_477 tb_10 rfl rfl 2 1 rfl rfl ⟨by decide, by decide, by decide +kernel, by decide +kernel, by decide, by decide⟩ (Nat.le_of_ble_eq_true rfl) ⟨rfl, rfl, trivial⟩ rfl d_Row_put_51 w))
  · replace w := w.2 cc2
    refine aw_aload_n (x := a0) d_Row_put_19 rfl ?_
    obtain ⟨b3, hb3, w⟩ := w
    refine gs_Row_9 rfl hk1 hb3 d_Row_put_20 ?_
    refine aw_aload_n (x := a0) d_Row_put_23 rfl ?_
    refine gf_Row_15 rfl hk1 d_Row_put_24 ?_
    refine aw_bipush (v := (32 : Int32)) d_Row_put_27 (by decide) ?_
    obtain ⟨hk4, w⟩ := w
    obtain ⟨j5, hj5a, hj5b, hj5c, w⟩ := w
    refine aw_bastore j5 hk4 hj5a hj5b hj5c d_Row_put_29 ?_
    refine aw_aload_n (x := a0) d_Row_put_30 rfl ?_
    refine aw_dup d_Row_put_31 rfl ?_
    refine gf_Row_15 rfl hk1 d_Row_put_32 ?_
    refine aw_iconst (v := (1 : Int32)) d_Row_put_35 (by decide) ?_
    refine aw_iadd d_Row_put_36 ?_
    refine pf_Row_15 rfl hk1 d_Row_put_37 ?_
    refine aw_goto (tgt := 11) d_Row_put_40 (by decide) ?_
    exact aw_weak (lv' := [some (.ref a0), some (.int x1), some (.int x2)]) ⟨rfl, rfl, rfl, trivial⟩ w
set_option maxRecDepth 20000 in
theorem r_Row_put_54 {E : zE} {K n : Nat → Nat} {I : Nat → Nat → Int32} {F : Nat → Nat → Option Nat} {J : Nat → Nat → Int64} {cb sb : Nat} {Q : zO → zH → Prop} {a0 : Nat} {x1 : Int32} {x2 : Int32} {sa0 : Nat} {sx1 : Int32}
    (w : K sa0 = 4 ∧ K a0 = 4 ∧ (∃ b3 : Nat, F a0 0 = some b3 ∧ K b3 = 20 ∧ (∃ j5 : Nat, x1 = nI j5 ∧ j5 < n b3 ∧ j5 < 2147483648 ∧ Q (.inl none) (K, n, (zup (zup I sa0 1 sx1) b3 j5 x2.toInt8.toInt32.toInt8.toInt32), F, J)))) :
    AW E m_Row_put (K, n, I, F, J) cb sb Q 54 [some (.ref a0), some (.int x1), some (.int x2)] [.int sx1, .ref sa0] := by
  obtain ⟨hk1, w⟩ := w
  refine pf_Row_15 rfl hk1 d_Row_put_54 ?_
  refine aw_aload_n (x := a0) d_Row_put_57 rfl ?_
  obtain ⟨hk2, w⟩ := w
  obtain ⟨b3, hb3, w⟩ := w
  refine gs_Row_9 rfl hk2 hb3 d_Row_put_58 ?_
  refine aw_iload_n (x := x1) d_Row_put_61 rfl ?_
  refine aw_iload_n (x := x2) d_Row_put_62 rfl ?_
  refine aw_i2b (v := x2.toInt8.toInt32) d_Row_put_63 rfl ?_
  obtain ⟨hk4, w⟩ := w
  obtain ⟨j5, hj5a, hj5b, hj5c, w⟩ := w
  refine aw_bastore j5 hk4 hj5a hj5b hj5c d_Row_put_64 ?_
  exact aw_return rfl d_Row_put_65 w
set_option maxRecDepth 20000 in
theorem r_Row_append_0 {E : zE} {K n : Nat → Nat} {I : Nat → Nat → Int32} {F : Nat → Nat → Option Nat} {J : Nat → Nat → Int64} {cb sb : Nat} {Q : zO → zH → Prop} {a0 : Nat} {x1 : Int32}
    (w : K a0 = 4 ∧ AW E m_Row_put (K, n, I, F, J) 0 0 (zAft E m_Row_append cb sb Q 6 [none, none] []) 0 [some (.ref a0), some (.int (I a0 1)), some (.int x1)] []) :
    AW E m_Row_append (K, n, I, F, J) cb sb Q 0 [some (.ref a0), some (.int x1)] [] := by
  refine aw_aload_n (x := a0) d_Row_append_0 rfl ?_
  refine aw_aload_n (x := a0) d_Row_append_1 rfl ?_
  obtain ⟨hk1, w⟩ := w
  refine gf_Row_15 rfl hk1 d_Row_append_2 ?_
  refine aw_iload_n (x := x1) d_Row_append_5 rfl ?_
  exact aw_room (cb' := 0 + cb) (sb' := 0 + sb) (by omega) (by omega) (aw_weak (lv' := [none, none]) trivial (aw_callV (M' := m_Row_put) (lv0 := [some (.ref a0), some (.int (I a0 1)), some (.int x1)]) (As := [.int (I a0 1), .int x1]) (rest := []) 3 734 713 715 rfl (by decide) rfl hk1 tb_734 tb_713 tb_715 (fun U hU => hU.t 714 tb_714 rfl) rfl rfl 2 0 rfl rfl ⟨by decide, by decide, by decide +kernel, by decide +kernel, by decide, by decide⟩ (Nat.le_of_ble_eq_true rfl) ⟨rfl, rfl, rfl, trivial⟩ rfl d_Row_append_6 w))
set_option maxRecDepth 20000 in
theorem r_Row_append_9 {E : zE} {K n : Nat → Nat} {I : Nat → Nat → Int32} {F : Nat → Nat → Option Nat} {J : Nat → Nat → Int64} {cb sb : Nat} {Q : zO → zH → Prop}
    (w : Q (.inl none) (K, n, I, F, J)) :
    AW E m_Row_append (K, n, I, F, J) cb sb Q 9 [none, none] [] := by
  exact aw_return rfl d_Row_append_9 w
set_option maxRecDepth 20000 in
theorem r_Row_become_0 {E : zE} {K n : Nat → Nat} {I : Nat → Nat → Int32} {F : Nat → Nat → Option Nat} {J : Nat → Nat → Int64} {cb sb : Nat} {Q : zO → zH → Prop} {a0 : Nat} {a1 : Nat}
    (w : K a1 = 4 ∧ (∃ b2 : Nat, F a1 0 = some b2 ∧ K a0 = 4 ∧ (∃ b4 : Nat, F a0 0 = some b4 ∧ K b2 = 20 ∧ K b4 = 20 ∧ (∃ cs cd cN : Nat, (0 : Int32) = nI cs ∧ (0 : Int32) = nI cd ∧ (100 : Int32) = nI cN ∧ cs + cN ≤ n b2 ∧ cd + cN ≤ n b4 ∧ n b2 ≤ 100000 ∧ n b4 ≤ 100000 ∧ (∀ i, i < cN → fits .byte (.int (I b2 (cs + i))) = true) ∧ Q (.inl none) (K, n, (zup (zup (zup (va_up I b4 (va_cpy (I b2) (I b4) cs cd cN)) a0 1 ((va_up I b4 (va_cpy (I b2) (I b4) cs cd cN)) a1 1)) a0 3 ((zup (va_up I b4 (va_cpy (I b2) (I b4) cs cd cN)) a0 1 ((va_up I b4 (va_cpy (I b2) (I b4) cs cd cN)) a1 1)) a1 3)) a0 4 ((zup (zup (va_up I b4 (va_cpy (I b2) (I b4) cs cd cN)) a0 1 ((va_up I b4 (va_cpy (I b2) (I b4) cs cd cN)) a1 1)) a0 3 ((zup (va_up I b4 (va_cpy (I b2) (I b4) cs cd cN)) a0 1 ((va_up I b4 (va_cpy (I b2) (I b4) cs cd cN)) a1 1)) a1 3)) a1 4)), F, J))))) :
    AW E m_Row_become (K, n, I, F, J) cb sb Q 0 [some (.ref a0), some (.ref a1)] [] := by
  refine aw_aload_n (x := a1) d_Row_become_0 rfl ?_
  obtain ⟨hk1, w⟩ := w
  obtain ⟨b2, hb2, w⟩ := w
  refine gs_Row_9 rfl hk1 hb2 d_Row_become_1 ?_
  refine aw_iconst (v := (0 : Int32)) d_Row_become_4 (by decide) ?_
  refine aw_aload_n (x := a0) d_Row_become_5 rfl ?_
  obtain ⟨hk3, w⟩ := w
  obtain ⟨b4, hb4, w⟩ := w
  refine gs_Row_9 rfl hk3 hb4 d_Row_become_6 ?_
  refine aw_iconst (v := (0 : Int32)) d_Row_become_9 (by decide) ?_
  refine aw_bipush (v := (100 : Int32)) d_Row_become_10 (by decide) ?_
  obtain ⟨hk5, w⟩ := w
  obtain ⟨hk6, w⟩ := w
  obtain ⟨cs, cd, cN, hq1, hq2, hq3, hq4, hq5, hq6, hq7, hq8, w⟩ := w
  refine aw_copyB cs cd cN 681 tb_681 hk5 hk6 hq1 hq2 hq3 hq4 hq5 hq6 hq7 hq8 (by decide) (Nat.le_of_ble_eq_true rfl) d_Row_become_12 ?_
  refine aw_aload_n (x := a0) d_Row_become_15 rfl ?_
  refine aw_aload_n (x := a1) d_Row_become_16 rfl ?_
  refine gf_Row_15 rfl hk1 d_Row_become_17 ?_
  refine pf_Row_15 rfl hk3 d_Row_become_20 ?_
  refine aw_aload_n (x := a0) d_Row_become_23 rfl ?_
  refine aw_aload_n (x := a1) d_Row_become_24 rfl ?_
  refine gf_Row_22 rfl hk1 d_Row_become_25 ?_
  refine pf_Row_22 rfl hk3 d_Row_become_28 ?_
  refine aw_aload_n (x := a0) d_Row_become_31 rfl ?_
  refine aw_aload_n (x := a1) d_Row_become_32 rfl ?_
  refine gf_Row_25 rfl hk1 d_Row_become_33 ?_
  refine pf_Row_25 rfl hk3 d_Row_become_36 ?_
  exact aw_return rfl d_Row_become_39 w
set_option maxRecDepth 20000 in
theorem r_Row_raiseLetters_0 {E : zE} {K n : Nat → Nat} {I : Nat → Nat → Int32} {F : Nat → Nat → Option Nat} {J : Nat → Nat → Int64} {cb sb : Nat} {Q : zO → zH → Prop} {a0 : Nat}
    (w : AW E m_Row_raiseLetters (K, n, I, F, J) cb sb Q 2 [some (.ref a0), some (.int (0 : Int32))] []) :
    AW E m_Row_raiseLetters (K, n, I, F, J) cb sb Q 0 [some (.ref a0), none] [] := by
  refine aw_iconst (v := (0 : Int32)) d_Row_raiseLetters_0 (by decide) ?_
  refine aw_istore_n d_Row_raiseLetters_1 (by decide) ?_
  exact aw_weak (lv' := [some (.ref a0), some (.int (0 : Int32))]) ⟨rfl, rfl, trivial⟩ w
set_option maxRecDepth 20000 in
theorem r_Row_raiseLetters_2 {E : zE} {K n : Nat → Nat} {I : Nat → Nat → Int32} {F : Nat → Nat → Option Nat} {J : Nat → Nat → Int64} {cb sb : Nat} {Q : zO → zH → Prop} {a0 : Nat} {x1 : Int32}
    (w : K a0 = 4 ∧ (((I a0 1) ≤ x1 → Q (.inl none) (K, n, I, F, J)) ∧ (¬ (I a0 1) ≤ x1 → (∃ b3 : Nat, F a0 0 = some b3 ∧ K b3 = 20 ∧ (∃ j5 : Nat, x1 = nI j5 ∧ j5 < n b3 ∧ j5 < 2147483648 ∧ (((I b3 j5) < (97 : Int32) → AW E m_Row_raiseLetters (K, n, I, F, J) cb sb Q 2 [some (.ref a0), some (.int (x1 + (1 : Int32)))] []) ∧ (¬ (I b3 j5) < (97 : Int32) → (((122 : Int32) < (I b3 j5) → AW E m_Row_raiseLetters (K, n, I, F, J) cb sb Q 2 [some (.ref a0), some (.int (x1 + (1 : Int32)))] []) ∧ (¬ (122 : Int32) < (I b3 j5) → AW E m_Row_raiseLetters (K, n, (zup I b3 j5 (((I b3 j5) - (32 : Int32)).toInt8.toInt32).toInt8.toInt32), F, J) cb sb Q 2 [some (.ref a0), some (.int (x1 + (1 : Int32)))] []))))))))) :
    AW E m_Row_raiseLetters (K, n, I, F, J) cb sb Q 2 [some (.ref a0), some (.int x1)] [] := by
  refine aw_iload_n (x := x1) d_Row_raiseLetters_2 rfl ?_
  refine aw_aload_n (x := a0) d_Row_raiseLetters_3 rfl ?_
  obtain ⟨hk1, w⟩ := w
  refine gf_Row_15 rfl hk1 d_Row_raiseLetters_4 ?_
  refine aw_icmp_ge (tgt := 50) d_Row_raiseLetters_7 (by decide) (fun cc2 => ?_) (fun cc2 => ?_)
  · replace w := w.1 cc2
    exact aw_return rfl d_Row_raiseLetters_50 w
  · replace w := w.2 cc2
    refine aw_aload_n (x := a0) d_Row_raiseLetters_10 rfl ?_
    obtain ⟨b3, hb3, w⟩ := w
    refine gs_Row_9 rfl hk1 hb3 d_Row_raiseLetters_11 ?_
    refine aw_iload_n (x := x1) d_Row_raiseLetters_14 rfl ?_
    obtain ⟨hk4, w⟩ := w
    obtain ⟨j5, hj5a, hj5b, hj5c, w⟩ := w
    refine aw_baload j5 hk4 hj5a hj5b hj5c d_Row_raiseLetters_15 ?_
    refine aw_bipush (v := (97 : Int32)) d_Row_raiseLetters_16 (by decide) ?_
    refine aw_icmp_lt (tgt := 44) d_Row_raiseLetters_18 (by decide) (fun cc6 => ?_) (fun cc6 => ?_)
    · replace w := w.1 cc6
      refine aw_iinc (v := (x1 + (1 : Int32))) d_Row_raiseLetters_44 rfl (by rfl) (by decide) ?_
      refine aw_goto (tgt := 2) d_Row_raiseLetters_47 (by decide) ?_
      exact aw_weak (lv' := [some (.ref a0), some (.int (x1 + (1 : Int32)))]) ⟨rfl, rfl, trivial⟩ w
    · replace w := w.2 cc6
      refine aw_aload_n (x := a0) d_Row_raiseLetters_21 rfl ?_
      refine gs_Row_9 rfl hk1 hb3 d_Row_raiseLetters_22 ?_
      refine aw_iload_n (x := x1) d_Row_raiseLetters_25 rfl ?_
      refine aw_baload j5 hk4 hj5a hj5b hj5c d_Row_raiseLetters_26 ?_
      refine aw_bipush (v := (122 : Int32)) d_Row_raiseLetters_27 (by decide) ?_
      refine aw_icmp_gt (tgt := 44) d_Row_raiseLetters_29 (by decide) (fun cc7 => ?_) (fun cc7 => ?_)
      · replace w := w.1 cc7
        refine aw_iinc (v := (x1 + (1 : Int32))) d_Row_raiseLetters_44 rfl (by rfl) (by decide) ?_
        refine aw_goto (tgt := 2) d_Row_raiseLetters_47 (by decide) ?_
        exact aw_weak (lv' := [some (.ref a0), some (.int (x1 + (1 : Int32)))]) ⟨rfl, rfl, trivial⟩ w
      · replace w := w.2 cc7
        refine aw_aload_n (x := a0) d_Row_raiseLetters_32 rfl ?_
        refine gs_Row_9 rfl hk1 hb3 d_Row_raiseLetters_33 ?_
        refine aw_iload_n (x := x1) d_Row_raiseLetters_36 rfl ?_
        refine aw_dup2 d_Row_raiseLetters_37 rfl rfl ?_
        refine aw_baload j5 hk4 hj5a hj5b hj5c d_Row_raiseLetters_38 ?_
        refine aw_bipush (v := (32 : Int32)) d_Row_raiseLetters_39 (by decide) ?_
        refine aw_isub d_Row_raiseLetters_41 ?_
        refine aw_i2b (v := ((I b3 j5) - (32 : Int32)).toInt8.toInt32) d_Row_raiseLetters_42 rfl ?_
        refine aw_bastore j5 hk4 hj5a hj5b hj5c d_Row_raiseLetters_43 ?_
        refine aw_iinc (v := (x1 + (1 : Int32))) d_Row_raiseLetters_44 rfl (by rfl) (by decide) ?_
        refine aw_goto (tgt := 2) d_Row_raiseLetters_47 (by decide) ?_
        exact aw_weak (lv' := [some (.ref a0), some (.int (x1 + (1 : Int32)))]) ⟨rfl, rfl, trivial⟩ w
set_option maxRecDepth 20000 in
theorem r_Rows_init_0 {E : zE} {K n : Nat → Nat} {I : Nat → Nat → Int32} {F : Nat → Nat → Option Nat} {J : Nat → Nat → Int64} {cb sb : Nat} {Q : zO → zH → Prop} {a0 : Nat}
    (w : (∃ cb9 sb9 : Nat, cb9 + 1 ≤ cb ∧ sb9 + 3 ≤ sb ∧ ∀ q : Nat, K q = 0 → AW E m_Rows_init ((va_up K q 10), n, (va_up I q (fun _ => 0)), (va_up F q (fun _ => none)), J) cb9 sb9 Q 8 [some (.ref a0)] [.ref q, .ref a0])) :
    AW E m_Rows_init (K, n, I, F, J) cb sb Q 0 [some (.ref a0)] [] := by
  refine aw_aload_n (x := a0) d_Rows_init_0 rfl ?_
  refine aw_objInit 115 tb_115 (by decide) (by decide) d_Rows_init_1 ?_
  refine aw_aload_n (x := a0) d_Rows_init_4 rfl ?_
  obtain ⟨cb9, sb9, hq1, hq2, w⟩ := w
  exact aw_room hq1 hq2 (aw_weak (lv' := [some (.ref a0)]) ⟨rfl, trivial⟩ (aw_new 9 (T := zt_ArrayList) zy_ArrayList rfl (by decide) zin_ArrayList zyo_ArrayList 116 44 5 tb_116 tb_44 tb_5 (by decide) d_Rows_init_5 w))
set_option maxRecDepth 20000 in
theorem r_Rows_init_8 {E : zE} {K n : Nat → Nat} {I : Nat → Nat → Int32} {F : Nat → Nat → Option Nat} {J : Nat → Nat → Int64} {cb sb : Nat} {Q : zO → zH → Prop} {a0 : Nat} {sa0 : Nat} {sa1 : Nat}
    (w : AW E m_ArrayList_init (K, n, I, F, J) 0 0 (zAft E m_Rows_init cb sb Q 9 [some (.ref a0)] [.ref sa1, .ref sa0]) 0 [some (.ref sa1)] []) :
    AW E m_Rows_init (K, n, I, F, J) cb sb Q 8 [some (.ref a0)] [.ref sa1, .ref sa0] := by
  refine aw_dup d_Rows_init_8 rfl ?_
  exact aw_room (cb' := 0 + cb) (sb' := 0 + sb) (by omega) (by omega) (aw_weak (lv' := [some (.ref a0)]) ⟨rfl, trivial⟩ (aw_callI (M' := m_ArrayList_init) (lv0 := [some (.ref sa1)]) (As := []) (rest := [.ref sa1, .ref sa0]) 117 46 47 tb_117 tb_46 tb_47 rfl rfl rfl rfl 0 2 rfl rfl ⟨by decide, by decide, by decide +kernel, by decide +kernel, by decide, by decide⟩ (Nat.le_of_ble_eq_true rfl) ⟨rfl, trivial⟩ rfl d_Rows_init_9 w))
set_option maxRecDepth 20000 in
theorem r_Rows_init_12 {E : zE} {K n : Nat → Nat} {I : Nat → Nat → Int32} {F : Nat → Nat → Option Nat} {J : Nat → Nat → Int64} {cb sb : Nat} {Q : zO → zH → Prop} {a0 : Nat} {sa0 : Nat} {sa1 : Nat}
    (w : K sa0 = 5 ∧ K a0 = 5 ∧ Q (.inl none) (K, n, (zup I a0 1 (0 : Int32)), (zup F sa0 0 (some sa1)), J)) :
    AW E m_Rows_init (K, n, I, F, J) cb sb Q 12 [some (.ref a0)] [.ref sa1, .ref sa0] := by
  obtain ⟨hk1, w⟩ := w
  refine pf_Rows_12 (r := (some sa1)) rfl hk1 rfl d_Rows_init_12 ?_
  refine aw_aload_n (x := a0) d_Rows_init_15 rfl ?_
  refine aw_iconst (v := (0 : Int32)) d_Rows_init_16 (by decide) ?_
  obtain ⟨hk2, w⟩ := w
  refine pf_Rows_18 rfl hk2 d_Rows_init_17 ?_
  exact aw_return rfl d_Rows_init_20 w
set_option maxRecDepth 20000 in
theorem r_Rows_add_0 {E : zE} {K n : Nat → Nat} {I : Nat → Nat → Int32} {F : Nat → Nat → Option Nat} {J : Nat → Nat → Int64} {cb sb : Nat} {Q : zO → zH → Prop} {a0 : Nat}
    (w : K a0 = 5 ∧ (((I a0 1) < (150 : Int32) → (∃ b3 : Nat, F a0 0 = some b3 ∧ K b3 = 10 ∧ AW E m_ArrayList_size (K, n, I, F, J) 0 0 (zAft E m_Rows_add cb sb Q 20 [some (.ref a0), none] [.int (I a0 1)]) 0 [some (.ref b3)] [])) ∧ (¬ (I a0 1) < (150 : Int32) → Q (.inl (some (va_rf none))) (K, n, I, F, J)))) :
    AW E m_Rows_add (K, n, I, F, J) cb sb Q 0 [some (.ref a0), none] [] := by
  refine aw_aload_n (x := a0) d_Rows_add_0 rfl ?_
  obtain ⟨hk1, w⟩ := w
  refine gf_Rows_18 rfl hk1 d_Rows_add_1 ?_
  refine aw_sipush (v := (150 : Int32)) d_Rows_add_4 (by decide) ?_
  refine aw_icmp_lt (tgt := 12) d_Rows_add_7 (by decide) (fun cc2 => ?_) (fun cc2 => ?_)
  · replace w := w.1 cc2
    refine aw_aload_n (x := a0) d_Rows_add_12 rfl ?_
    refine gf_Rows_18 rfl hk1 d_Rows_add_13 ?_
    refine aw_aload_n (x := a0) d_Rows_add_16 rfl ?_
    obtain ⟨b3, hb3, w⟩ := w
    refine gs_Rows_12 rfl hk1 hb3 d_Rows_add_17 ?_
    obtain ⟨hk4, w⟩ := w
    exact aw_room (cb' := 0 + cb) (sb' := 0 + sb) (by omega) (by omega) (aw_weak (lv' := [some (.ref a0), none]) ⟨rfl, trivial⟩ (aw_callV (M' := m_ArrayList_size) (lv0 := [some (.ref b3)]) (As := []) (rest := [.int (I a0 1)]) 9 585 515 517 rfl (by decide) rfl hk4 tb_585 tb_515 tb_517 (fun U hU => hU.t 516 tb_516 rfl) rfl rfl 0 1 rfl rfl ⟨by decide, by decide, by decide +kernel, by decide +kernel, by decide, by decide⟩ (Nat.le_of_ble_eq_true rfl) ⟨rfl, trivial⟩ rfl d_Rows_add_20 w))
  · replace w := w.2 cc2
    refine aw_null d_Rows_add_10 ?_
    exact aw_areturn (r := none) _ rfl rfl d_Rows_add_11 w
set_option maxRecDepth 20000 in
theorem r_Rows_add_23 {E : zE} {K n : Nat → Nat} {I : Nat → Nat → Int32} {F : Nat → Nat → Option Nat} {J : Nat → Nat → Int64} {cb sb : Nat} {Q : zO → zH → Prop} {a0 : Nat} {sx0 : Int32} {sx1 : Int32}
    (w : ((sx0 < sx1 → K a0 = 5 ∧ (∃ b3 : Nat, F a0 0 = some b3 ∧ K b3 = 10 ∧ AW E m_ArrayList_get (K, n, I, F, J) 0 0 (zAft E m_Rows_add cb sb Q 49 [some (.ref a0), none] []) 0 [some (.ref b3), some (.int (I a0 1))] [])) ∧ (¬ sx0 < sx1 → K a0 = 5 ∧ (∃ b6 : Nat, F a0 0 = some b6 ∧ (∃ cb9 sb9 : Nat, cb9 + 1 ≤ cb ∧ sb9 + 5 ≤ sb ∧ ∀ q : Nat, K q = 0 → AW E m_Rows_add ((va_up K q 4), n, (va_up I q (fun _ => 0)), (va_up F q (fun _ => none)), J) cb9 sb9 Q 33 [some (.ref a0), none] [.ref q, .ref b6]))))) :
    AW E m_Rows_add (K, n, I, F, J) cb sb Q 23 [some (.ref a0), none] [.int sx1, .int sx0] := by
  refine aw_icmp_lt (tgt := 41) d_Rows_add_23 (by decide) (fun cc1 => ?_) (fun cc1 => ?_)
  · replace w := w.1 cc1
    refine aw_aload_n (x := a0) d_Rows_add_41 rfl ?_
    obtain ⟨hk2, w⟩ := w
    obtain ⟨b3, hb3, w⟩ := w
    refine gs_Rows_12 rfl hk2 hb3 d_Rows_add_42 ?_
    refine aw_aload_n (x := a0) d_Rows_add_45 rfl ?_
    refine gf_Rows_18 rfl hk2 d_Rows_add_46 ?_
    obtain ⟨hk4, w⟩ := w
    exact aw_room (cb' := 0 + cb) (sb' := 0 + sb) (by omega) (by omega) (aw_weak (lv' := [some (.ref a0), none]) ⟨rfl, trivial⟩ (aw_callV (M' := m_ArrayList_get) (lv0 := [some (.ref b3), some (.int (I a0 1))]) (As := [.int (I a0 1)]) (rest := []) 9 589 590 592 rfl (by decide) rfl hk4 tb_589 tb_590 tb_592 (fun U hU => hU.t 591 tb_591 rfl) rfl rfl 1 0 rfl rfl ⟨by decide, by decide, by decide +kernel, by decide +kernel, by decide, by decide⟩ (Nat.le_of_ble_eq_true rfl) ⟨rfl, rfl, trivial⟩ rfl d_Rows_add_49 w))
  · replace w := w.2 cc1
    refine aw_aload_n (x := a0) d_Rows_add_26 rfl ?_
    obtain ⟨hk5, w⟩ := w
    obtain ⟨b6, hb6, w⟩ := w
    refine gs_Rows_12 rfl hk5 hb6 d_Rows_add_27 ?_
    obtain ⟨cb9, sb9, hq1, hq2, w⟩ := w
    exact aw_room hq1 hq2 (aw_weak (lv' := [some (.ref a0), none]) ⟨rfl, trivial⟩ (aw_new 3 (T := zt_Row) zy_Row rfl (by decide) zin_Row zyo_Row 586 129 7 tb_586 tb_129 tb_7 (by decide) d_Rows_add_30 w))
set_option maxRecDepth 20000 in
theorem r_Rows_add_33 {E : zE} {K n : Nat → Nat} {I : Nat → Nat → Int32} {F : Nat → Nat → Option Nat} {J : Nat → Nat → Int64} {cb sb : Nat} {Q : zO → zH → Prop} {a0 : Nat} {sa0 : Nat} {sa1 : Nat}
    (w : (∃ c1 s1 c2 s2 : Nat, c1 + c2 ≤ cb ∧ s1 + s2 ≤ sb ∧ AW E m_Row_init (K, n, I, F, J) c1 s1 (zAft E m_Rows_add c2 s2 Q 34 [some (.ref a0), none] [.ref sa1, .ref sa0]) 0 [some (.ref sa1)] [])) :
    AW E m_Rows_add (K, n, I, F, J) cb sb Q 33 [some (.ref a0), none] [.ref sa1, .ref sa0] := by
  refine aw_dup d_Rows_add_33 rfl ?_
  obtain ⟨c1, s1, c2, s2, hq1, hq2, w⟩ := w
  exact aw_room hq1 hq2 (aw_weak (lv' := [some (.ref a0), none]) ⟨rfl, trivial⟩ (aw_callIN (M' := m_Row_init) (lv0 := [some (.ref sa1)]) (As := []) (rest := [.ref sa1, .ref sa0]) 587 131 132 "SortUtility" tb_587 tb_131 tb_132 rfl rfl rfl rfl 0 2 rfl rfl ⟨by decide, by decide, by decide +kernel, by decide +kernel, by decide, by decide⟩ (Nat.le_of_ble_eq_true rfl) ⟨rfl, trivial⟩ rfl d_Rows_add_34 w))
set_option maxRecDepth 20000 in
theorem r_Rows_add_37 {E : zE} {K n : Nat → Nat} {I : Nat → Nat → Int32} {F : Nat → Nat → Option Nat} {J : Nat → Nat → Int64} {cb sb : Nat} {Q : zO → zH → Prop} {a0 : Nat} {sa0 : Nat} {sa1 : Nat}
    (w : K sa0 = 10 ∧ (∃ c1 s1 c2 s2 : Nat, c1 + c2 ≤ cb ∧ s1 + s2 ≤ sb ∧ AW E m_ArrayList_add (K, n, I, F, J) c1 s1 (zAft E m_Rows_add c2 s2 Q 37 [some (.ref a0), none] []) 0 [some (.ref sa0), some (.ref sa1)] [])) :
    AW E m_Rows_add (K, n, I, F, J) cb sb Q 37 [some (.ref a0), none] [.ref sa1, .ref sa0] := by
  obtain ⟨hk1, w⟩ := w
  obtain ⟨c1, s1, c2, s2, hq1, hq2, w⟩ := w
  exact aw_room hq1 hq2 (aw_weak (lv' := [some (.ref a0), none]) ⟨rfl, trivial⟩ (aw_callV (M' := m_ArrayList_add) (lv0 := [some (.ref sa0), some (.ref sa1)]) (As := [.ref sa1]) (rest := []) 9 588 457 459 rfl (by decide) rfl hk1 tb_588 tb_457 tb_459 (fun U hU => hU.t 458 tb_458 rfl) rfl rfl 1 0 rfl rfl ⟨by decide, by decide, by decide +kernel, by decide +kernel, by decide, by decide⟩ (Nat.le_of_ble_eq_true rfl) ⟨rfl, rfl, trivial⟩ rfl d_Rows_add_37 w))
set_option maxRecDepth 20000 in
theorem r_Rows_add_40 {E : zE} {K n : Nat → Nat} {I : Nat → Nat → Int32} {F : Nat → Nat → Option Nat} {J : Nat → Nat → Int64} {cb sb : Nat} {Q : zO → zH → Prop} {a0 : Nat} {sx0 : Int32}
    (w : K a0 = 5 ∧ (∃ b2 : Nat, F a0 0 = some b2 ∧ K b2 = 10 ∧ AW E m_ArrayList_get (K, n, I, F, J) 0 0 (zAft E m_Rows_add cb sb Q 49 [some (.ref a0), none] []) 0 [some (.ref b2), some (.int (I a0 1))] [])) :
    AW E m_Rows_add (K, n, I, F, J) cb sb Q 40 [some (.ref a0), none] [.int sx0] := by
  refine aw_pop d_Rows_add_40 rfl ?_
  refine aw_aload_n (x := a0) d_Rows_add_41 rfl ?_
  obtain ⟨hk1, w⟩ := w
  obtain ⟨b2, hb2, w⟩ := w
  refine gs_Rows_12 rfl hk1 hb2 d_Rows_add_42 ?_
  refine aw_aload_n (x := a0) d_Rows_add_45 rfl ?_
  refine gf_Rows_18 rfl hk1 d_Rows_add_46 ?_
  obtain ⟨hk3, w⟩ := w
  exact aw_room (cb' := 0 + cb) (sb' := 0 + sb) (by omega) (by omega) (aw_weak (lv' := [some (.ref a0), none]) ⟨rfl, trivial⟩ (aw_callV (M' := m_ArrayList_get) (lv0 := [some (.ref b2), some (.int (I a0 1))]) (As := [.int (I a0 1)]) (rest := []) 9 589 590 592 rfl (by decide) rfl hk3 tb_589 tb_590 tb_592 (fun U hU => hU.t 591 tb_591 rfl) rfl rfl 1 0 rfl rfl ⟨by decide, by decide, by decide +kernel, by decide +kernel, by decide, by decide⟩ (Nat.le_of_ble_eq_true rfl) ⟨rfl, rfl, trivial⟩ rfl d_Rows_add_49 w))
set_option maxRecDepth 20000 in
theorem r_Rows_add_52 {E : zE} {K n : Nat → Nat} {I : Nat → Nat → Int32} {F : Nat → Nat → Option Nat} {J : Nat → Nat → Int64} {cb sb : Nat} {Q : zO → zH → Prop} {a0 : Nat} {sa0 : Nat}
    (w : K sa0 = 4 ∧ K a0 = 5 ∧ Q (.inl (some (.ref sa0))) (K, n, (zup (zup I sa0 1 (0 : Int32)) a0 1 (((zup I sa0 1 (0 : Int32)) a0 1) + (1 : Int32))), F, J)) :
    AW E m_Rows_add (K, n, I, F, J) cb sb Q 52 [some (.ref a0), none] [.ref sa0] := by
  obtain ⟨hk1, w⟩ := w
  refine aw_castO 3 586 rfl (by decide) tb_586 hk1 d_Rows_add_52 ?_
  refine aw_astore_n d_Rows_add_55 (by decide) ?_
  refine aw_aload_n (x := sa0) d_Rows_add_56 rfl ?_
  refine aw_iconst (v := (0 : Int32)) d_Rows_add_57 (by decide) ?_
  refine pf_Rows_36 rfl hk1 d_Rows_add_58 ?_
  refine aw_aload_n (x := a0) d_Rows_add_61 rfl ?_
  refine aw_dup d_Rows_add_62 rfl ?_
  obtain ⟨hk2, w⟩ := w
  refine gf_Rows_18 rfl hk2 d_Rows_add_63 ?_
  refine aw_iconst (v := (1 : Int32)) d_Rows_add_66 (by decide) ?_
  refine aw_iadd d_Rows_add_67 ?_
  refine pf_Rows_18 rfl hk2 d_Rows_add_68 ?_
  refine aw_aload_n (x := sa0) d_Rows_add_71 rfl ?_
  exact aw_areturn (r := (some sa0)) _ rfl rfl d_Rows_add_72 w
set_option maxRecDepth 20000 in
theorem r_Rows_at_0 {E : zE} {K n : Nat → Nat} {I : Nat → Nat → Int32} {F : Nat → Nat → Option Nat} {J : Nat → Nat → Int64} {cb sb : Nat} {Q : zO → zH → Prop} {a0 : Nat} {x1 : Int32}
    (w : ((x1 < 0 → Q (.inl (some (va_rf none))) (K, n, I, F, J)) ∧ (¬ x1 < 0 → K a0 = 5 ∧ (((I a0 1) ≤ x1 → Q (.inl (some (va_rf none))) (K, n, I, F, J)) ∧ (¬ (I a0 1) ≤ x1 → (∃ b4 : Nat, F a0 0 = some b4 ∧ K b4 = 10 ∧ AW E m_ArrayList_get (K, n, I, F, J) 0 0 (zAft E m_Rows_at cb sb Q 17 [none, none] []) 0 [some (.ref b4), some (.int x1)] [])))))) :
    AW E m_Rows_at (K, n, I, F, J) cb sb Q 0 [some (.ref a0), some (.int x1)] [] := by
  refine aw_iload_n (x := x1) d_Rows_at_0 rfl ?_
  refine aw_if_lt (tgt := 26) d_Rows_at_1 (by decide) (fun cc1 => ?_) (fun cc1 => ?_)
  · replace w := w.1 cc1
    refine aw_null d_Rows_at_26 ?_
    exact aw_areturn (r := none) _ rfl rfl d_Rows_at_27 w
  · replace w := w.2 cc1
    refine aw_iload_n (x := x1) d_Rows_at_4 rfl ?_
    refine aw_aload_n (x := a0) d_Rows_at_5 rfl ?_
    obtain ⟨hk2, w⟩ := w
    refine gf_Rows_18 rfl hk2 d_Rows_at_6 ?_
    refine aw_icmp_ge (tgt := 26) d_Rows_at_9 (by decide) (fun cc3 => ?_) (fun cc3 => ?_)
    · replace w := w.1 cc3
      refine aw_null d_Rows_at_26 ?_
      exact aw_areturn (r := none) _ rfl rfl d_Rows_at_27 w
    · replace w := w.2 cc3
      refine aw_aload_n (x := a0) d_Rows_at_12 rfl ?_
      obtain ⟨b4, hb4, w⟩ := w
      refine gs_Rows_12 rfl hk2 hb4 d_Rows_at_13 ?_
      refine aw_iload_n (x := x1) d_Rows_at_16 rfl ?_
      obtain ⟨hk5, w⟩ := w
      exact aw_room (cb' := 0 + cb) (sb' := 0 + sb) (by omega) (by omega) (aw_weak (lv' := [none, none]) trivial (aw_callV (M' := m_ArrayList_get) (lv0 := [some (.ref b4), some (.int x1)]) (As := [.int x1]) (rest := []) 9 589 590 592 rfl (by decide) rfl hk5 tb_589 tb_590 tb_592 (fun U hU => hU.t 591 tb_591 rfl) rfl rfl 1 0 rfl rfl ⟨by decide, by decide, by decide +kernel, by decide +kernel, by decide, by decide⟩ (Nat.le_of_ble_eq_true rfl) ⟨rfl, rfl, trivial⟩ rfl d_Rows_at_17 w))
set_option maxRecDepth 20000 in
theorem r_Rows_at_20 {E : zE} {K n : Nat → Nat} {I : Nat → Nat → Int32} {F : Nat → Nat → Option Nat} {J : Nat → Nat → Int64} {cb sb : Nat} {Q : zO → zH → Prop} {sa0 : Nat}
    (w : K sa0 = 4 ∧ Q (.inl (some (.ref sa0))) (K, n, I, F, J)) :
    AW E m_Rows_at (K, n, I, F, J) cb sb Q 20 [none, none] [.ref sa0] := by
  obtain ⟨hk1, w⟩ := w
  refine aw_castO 3 586 rfl (by decide) tb_586 hk1 d_Rows_at_20 ?_
  refine aw_goto (tgt := 27) d_Rows_at_23 (by decide) ?_
  exact aw_areturn (r := (some sa0)) _ rfl rfl d_Rows_at_27 w
set_option maxRecDepth 20000 in
theorem r_Rows_clear_0 {E : zE} {K n : Nat → Nat} {I : Nat → Nat → Int32} {F : Nat → Nat → Option Nat} {J : Nat → Nat → Int64} {cb sb : Nat} {Q : zO → zH → Prop} {a0 : Nat}
    (w : K a0 = 5 ∧ Q (.inl none) (K, n, (zup I a0 1 (0 : Int32)), F, J)) :
    AW E m_Rows_clear (K, n, I, F, J) cb sb Q 0 [some (.ref a0)] [] := by
  refine aw_aload_n (x := a0) d_Rows_clear_0 rfl ?_
  refine aw_iconst (v := (0 : Int32)) d_Rows_clear_1 (by decide) ?_
  obtain ⟨hk1, w⟩ := w
  refine pf_Rows_18 rfl hk1 d_Rows_clear_2 ?_
  exact aw_return rfl d_Rows_clear_5 w
set_option maxRecDepth 20000 in
theorem r_Statements_init_0 {E : zE} {K n : Nat → Nat} {I : Nat → Nat → Int32} {F : Nat → Nat → Option Nat} {J : Nat → Nat → Int64} {cb sb : Nat} {Q : zO → zH → Prop} {a0 : Nat}
    (w : (∃ cb9 sb9 : Nat, cb9 + 1 ≤ cb ∧ sb9 + 3 ≤ sb ∧ ∀ q : Nat, K q = 0 → AW E m_Statements_init ((va_up K q 10), n, (va_up I q (fun _ => 0)), (va_up F q (fun _ => none)), J) cb9 sb9 Q 8 [some (.ref a0)] [.ref q, .ref a0])) :
    AW E m_Statements_init (K, n, I, F, J) cb sb Q 0 [some (.ref a0)] [] := by
  refine aw_aload_n (x := a0) d_Statements_init_0 rfl ?_
  refine aw_objInit 42 tb_42 (by decide) (by decide) d_Statements_init_1 ?_
  refine aw_aload_n (x := a0) d_Statements_init_4 rfl ?_
  obtain ⟨cb9, sb9, hq1, hq2, w⟩ := w
  exact aw_room hq1 hq2 (aw_weak (lv' := [some (.ref a0)]) ⟨rfl, trivial⟩ (aw_new 9 (T := zt_ArrayList) zy_ArrayList rfl (by decide) zin_ArrayList zyo_ArrayList 43 44 5 tb_43 tb_44 tb_5 (by decide) d_Statements_init_5 w))
set_option maxRecDepth 20000 in
theorem r_Statements_init_8 {E : zE} {K n : Nat → Nat} {I : Nat → Nat → Int32} {F : Nat → Nat → Option Nat} {J : Nat → Nat → Int64} {cb sb : Nat} {Q : zO → zH → Prop} {a0 : Nat} {sa0 : Nat} {sa1 : Nat}
    (w : AW E m_ArrayList_init (K, n, I, F, J) 0 0 (zAft E m_Statements_init cb sb Q 9 [some (.ref a0)] [.ref sa1, .ref sa0]) 0 [some (.ref sa1)] []) :
    AW E m_Statements_init (K, n, I, F, J) cb sb Q 8 [some (.ref a0)] [.ref sa1, .ref sa0] := by
  refine aw_dup d_Statements_init_8 rfl ?_
  exact aw_room (cb' := 0 + cb) (sb' := 0 + sb) (by omega) (by omega) (aw_weak (lv' := [some (.ref a0)]) ⟨rfl, trivial⟩ (aw_callI (M' := m_ArrayList_init) (lv0 := [some (.ref sa1)]) (As := []) (rest := [.ref sa1, .ref sa0]) 45 46 47 tb_45 tb_46 tb_47 rfl rfl rfl rfl 0 2 rfl rfl ⟨by decide, by decide, by decide +kernel, by decide +kernel, by decide, by decide⟩ (Nat.le_of_ble_eq_true rfl) ⟨rfl, trivial⟩ rfl d_Statements_init_9 w))
set_option maxRecDepth 20000 in
theorem r_Statements_init_12 {E : zE} {K n : Nat → Nat} {I : Nat → Nat → Int32} {F : Nat → Nat → Option Nat} {J : Nat → Nat → Int64} {cb sb : Nat} {Q : zO → zH → Prop} {a0 : Nat} {sa0 : Nat} {sa1 : Nat}
    (w : K sa0 = 6 ∧ (∃ cb9 sb9 : Nat, cb9 + 1 ≤ cb ∧ sb9 + 3 ≤ sb ∧ ∀ q : Nat, K q = 0 → AW E m_Statements_init ((va_up K q 10), n, (va_up I q (fun _ => 0)), (va_up (zup F sa0 0 (some sa1)) q (fun _ => none)), J) cb9 sb9 Q 19 [some (.ref a0)] [.ref q, .ref a0])) :
    AW E m_Statements_init (K, n, I, F, J) cb sb Q 12 [some (.ref a0)] [.ref sa1, .ref sa0] := by
  obtain ⟨hk1, w⟩ := w
  refine pf_Statements_12 (r := (some sa1)) rfl hk1 rfl d_Statements_init_12 ?_
  refine aw_aload_n (x := a0) d_Statements_init_15 rfl ?_
  obtain ⟨cb9, sb9, hq1, hq2, w⟩ := w
  exact aw_room hq1 hq2 (aw_weak (lv' := [some (.ref a0)]) ⟨rfl, trivial⟩ (aw_new 9 (T := zt_ArrayList) zy_ArrayList rfl (by decide) zin_ArrayList zyo_ArrayList 43 44 5 tb_43 tb_44 tb_5 (by decide) d_Statements_init_16 w))
set_option maxRecDepth 20000 in
theorem r_Statements_init_19 {E : zE} {K n : Nat → Nat} {I : Nat → Nat → Int32} {F : Nat → Nat → Option Nat} {J : Nat → Nat → Int64} {cb sb : Nat} {Q : zO → zH → Prop} {a0 : Nat} {sa0 : Nat} {sa1 : Nat}
    (w : AW E m_ArrayList_init (K, n, I, F, J) 0 0 (zAft E m_Statements_init cb sb Q 20 [some (.ref a0)] [.ref sa1, .ref sa0]) 0 [some (.ref sa1)] []) :
    AW E m_Statements_init (K, n, I, F, J) cb sb Q 19 [some (.ref a0)] [.ref sa1, .ref sa0] := by
  refine aw_dup d_Statements_init_19 rfl ?_
  exact aw_room (cb' := 0 + cb) (sb' := 0 + sb) (by omega) (by omega) (aw_weak (lv' := [some (.ref a0)]) ⟨rfl, trivial⟩ (aw_callI (M' := m_ArrayList_init) (lv0 := [some (.ref sa1)]) (As := []) (rest := [.ref sa1, .ref sa0]) 45 46 47 tb_45 tb_46 tb_47 rfl rfl rfl rfl 0 2 rfl rfl ⟨by decide, by decide, by decide +kernel, by decide +kernel, by decide, by decide⟩ (Nat.le_of_ble_eq_true rfl) ⟨rfl, trivial⟩ rfl d_Statements_init_20 w))
set_option maxRecDepth 20000 in
theorem r_Statements_init_23 {E : zE} {K n : Nat → Nat} {I : Nat → Nat → Int32} {F : Nat → Nat → Option Nat} {J : Nat → Nat → Int64} {cb sb : Nat} {Q : zO → zH → Prop} {a0 : Nat} {sa0 : Nat} {sa1 : Nat}
    (w : K sa0 = 6 ∧ (∃ cb9 sb9 : Nat, cb9 + 1 ≤ cb ∧ sb9 + 3 ≤ sb ∧ ∀ q : Nat, K q = 0 → AW E m_Statements_init ((va_up K q 10), n, (va_up I q (fun _ => 0)), (va_up (zup F sa0 1 (some sa1)) q (fun _ => none)), J) cb9 sb9 Q 30 [some (.ref a0)] [.ref q, .ref a0])) :
    AW E m_Statements_init (K, n, I, F, J) cb sb Q 23 [some (.ref a0)] [.ref sa1, .ref sa0] := by
  obtain ⟨hk1, w⟩ := w
  refine pf_Statements_18 (r := (some sa1)) rfl hk1 rfl d_Statements_init_23 ?_
  refine aw_aload_n (x := a0) d_Statements_init_26 rfl ?_
  obtain ⟨cb9, sb9, hq1, hq2, w⟩ := w
  exact aw_room hq1 hq2 (aw_weak (lv' := [some (.ref a0)]) ⟨rfl, trivial⟩ (aw_new 9 (T := zt_ArrayList) zy_ArrayList rfl (by decide) zin_ArrayList zyo_ArrayList 43 44 5 tb_43 tb_44 tb_5 (by decide) d_Statements_init_27 w))
set_option maxRecDepth 20000 in
theorem r_Statements_init_30 {E : zE} {K n : Nat → Nat} {I : Nat → Nat → Int32} {F : Nat → Nat → Option Nat} {J : Nat → Nat → Int64} {cb sb : Nat} {Q : zO → zH → Prop} {a0 : Nat} {sa0 : Nat} {sa1 : Nat}
    (w : AW E m_ArrayList_init (K, n, I, F, J) 0 0 (zAft E m_Statements_init cb sb Q 31 [some (.ref a0)] [.ref sa1, .ref sa0]) 0 [some (.ref sa1)] []) :
    AW E m_Statements_init (K, n, I, F, J) cb sb Q 30 [some (.ref a0)] [.ref sa1, .ref sa0] := by
  refine aw_dup d_Statements_init_30 rfl ?_
  exact aw_room (cb' := 0 + cb) (sb' := 0 + sb) (by omega) (by omega) (aw_weak (lv' := [some (.ref a0)]) ⟨rfl, trivial⟩ (aw_callI (M' := m_ArrayList_init) (lv0 := [some (.ref sa1)]) (As := []) (rest := [.ref sa1, .ref sa0]) 45 46 47 tb_45 tb_46 tb_47 rfl rfl rfl rfl 0 2 rfl rfl ⟨by decide, by decide, by decide +kernel, by decide +kernel, by decide, by decide⟩ (Nat.le_of_ble_eq_true rfl) ⟨rfl, trivial⟩ rfl d_Statements_init_31 w))
set_option maxRecDepth 20000 in
theorem r_Statements_init_34 {E : zE} {K n : Nat → Nat} {I : Nat → Nat → Int32} {F : Nat → Nat → Option Nat} {J : Nat → Nat → Int64} {cb sb : Nat} {Q : zO → zH → Prop} {a0 : Nat} {sa0 : Nat} {sa1 : Nat}
    (w : K sa0 = 6 ∧ (∃ cb9 sb9 : Nat, cb9 + 1 ≤ cb ∧ sb9 + 3 ≤ sb ∧ ∀ q : Nat, K q = 0 → AW E m_Statements_init ((va_up K q 10), n, (va_up I q (fun _ => 0)), (va_up (zup F sa0 2 (some sa1)) q (fun _ => none)), J) cb9 sb9 Q 41 [some (.ref a0)] [.ref q, .ref a0])) :
    AW E m_Statements_init (K, n, I, F, J) cb sb Q 34 [some (.ref a0)] [.ref sa1, .ref sa0] := by
  obtain ⟨hk1, w⟩ := w
  refine pf_Statements_21 (r := (some sa1)) rfl hk1 rfl d_Statements_init_34 ?_
  refine aw_aload_n (x := a0) d_Statements_init_37 rfl ?_
  obtain ⟨cb9, sb9, hq1, hq2, w⟩ := w
  exact aw_room hq1 hq2 (aw_weak (lv' := [some (.ref a0)]) ⟨rfl, trivial⟩ (aw_new 9 (T := zt_ArrayList) zy_ArrayList rfl (by decide) zin_ArrayList zyo_ArrayList 43 44 5 tb_43 tb_44 tb_5 (by decide) d_Statements_init_38 w))
set_option maxRecDepth 20000 in
theorem r_Statements_init_41 {E : zE} {K n : Nat → Nat} {I : Nat → Nat → Int32} {F : Nat → Nat → Option Nat} {J : Nat → Nat → Int64} {cb sb : Nat} {Q : zO → zH → Prop} {a0 : Nat} {sa0 : Nat} {sa1 : Nat}
    (w : AW E m_ArrayList_init (K, n, I, F, J) 0 0 (zAft E m_Statements_init cb sb Q 42 [some (.ref a0)] [.ref sa1, .ref sa0]) 0 [some (.ref sa1)] []) :
    AW E m_Statements_init (K, n, I, F, J) cb sb Q 41 [some (.ref a0)] [.ref sa1, .ref sa0] := by
  refine aw_dup d_Statements_init_41 rfl ?_
  exact aw_room (cb' := 0 + cb) (sb' := 0 + sb) (by omega) (by omega) (aw_weak (lv' := [some (.ref a0)]) ⟨rfl, trivial⟩ (aw_callI (M' := m_ArrayList_init) (lv0 := [some (.ref sa1)]) (As := []) (rest := [.ref sa1, .ref sa0]) 45 46 47 tb_45 tb_46 tb_47 rfl rfl rfl rfl 0 2 rfl rfl ⟨by decide, by decide, by decide +kernel, by decide +kernel, by decide, by decide⟩ (Nat.le_of_ble_eq_true rfl) ⟨rfl, trivial⟩ rfl d_Statements_init_42 w))
set_option maxRecDepth 20000 in
theorem r_Statements_init_45 {E : zE} {K n : Nat → Nat} {I : Nat → Nat → Int32} {F : Nat → Nat → Option Nat} {J : Nat → Nat → Int64} {cb sb : Nat} {Q : zO → zH → Prop} {a0 : Nat} {sa0 : Nat} {sa1 : Nat}
    (w : K sa0 = 6 ∧ K a0 = 6 ∧ Q (.inl none) (K, n, (zup (zup (zup (zup I a0 4 (0 : Int32)) a0 5 (0 : Int32)) a0 6 (9999 : Int32)) a0 7 (0 : Int32)), (zup F sa0 3 (some sa1)), J)) :
    AW E m_Statements_init (K, n, I, F, J) cb sb Q 45 [some (.ref a0)] [.ref sa1, .ref sa0] := by
  obtain ⟨hk1, w⟩ := w
  refine pf_Statements_24 (r := (some sa1)) rfl hk1 rfl d_Statements_init_45 ?_
  refine aw_aload_n (x := a0) d_Statements_init_48 rfl ?_
  refine aw_iconst (v := (0 : Int32)) d_Statements_init_49 (by decide) ?_
  obtain ⟨hk2, w⟩ := w
  refine pf_Statements_27 rfl hk2 (by decide) d_Statements_init_50 ?_
  refine aw_aload_n (x := a0) d_Statements_init_53 rfl ?_
  refine aw_iconst (v := (0 : Int32)) d_Statements_init_54 (by decide) ?_
  refine pf_Statements_31 rfl hk2 d_Statements_init_55 ?_
  refine aw_aload_n (x := a0) d_Statements_init_58 rfl ?_
  refine aw_sipush (v := (9999 : Int32)) d_Statements_init_59 (by decide) ?_
  refine pf_Statements_35 rfl hk2 d_Statements_init_62 ?_
  refine aw_aload_n (x := a0) d_Statements_init_65 rfl ?_
  refine aw_iconst (v := (0 : Int32)) d_Statements_init_66 (by decide) ?_
  refine pf_Statements_38 rfl hk2 d_Statements_init_67 ?_
  exact aw_return rfl d_Statements_init_70 w
set_option maxRecDepth 20000 in
theorem r_Statements_compareRows_0 {E : zE} {K n : Nat → Nat} {I : Nat → Nat → Int32} {F : Nat → Nat → Option Nat} {J : Nat → Nat → Int64} {cb sb : Nat} {Q : zO → zH → Prop} {a0 : Nat} {a1 : Nat} {a2 : Nat}
    (w : AW E m_Statements_compareRows (K, n, I, F, J) cb sb Q 2 [some (.ref a0), some (.ref a1), some (.ref a2), some (.int (0 : Int32)), none, none] []) :
    AW E m_Statements_compareRows (K, n, I, F, J) cb sb Q 0 [some (.ref a0), some (.ref a1), some (.ref a2), none, none, none] [] := by
  refine aw_iconst (v := (0 : Int32)) d_Statements_compareRows_0 (by decide) ?_
  refine aw_istore_n d_Statements_compareRows_1 (by decide) ?_
  exact aw_weak (lv' := [some (.ref a0), some (.ref a1), some (.ref a2), some (.int (0 : Int32)), none, none]) ⟨rfl, rfl, rfl, rfl, trivial⟩ w
set_option maxRecDepth 20000 in
theorem r_Statements_compareRows_2 {E : zE} {K n : Nat → Nat} {I : Nat → Nat → Int32} {F : Nat → Nat → Option Nat} {J : Nat → Nat → Int64} {cb sb : Nat} {Q : zO → zH → Prop} {a0 : Nat} {a1 : Nat} {a2 : Nat} {x3 : Int32}
    (w : K a0 = 6 ∧ (∃ b2 : Nat, F a0 0 = some b2 ∧ K b2 = 10 ∧ AW E m_ArrayList_size (K, n, I, F, J) 0 0 (zAft E m_Statements_compareRows cb sb Q 7 [some (.ref a0), some (.ref a1), some (.ref a2), some (.int x3), none, none] [.int x3]) 0 [some (.ref b2)] [])) :
    AW E m_Statements_compareRows (K, n, I, F, J) cb sb Q 2 [some (.ref a0), some (.ref a1), some (.ref a2), some (.int x3), none, none] [] := by
  refine aw_iload_n (x := x3) d_Statements_compareRows_2 rfl ?_
  refine aw_aload_n (x := a0) d_Statements_compareRows_3 rfl ?_
  obtain ⟨hk1, w⟩ := w
  obtain ⟨b2, hb2, w⟩ := w
  refine gs_Statements_12 rfl hk1 hb2 d_Statements_compareRows_4 ?_
  obtain ⟨hk3, w⟩ := w
  exact aw_room (cb' := 0 + cb) (sb' := 0 + sb) (by omega) (by omega) (aw_weak (lv' := [some (.ref a0), some (.ref a1), some (.ref a2), some (.int x3), none, none]) ⟨rfl, rfl, rfl, rfl, trivial⟩ (aw_callV (M' := m_ArrayList_size) (lv0 := [some (.ref b2)]) (As := []) (rest := [.int x3]) 9 651 515 517 rfl (by decide) rfl hk3 tb_651 tb_515 tb_517 (fun U hU => hU.t 516 tb_516 rfl) rfl rfl 0 1 rfl rfl ⟨by decide, by decide, by decide +kernel, by decide +kernel, by decide, by decide⟩ (Nat.le_of_ble_eq_true rfl) ⟨rfl, trivial⟩ rfl d_Statements_compareRows_7 w))
set_option maxRecDepth 20000 in
theorem r_Statements_compareRows_10 {E : zE} {K n : Nat → Nat} {I : Nat → Nat → Int32} {F : Nat → Nat → Option Nat} {J : Nat → Nat → Int64} {cb sb : Nat} {Q : zO → zH → Prop} {a0 : Nat} {a1 : Nat} {a2 : Nat} {x3 : Int32} {sx0 : Int32} {sx1 : Int32}
    (w : ((sx1 ≤ sx0 → Q (.inl (some (.int (0 : Int32)))) (K, n, I, F, J)) ∧ (¬ sx1 ≤ sx0 → K a0 = 6 ∧ (∃ b3 : Nat, F a0 0 = some b3 ∧ K b3 = 10 ∧ AW E m_ArrayList_get (K, n, I, F, J) 0 0 (zAft E m_Statements_compareRows cb sb Q 18 [some (.ref a0), some (.ref a1), some (.ref a2), some (.int x3), none, none] []) 0 [some (.ref b3), some (.int x3)] [])))) :
    AW E m_Statements_compareRows (K, n, I, F, J) cb sb Q 10 [some (.ref a0), some (.ref a1), some (.ref a2), some (.int x3), none, none] [.int sx1, .int sx0] := by
  refine aw_icmp_ge (tgt := 76) d_Statements_compareRows_10 (by decide) (fun cc1 => ?_) (fun cc1 => ?_)
  · replace w := w.1 cc1
    refine aw_iconst (v := (0 : Int32)) d_Statements_compareRows_76 (by decide) ?_
    exact aw_ireturn .int rfl rfl d_Statements_compareRows_77 w
  · replace w := w.2 cc1
    refine aw_aload_n (x := a0) d_Statements_compareRows_13 rfl ?_
    obtain ⟨hk2, w⟩ := w
    obtain ⟨b3, hb3, w⟩ := w
    refine gs_Statements_12 rfl hk2 hb3 d_Statements_compareRows_14 ?_
    refine aw_iload_n (x := x3) d_Statements_compareRows_17 rfl ?_
    obtain ⟨hk4, w⟩ := w
    exact aw_room (cb' := 0 + cb) (sb' := 0 + sb) (by omega) (by omega) (aw_weak (lv' := [some (.ref a0), some (.ref a1), some (.ref a2), some (.int x3), none, none]) ⟨rfl, rfl, rfl, rfl, trivial⟩ (aw_callV (M' := m_ArrayList_get) (lv0 := [some (.ref b3), some (.int x3)]) (As := [.int x3]) (rest := []) 9 629 590 592 rfl (by decide) rfl hk4 tb_629 tb_590 tb_592 (fun U hU => hU.t 591 tb_591 rfl) rfl rfl 1 0 rfl rfl ⟨by decide, by decide, by decide +kernel, by decide +kernel, by decide, by decide⟩ (Nat.le_of_ble_eq_true rfl) ⟨rfl, rfl, trivial⟩ rfl d_Statements_compareRows_18 w))
set_option maxRecDepth 20000 in
theorem r_Statements_compareRows_21 {E : zE} {K n : Nat → Nat} {I : Nat → Nat → Int32} {F : Nat → Nat → Option Nat} {J : Nat → Nat → Int64} {cb sb : Nat} {Q : zO → zH → Prop} {a0 : Nat} {a1 : Nat} {a2 : Nat} {x3 : Int32} {sa0 : Nat}
    (w : K sa0 = 1 ∧ (∃ b2 : Nat, F sa0 0 = some b2 ∧ AW E m_Su_compareParts (K, n, I, F, J) 0 0 (zAft E m_Statements_compareRows cb sb Q 43 [some (.ref a0), some (.ref a1), some (.ref a2), some (.int x3), some (.ref sa0), none] []) 0 [some (.ref b2), some (.ref a1), some (.ref b2), some (.ref a2), some (.int (I sa0 2)), none, none, none, none, none] [])) :
    AW E m_Statements_compareRows (K, n, I, F, J) cb sb Q 21 [some (.ref a0), some (.ref a1), some (.ref a2), some (.int x3), none, none] [.ref sa0] := by
  obtain ⟨hk1, w⟩ := w
  refine aw_castO 0 662 rfl (by decide) tb_662 hk1 d_Statements_compareRows_21 ?_
  refine aw_astore d_Statements_compareRows_24 (by decide) ?_
  refine aw_aload (x := sa0) d_Statements_compareRows_26 rfl ?_
  obtain ⟨b2, hb2, w⟩ := w
  refine gs_Statements_50 rfl hk1 hb2 d_Statements_compareRows_28 ?_
  refine aw_aload_n (x := a1) d_Statements_compareRows_31 rfl ?_
  refine aw_aload (x := sa0) d_Statements_compareRows_32 rfl ?_
  refine gs_Statements_50 rfl hk1 hb2 d_Statements_compareRows_34 ?_
  refine aw_aload_n (x := a2) d_Statements_compareRows_37 rfl ?_
  refine aw_aload (x := sa0) d_Statements_compareRows_38 rfl ?_
  refine gf_Statements_54 rfl hk1 d_Statements_compareRows_40 ?_
  exact aw_room (cb' := 0 + cb) (sb' := 0 + sb) (by omega) (by omega) (aw_weak (lv' := [some (.ref a0), some (.ref a1), some (.ref a2), some (.int x3), some (.ref sa0), none]) ⟨rfl, rfl, rfl, rfl, rfl, trivial⟩ (aw_callSN (M' := m_Su_compareParts) (lv0 := [some (.ref b2), some (.ref a1), some (.ref b2), some (.ref a2), some (.int (I sa0 2)), none, none, none, none, none]) (As := [.ref b2, .ref a1, .ref b2, .ref a2, .int (I sa0 2)]) (rest := []) 663 636 637 1 "SortUtility" tb_663 tb_636 tb_637 tb_1 rfl rfl 5 0 rfl rfl ⟨by decide, by decide, by decide +kernel, by decide +kernel, by decide, by decide⟩ (Nat.le_of_ble_eq_true rfl) ⟨rfl, rfl, rfl, rfl, rfl, trivial⟩ rfl d_Statements_compareRows_43 w))
set_option maxRecDepth 20000 in
theorem r_Statements_compareRows_46 {E : zE} {K n : Nat → Nat} {I : Nat → Nat → Int32} {F : Nat → Nat → Option Nat} {J : Nat → Nat → Int64} {cb sb : Nat} {Q : zO → zH → Prop} {a0 : Nat} {a1 : Nat} {a2 : Nat} {x3 : Int32} {a4 : Nat} {sx0 : Int32}
    (w : ((sx0 = 0 → AW E m_Statements_compareRows (K, n, I, F, J) cb sb Q 2 [some (.ref a0), some (.ref a1), some (.ref a2), some (.int (x3 + (1 : Int32))), none, none] []) ∧ (¬ sx0 = 0 → K a4 = 1 ∧ (((I a4 1) = 0 → Q (.inl (some (.int sx0))) (K, n, I, F, J)) ∧ (¬ (I a4 1) = 0 → Q (.inl (some (.int (-sx0)))) (K, n, I, F, J)))))) :
    AW E m_Statements_compareRows (K, n, I, F, J) cb sb Q 46 [some (.ref a0), some (.ref a1), some (.ref a2), some (.int x3), some (.ref a4), none] [.int sx0] := by
  refine aw_istore d_Statements_compareRows_46 (by decide) ?_
  refine aw_iload (x := sx0) d_Statements_compareRows_48 rfl ?_
  refine aw_if_eq (tgt := 70) d_Statements_compareRows_50 (by decide) (fun cc1 => ?_) (fun cc1 => ?_)
  · replace w := w.1 cc1
    refine aw_iinc (v := (x3 + (1 : Int32))) d_Statements_compareRows_70 rfl (by rfl) (by decide) ?_
    refine aw_goto (tgt := 2) d_Statements_compareRows_73 (by decide) ?_
    exact aw_weak (lv' := [some (.ref a0), some (.ref a1), some (.ref a2), some (.int (x3 + (1 : Int32))), none, none]) ⟨rfl, rfl, rfl, rfl, trivial⟩ w
  · replace w := w.2 cc1
    refine aw_aload (x := a4) d_Statements_compareRows_53 rfl ?_
    obtain ⟨hk2, w⟩ := w
    refine gf_Statements_61 rfl hk2 d_Statements_compareRows_55 ?_
    refine aw_if_eq (tgt := 67) d_Statements_compareRows_58 (by decide) (fun cc3 => ?_) (fun cc3 => ?_)
    · replace w := w.1 cc3
      refine aw_iload (x := sx0) d_Statements_compareRows_67 rfl ?_
      exact aw_ireturn .int rfl rfl d_Statements_compareRows_69 w
    · replace w := w.2 cc3
      refine aw_iload (x := sx0) d_Statements_compareRows_61 rfl ?_
      refine aw_ineg d_Statements_compareRows_63 ?_
      refine aw_goto (tgt := 69) d_Statements_compareRows_64 (by decide) ?_
      exact aw_ireturn .int rfl rfl d_Statements_compareRows_69 w
set_option maxRecDepth 20000 in
theorem r_Statements_keeps_0 {E : zE} {K n : Nat → Nat} {I : Nat → Nat → Int32} {F : Nat → Nat → Option Nat} {J : Nat → Nat → Int64} {cb sb : Nat} {Q : zO → zH → Prop} {a0 : Nat} {a1 : Nat}
    (w : K a0 = 6 ∧ (∃ b2 : Nat, F a0 1 = some b2 ∧ K b2 = 10 ∧ AW E m_ArrayList_isEmpty (K, n, I, F, J) 0 0 (zAft E m_Statements_keeps cb sb Q 4 [some (.ref a0), some (.ref a1), none, none, none] []) 0 [some (.ref b2)] [])) :
    AW E m_Statements_keeps (K, n, I, F, J) cb sb Q 0 [some (.ref a0), some (.ref a1), none, none, none] [] := by
  refine aw_aload_n (x := a0) d_Statements_keeps_0 rfl ?_
  obtain ⟨hk1, w⟩ := w
  obtain ⟨b2, hb2, w⟩ := w
  refine gs_Statements_18 rfl hk1 hb2 d_Statements_keeps_1 ?_
  obtain ⟨hk3, w⟩ := w
  exact aw_room (cb' := 0 + cb) (sb' := 0 + sb) (by omega) (by omega) (aw_weak (lv' := [some (.ref a0), some (.ref a1), none, none, none]) ⟨rfl, rfl, trivial⟩ (aw_callV (M' := m_ArrayList_isEmpty) (lv0 := [some (.ref b2)]) (As := []) (rest := []) 9 625 626 628 rfl (by decide) rfl hk3 tb_625 tb_626 tb_628 (fun U hU => hU.t 627 tb_627 rfl) rfl rfl 0 0 rfl rfl ⟨by decide, by decide, by decide +kernel, by decide +kernel, by decide, by decide⟩ (Nat.le_of_ble_eq_true rfl) ⟨rfl, trivial⟩ rfl d_Statements_keeps_4 w))
set_option maxRecDepth 20000 in
theorem r_Statements_keeps_7 {E : zE} {K n : Nat → Nat} {I : Nat → Nat → Int32} {F : Nat → Nat → Option Nat} {J : Nat → Nat → Int64} {cb sb : Nat} {Q : zO → zH → Prop} {a0 : Nat} {a1 : Nat} {sx0 : Int32}
    (w : ((sx0 = 0 → K a0 = 6 ∧ (∃ b3 : Nat, F a0 1 = some b3 ∧ K b3 = 10 ∧ AW E m_ArrayList_get (K, n, I, F, J) 0 0 (zAft E m_Statements_keeps cb sb Q 17 [some (.ref a0), some (.ref a1), none, none, none] []) 0 [some (.ref b3), some (.int (0 : Int32))] [])) ∧ (¬ sx0 = 0 → Q (.inl (some (.int (1 : Int32)))) (K, n, I, F, J)))) :
    AW E m_Statements_keeps (K, n, I, F, J) cb sb Q 7 [some (.ref a0), some (.ref a1), none, none, none] [.int sx0] := by
  refine aw_if_eq (tgt := 12) d_Statements_keeps_7 (by decide) (fun cc1 => ?_) (fun cc1 => ?_)
  · replace w := w.1 cc1
    refine aw_aload_n (x := a0) d_Statements_keeps_12 rfl ?_
    obtain ⟨hk2, w⟩ := w
    obtain ⟨b3, hb3, w⟩ := w
    refine gs_Statements_18 rfl hk2 hb3 d_Statements_keeps_13 ?_
    refine aw_iconst (v := (0 : Int32)) d_Statements_keeps_16 (by decide) ?_
    obtain ⟨hk4, w⟩ := w
    exact aw_room (cb' := 0 + cb) (sb' := 0 + sb) (by omega) (by omega) (aw_weak (lv' := [some (.ref a0), some (.ref a1), none, none, none]) ⟨rfl, rfl, trivial⟩ (aw_callV (M' := m_ArrayList_get) (lv0 := [some (.ref b3), some (.int (0 : Int32))]) (As := [.int (0 : Int32)]) (rest := []) 9 629 590 592 rfl (by decide) rfl hk4 tb_629 tb_590 tb_592 (fun U hU => hU.t 591 tb_591 rfl) rfl rfl 1 0 rfl rfl ⟨by decide, by decide, by decide +kernel, by decide +kernel, by decide, by decide⟩ (Nat.le_of_ble_eq_true rfl) ⟨rfl, rfl, trivial⟩ rfl d_Statements_keeps_17 w))
  · replace w := w.2 cc1
    refine aw_iconst (v := (1 : Int32)) d_Statements_keeps_10 (by decide) ?_
    exact aw_ireturn .boolean rfl rfl d_Statements_keeps_11 w
set_option maxRecDepth 20000 in
theorem r_Statements_keeps_20 {E : zE} {K n : Nat → Nat} {I : Nat → Nat → Int32} {F : Nat → Nat → Option Nat} {J : Nat → Nat → Int64} {cb sb : Nat} {Q : zO → zH → Prop} {a0 : Nat} {a1 : Nat} {sa0 : Nat}
    (w : K sa0 = 7 ∧ AW E m_Test_holds (K, n, I, F, J) 0 0 (zAft E m_Statements_keeps cb sb Q 24 [some (.ref a0), some (.ref a1), none, none, none] []) 0 [some (.ref sa0), some (.ref a1), none] []) :
    AW E m_Statements_keeps (K, n, I, F, J) cb sb Q 20 [some (.ref a0), some (.ref a1), none, none, none] [.ref sa0] := by
  obtain ⟨hk1, w⟩ := w
  refine aw_castO 6 630 rfl (by decide) tb_630 hk1 d_Statements_keeps_20 ?_
  refine aw_aload_n (x := a1) d_Statements_keeps_23 rfl ?_
  exact aw_room (cb' := 0 + cb) (sb' := 0 + sb) (by omega) (by omega) (aw_weak (lv' := [some (.ref a0), some (.ref a1), none, none, none]) ⟨rfl, rfl, trivial⟩ (aw_callV (M' := m_Test_holds) (lv0 := [some (.ref sa0), some (.ref a1), none]) (As := [.ref a1]) (rest := []) 6 631 632 634 rfl (by decide) rfl hk1 tb_631 tb_632 tb_634 (fun U hU => hU.t 633 tb_633 rfl) rfl rfl 1 0 rfl rfl ⟨by decide, by decide, by decide +kernel, by decide +kernel, by decide, by decide⟩ (Nat.le_of_ble_eq_true rfl) ⟨rfl, rfl, trivial⟩ rfl d_Statements_keeps_24 w))
set_option maxRecDepth 20000 in
theorem r_Statements_keeps_27 {E : zE} {K n : Nat → Nat} {I : Nat → Nat → Int32} {F : Nat → Nat → Option Nat} {J : Nat → Nat → Int64} {cb sb : Nat} {Q : zO → zH → Prop} {a0 : Nat} {a1 : Nat} {sx0 : Int32}
    (w : AW E m_Statements_keeps (K, n, I, F, J) cb sb Q 30 [some (.ref a0), some (.ref a1), some (.int sx0), some (.int (1 : Int32)), none] []) :
    AW E m_Statements_keeps (K, n, I, F, J) cb sb Q 27 [some (.ref a0), some (.ref a1), none, none, none] [.int sx0] := by
  refine aw_istore_n d_Statements_keeps_27 (by decide) ?_
  refine aw_iconst (v := (1 : Int32)) d_Statements_keeps_28 (by decide) ?_
  refine aw_istore_n d_Statements_keeps_29 (by decide) ?_
  exact aw_weak (lv' := [some (.ref a0), some (.ref a1), some (.int sx0), some (.int (1 : Int32)), none]) ⟨rfl, rfl, rfl, rfl, trivial⟩ w
set_option maxRecDepth 20000 in
theorem r_Statements_keeps_30 {E : zE} {K n : Nat → Nat} {I : Nat → Nat → Int32} {F : Nat → Nat → Option Nat} {J : Nat → Nat → Int64} {cb sb : Nat} {Q : zO → zH → Prop} {a0 : Nat} {a1 : Nat} {x2 : Int32} {x3 : Int32}
    (w : K a0 = 6 ∧ (∃ b2 : Nat, F a0 1 = some b2 ∧ K b2 = 10 ∧ AW E m_ArrayList_size (K, n, I, F, J) 0 0 (zAft E m_Statements_keeps cb sb Q 35 [some (.ref a0), some (.ref a1), some (.int x2), some (.int x3), none] [.int x3]) 0 [some (.ref b2)] [])) :
    AW E m_Statements_keeps (K, n, I, F, J) cb sb Q 30 [some (.ref a0), some (.ref a1), some (.int x2), some (.int x3), none] [] := by
  refine aw_iload_n (x := x3) d_Statements_keeps_30 rfl ?_
  refine aw_aload_n (x := a0) d_Statements_keeps_31 rfl ?_
  obtain ⟨hk1, w⟩ := w
  obtain ⟨b2, hb2, w⟩ := w
  refine gs_Statements_18 rfl hk1 hb2 d_Statements_keeps_32 ?_
  obtain ⟨hk3, w⟩ := w
  exact aw_room (cb' := 0 + cb) (sb' := 0 + sb) (by omega) (by omega) (aw_weak (lv' := [some (.ref a0), some (.ref a1), some (.int x2), some (.int x3), none]) ⟨rfl, rfl, rfl, rfl, trivial⟩ (aw_callV (M' := m_ArrayList_size) (lv0 := [some (.ref b2)]) (As := []) (rest := [.int x3]) 9 651 515 517 rfl (by decide) rfl hk3 tb_651 tb_515 tb_517 (fun U hU => hU.t 516 tb_516 rfl) rfl rfl 0 1 rfl rfl ⟨by decide, by decide, by decide +kernel, by decide +kernel, by decide, by decide⟩ (Nat.le_of_ble_eq_true rfl) ⟨rfl, trivial⟩ rfl d_Statements_keeps_35 w))
set_option maxRecDepth 20000 in
theorem r_Statements_keeps_38 {E : zE} {K n : Nat → Nat} {I : Nat → Nat → Int32} {F : Nat → Nat → Option Nat} {J : Nat → Nat → Int64} {cb sb : Nat} {Q : zO → zH → Prop} {a0 : Nat} {a1 : Nat} {x2 : Int32} {x3 : Int32} {sx0 : Int32} {sx1 : Int32}
    (w : ((sx1 ≤ sx0 → K a0 = 6 ∧ ((x2 = (I a0 4) → Q (.inl (some (.int (0 : Int32)))) (K, n, I, F, J)) ∧ (¬ x2 = (I a0 4) → Q (.inl (some (.int (1 : Int32)))) (K, n, I, F, J)))) ∧ (¬ sx1 ≤ sx0 → K a0 = 6 ∧ (∃ b5 : Nat, F a0 1 = some b5 ∧ K b5 = 10 ∧ AW E m_ArrayList_get (K, n, I, F, J) 0 0 (zAft E m_Statements_keeps cb sb Q 46 [some (.ref a0), some (.ref a1), some (.int x2), some (.int x3), none] []) 0 [some (.ref b5), some (.int x3)] [])))) :
    AW E m_Statements_keeps (K, n, I, F, J) cb sb Q 38 [some (.ref a0), some (.ref a1), some (.int x2), some (.int x3), none] [.int sx1, .int sx0] := by
  refine aw_icmp_ge (tgt := 108) d_Statements_keeps_38 (by decide) (fun cc1 => ?_) (fun cc1 => ?_)
  · replace w := w.1 cc1
    refine aw_iload_n (x := x2) d_Statements_keeps_108 rfl ?_
    refine aw_aload_n (x := a0) d_Statements_keeps_109 rfl ?_
    obtain ⟨hk2, w⟩ := w
    refine gf_Statements_27 rfl hk2 d_Statements_keeps_110 ?_
    refine aw_icmp_eq (tgt := 120) d_Statements_keeps_113 (by decide) (fun cc3 => ?_) (fun cc3 => ?_)
    · replace w := w.1 cc3
      refine aw_iconst (v := (0 : Int32)) d_Statements_keeps_120 (by decide) ?_
      exact aw_ireturn .boolean rfl rfl d_Statements_keeps_121 w
    · replace w := w.2 cc3
      refine aw_iconst (v := (1 : Int32)) d_Statements_keeps_116 (by decide) ?_
      refine aw_goto (tgt := 121) d_Statements_keeps_117 (by decide) ?_
      exact aw_ireturn .boolean rfl rfl d_Statements_keeps_121 w
  · replace w := w.2 cc1
    refine aw_aload_n (x := a0) d_Statements_keeps_41 rfl ?_
    obtain ⟨hk4, w⟩ := w
    obtain ⟨b5, hb5, w⟩ := w
    refine gs_Statements_18 rfl hk4 hb5 d_Statements_keeps_42 ?_
    refine aw_iload_n (x := x3) d_Statements_keeps_45 rfl ?_
    obtain ⟨hk6, w⟩ := w
    exact aw_room (cb' := 0 + cb) (sb' := 0 + sb) (by omega) (by omega) (aw_weak (lv' := [some (.ref a0), some (.ref a1), some (.int x2), some (.int x3), none]) ⟨rfl, rfl, rfl, rfl, trivial⟩ (aw_callV (M' := m_ArrayList_get) (lv0 := [some (.ref b5), some (.int x3)]) (As := [.int x3]) (rest := []) 9 629 590 592 rfl (by decide) rfl hk6 tb_629 tb_590 tb_592 (fun U hU => hU.t 591 tb_591 rfl) rfl rfl 1 0 rfl rfl ⟨by decide, by decide, by decide +kernel, by decide +kernel, by decide, by decide⟩ (Nat.le_of_ble_eq_true rfl) ⟨rfl, rfl, trivial⟩ rfl d_Statements_keeps_46 w))
set_option maxRecDepth 20000 in
theorem r_Statements_keeps_49 {E : zE} {K n : Nat → Nat} {I : Nat → Nat → Int32} {F : Nat → Nat → Option Nat} {J : Nat → Nat → Int64} {cb sb : Nat} {Q : zO → zH → Prop} {a0 : Nat} {a1 : Nat} {x2 : Int32} {x3 : Int32} {sa0 : Nat}
    (w : K sa0 = 7 ∧ (((I sa0 0) = 0 → ((x2 = 0 → AW E m_Statements_keeps (K, n, I, F, J) cb sb Q 30 [some (.ref a0), some (.ref a1), some (.int (0 : Int32)), some (.int (x3 + (1 : Int32))), none] []) ∧ (¬ x2 = 0 → AW E m_Test_holds (K, n, I, F, J) 0 0 (zAft E m_Statements_keeps cb sb Q 90 [some (.ref a0), some (.ref a1), none, some (.int x3), none] []) 0 [some (.ref sa0), some (.ref a1), none] []))) ∧ (¬ (I sa0 0) = 0 → ((¬ x2 = 0 → AW E m_Statements_keeps (K, n, I, F, J) cb sb Q 30 [some (.ref a0), some (.ref a1), some (.int (1 : Int32)), some (.int (x3 + (1 : Int32))), none] []) ∧ (x2 = 0 → AW E m_Test_holds (K, n, I, F, J) 0 0 (zAft E m_Statements_keeps cb sb Q 69 [some (.ref a0), some (.ref a1), none, some (.int x3), none] []) 0 [some (.ref sa0), some (.ref a1), none] []))))) :
    AW E m_Statements_keeps (K, n, I, F, J) cb sb Q 49 [some (.ref a0), some (.ref a1), some (.int x2), some (.int x3), none] [.ref sa0] := by
  obtain ⟨hk1, w⟩ := w
  refine aw_castO 6 630 rfl (by decide) tb_630 hk1 d_Statements_keeps_49 ?_
  refine aw_astore d_Statements_keeps_52 (by decide) ?_
  refine aw_aload (x := sa0) d_Statements_keeps_54 rfl ?_
  refine gf_Statements_74 rfl hk1 d_Statements_keeps_56 ?_
  refine aw_if_eq (tgt := 83) d_Statements_keeps_59 (by decide) (fun cc2 => ?_) (fun cc2 => ?_)
  · replace w := w.1 cc2
    refine aw_iload_n (x := x2) d_Statements_keeps_83 rfl ?_
    refine aw_if_eq (tgt := 100) d_Statements_keeps_84 (by decide) (fun cc3 => ?_) (fun cc3 => ?_)
    · replace w := w.1 cc3
      refine aw_iconst (v := (0 : Int32)) d_Statements_keeps_100 (by decide) ?_
      refine aw_istore_n d_Statements_keeps_101 (by decide) ?_
      refine aw_iinc (v := (x3 + (1 : Int32))) d_Statements_keeps_102 rfl (by rfl) (by decide) ?_
      refine aw_goto (tgt := 30) d_Statements_keeps_105 (by decide) ?_
      exact aw_weak (lv' := [some (.ref a0), some (.ref a1), some (.int (0 : Int32)), some (.int (x3 + (1 : Int32))), none]) ⟨rfl, rfl, rfl, rfl, trivial⟩ w
    · replace w := w.2 cc3
      refine aw_aload (x := sa0) d_Statements_keeps_87 rfl ?_
      refine aw_aload_n (x := a1) d_Statements_keeps_89 rfl ?_
      exact aw_room (cb' := 0 + cb) (sb' := 0 + sb) (by omega) (by omega) (aw_weak (lv' := [some (.ref a0), some (.ref a1), none, some (.int x3), none]) ⟨rfl, rfl, rfl, trivial⟩ (aw_callV (M' := m_Test_holds) (lv0 := [some (.ref sa0), some (.ref a1), none]) (As := [.ref a1]) (rest := []) 6 631 632 634 rfl (by decide) rfl hk1 tb_631 tb_632 tb_634 (fun U hU => hU.t 633 tb_633 rfl) rfl rfl 1 0 rfl rfl ⟨by decide, by decide, by decide +kernel, by decide +kernel, by decide, by decide⟩ (Nat.le_of_ble_eq_true rfl) ⟨rfl, rfl, trivial⟩ rfl d_Statements_keeps_90 w))
  · replace w := w.2 cc2
    refine aw_iload_n (x := x2) d_Statements_keeps_62 rfl ?_
    refine aw_if_ne (tgt := 75) d_Statements_keeps_63 (by decide) (fun cc4 => ?_) (fun cc4 => ?_)
    · replace w := w.1 cc4
      refine aw_iconst (v := (1 : Int32)) d_Statements_keeps_75 (by decide) ?_
      refine aw_goto (tgt := 101) d_Statements_keeps_76 (by decide) ?_
      refine aw_istore_n d_Statements_keeps_101 (by decide) ?_
      refine aw_iinc (v := (x3 + (1 : Int32))) d_Statements_keeps_102 rfl (by rfl) (by decide) ?_
      refine aw_goto (tgt := 30) d_Statements_keeps_105 (by decide) ?_
      exact aw_weak (lv' := [some (.ref a0), some (.ref a1), some (.int (1 : Int32)), some (.int (x3 + (1 : Int32))), none]) ⟨rfl, rfl, rfl, rfl, trivial⟩ w
    · replace w := w.2 cc4
      refine aw_aload (x := sa0) d_Statements_keeps_66 rfl ?_
      refine aw_aload_n (x := a1) d_Statements_keeps_68 rfl ?_
      exact aw_room (cb' := 0 + cb) (sb' := 0 + sb) (by omega) (by omega) (aw_weak (lv' := [some (.ref a0), some (.ref a1), none, some (.int x3), none]) ⟨rfl, rfl, rfl, trivial⟩ (aw_callV (M' := m_Test_holds) (lv0 := [some (.ref sa0), some (.ref a1), none]) (As := [.ref a1]) (rest := []) 6 631 632 634 rfl (by decide) rfl hk1 tb_631 tb_632 tb_634 (fun U hU => hU.t 633 tb_633 rfl) rfl rfl 1 0 rfl rfl ⟨by decide, by decide, by decide +kernel, by decide +kernel, by decide, by decide⟩ (Nat.le_of_ble_eq_true rfl) ⟨rfl, rfl, trivial⟩ rfl d_Statements_keeps_69 w))
set_option maxRecDepth 20000 in
theorem r_Statements_keeps_72 {E : zE} {K n : Nat → Nat} {I : Nat → Nat → Int32} {F : Nat → Nat → Option Nat} {J : Nat → Nat → Int64} {cb sb : Nat} {Q : zO → zH → Prop} {a0 : Nat} {a1 : Nat} {x3 : Int32} {sx0 : Int32}
    (w : ((sx0 = 0 → AW E m_Statements_keeps (K, n, I, F, J) cb sb Q 30 [some (.ref a0), some (.ref a1), some (.int (0 : Int32)), some (.int (x3 + (1 : Int32))), none] []) ∧ (¬ sx0 = 0 → AW E m_Statements_keeps (K, n, I, F, J) cb sb Q 30 [some (.ref a0), some (.ref a1), some (.int (1 : Int32)), some (.int (x3 + (1 : Int32))), none] []))) :
    AW E m_Statements_keeps (K, n, I, F, J) cb sb Q 72 [some (.ref a0), some (.ref a1), none, some (.int x3), none] [.int sx0] := by
  refine aw_if_eq (tgt := 79) d_Statements_keeps_72 (by decide) (fun cc1 => ?_) (fun cc1 => ?_)
  · replace w := w.1 cc1
    refine aw_iconst (v := (0 : Int32)) d_Statements_keeps_79 (by decide) ?_
    refine aw_goto (tgt := 101) d_Statements_keeps_80 (by decide) ?_
    refine aw_istore_n d_Statements_keeps_101 (by decide) ?_
    refine aw_iinc (v := (x3 + (1 : Int32))) d_Statements_keeps_102 rfl (by rfl) (by decide) ?_
    refine aw_goto (tgt := 30) d_Statements_keeps_105 (by decide) ?_
    exact aw_weak (lv' := [some (.ref a0), some (.ref a1), some (.int (0 : Int32)), some (.int (x3 + (1 : Int32))), none]) ⟨rfl, rfl, rfl, rfl, trivial⟩ w
  · replace w := w.2 cc1
    refine aw_iconst (v := (1 : Int32)) d_Statements_keeps_75 (by decide) ?_
    refine aw_goto (tgt := 101) d_Statements_keeps_76 (by decide) ?_
    refine aw_istore_n d_Statements_keeps_101 (by decide) ?_
    refine aw_iinc (v := (x3 + (1 : Int32))) d_Statements_keeps_102 rfl (by rfl) (by decide) ?_
    refine aw_goto (tgt := 30) d_Statements_keeps_105 (by decide) ?_
    exact aw_weak (lv' := [some (.ref a0), some (.ref a1), some (.int (1 : Int32)), some (.int (x3 + (1 : Int32))), none]) ⟨rfl, rfl, rfl, rfl, trivial⟩ w
set_option maxRecDepth 20000 in
theorem r_Statements_keeps_93 {E : zE} {K n : Nat → Nat} {I : Nat → Nat → Int32} {F : Nat → Nat → Option Nat} {J : Nat → Nat → Int64} {cb sb : Nat} {Q : zO → zH → Prop} {a0 : Nat} {a1 : Nat} {x3 : Int32} {sx0 : Int32}
    (w : ((sx0 = 0 → AW E m_Statements_keeps (K, n, I, F, J) cb sb Q 30 [some (.ref a0), some (.ref a1), some (.int (0 : Int32)), some (.int (x3 + (1 : Int32))), none] []) ∧ (¬ sx0 = 0 → AW E m_Statements_keeps (K, n, I, F, J) cb sb Q 30 [some (.ref a0), some (.ref a1), some (.int (1 : Int32)), some (.int (x3 + (1 : Int32))), none] []))) :
    AW E m_Statements_keeps (K, n, I, F, J) cb sb Q 93 [some (.ref a0), some (.ref a1), none, some (.int x3), none] [.int sx0] := by
  refine aw_if_eq (tgt := 100) d_Statements_keeps_93 (by decide) (fun cc1 => ?_) (fun cc1 => ?_)
  · replace w := w.1 cc1
    refine aw_iconst (v := (0 : Int32)) d_Statements_keeps_100 (by decide) ?_
    refine aw_istore_n d_Statements_keeps_101 (by decide) ?_
    refine aw_iinc (v := (x3 + (1 : Int32))) d_Statements_keeps_102 rfl (by rfl) (by decide) ?_
    refine aw_goto (tgt := 30) d_Statements_keeps_105 (by decide) ?_
    exact aw_weak (lv' := [some (.ref a0), some (.ref a1), some (.int (0 : Int32)), some (.int (x3 + (1 : Int32))), none]) ⟨rfl, rfl, rfl, rfl, trivial⟩ w
  · replace w := w.2 cc1
    refine aw_iconst (v := (1 : Int32)) d_Statements_keeps_96 (by decide) ?_
    refine aw_goto (tgt := 101) d_Statements_keeps_97 (by decide) ?_
    refine aw_istore_n d_Statements_keeps_101 (by decide) ?_
    refine aw_iinc (v := (x3 + (1 : Int32))) d_Statements_keeps_102 rfl (by rfl) (by decide) ?_
    refine aw_goto (tgt := 30) d_Statements_keeps_105 (by decide) ?_
    exact aw_weak (lv' := [some (.ref a0), some (.ref a1), some (.int (1 : Int32)), some (.int (x3 + (1 : Int32))), none]) ⟨rfl, rfl, rfl, rfl, trivial⟩ w
set_option maxRecDepth 20000 in
theorem r_Test_init_0 {E : zE} {K n : Nat → Nat} {I : Nat → Nat → Int32} {F : Nat → Nat → Option Nat} {J : Nat → Nat → Int64} {cb sb : Nat} {Q : zO → zH → Prop} {a0 : Nat} {x1 : Int32} {a2 : Nat} {x3 : Int32} {a4 : Nat}
    (w : K a0 = 7 ∧ (x1 = 0 ∨ x1 = 1) ∧ Q (.inl none) (K, n, (zup (zup I a0 0 x1) a0 2 x3), (zup (zup F a0 1 (some a2)) a0 3 (some a4)), J)) :
    AW E m_Test_init (K, n, I, F, J) cb sb Q 0 [some (.ref a0), some (.int x1), some (.ref a2), some (.int x3), some (.ref a4)] [] := by
  refine aw_aload_n (x := a0) d_Test_init_0 rfl ?_
  refine aw_objInit 540 tb_540 (by decide) (by decide) d_Test_init_1 ?_
  refine aw_aload_n (x := a0) d_Test_init_4 rfl ?_
  refine aw_iload_n (x := x1) d_Test_init_5 rfl ?_
  obtain ⟨hk1, w⟩ := w
  obtain ⟨hz2, w⟩ := w
  refine pf_Test_7 rfl hk1 hz2 rfl d_Test_init_6 ?_
  refine aw_aload_n (x := a0) d_Test_init_9 rfl ?_
  refine aw_aload_n (x := a2) d_Test_init_10 rfl ?_
  refine pf_Test_13 (r := (some a2)) rfl hk1 rfl d_Test_init_11 ?_
  refine aw_aload_n (x := a0) d_Test_init_14 rfl ?_
  refine aw_iload_n (x := x3) d_Test_init_15 rfl ?_
  refine pf_Test_17 rfl hk1 rfl d_Test_init_16 ?_
  refine aw_aload_n (x := a0) d_Test_init_19 rfl ?_
  refine aw_aload (x := a4) d_Test_init_20 rfl ?_
  refine pf_Test_21 (r := (some a4)) rfl hk1 rfl d_Test_init_22 ?_
  exact aw_return rfl d_Test_init_25 w
set_option maxRecDepth 20000 in
theorem r_Test_holds_0 {E : zE} {K n : Nat → Nat} {I : Nat → Nat → Int32} {F : Nat → Nat → Option Nat} {J : Nat → Nat → Int64} {cb sb : Nat} {Q : zO → zH → Prop} {a0 : Nat} {a1 : Nat}
    (w : K a0 = 7 ∧ (∃ b2 : Nat, F a0 1 = some b2 ∧ (∃ b3 : Nat, F a0 3 = some b3 ∧ AW E m_Su_compareParts (K, n, I, F, J) 0 0 (zAft E m_Test_holds cb sb Q 11 [some (.ref a0), none, none] []) 0 [some (.ref b2), some (.ref a1), some (.ref b3), some (.ref a1), some (.int (0 : Int32)), none, none, none, none, none] []))) :
    AW E m_Test_holds (K, n, I, F, J) cb sb Q 0 [some (.ref a0), some (.ref a1), none] [] := by
  refine aw_aload_n (x := a0) d_Test_holds_0 rfl ?_
  obtain ⟨hk1, w⟩ := w
  obtain ⟨b2, hb2, w⟩ := w
  refine gs_Test_13 rfl hk1 hb2 d_Test_holds_1 ?_
  refine aw_aload_n (x := a1) d_Test_holds_4 rfl ?_
  refine aw_aload_n (x := a0) d_Test_holds_5 rfl ?_
  obtain ⟨b3, hb3, w⟩ := w
  refine gs_Test_21 rfl hk1 hb3 d_Test_holds_6 ?_
  refine aw_aload_n (x := a1) d_Test_holds_9 rfl ?_
  refine aw_iconst (v := (0 : Int32)) d_Test_holds_10 (by decide) ?_
  exact aw_room (cb' := 0 + cb) (sb' := 0 + sb) (by omega) (by omega) (aw_weak (lv' := [some (.ref a0), none, none]) ⟨rfl, trivial⟩ (aw_callSN (M' := m_Su_compareParts) (lv0 := [some (.ref b2), some (.ref a1), some (.ref b3), some (.ref a1), some (.int (0 : Int32)), none, none, none, none, none]) (As := [.ref b2, .ref a1, .ref b3, .ref a1, .int (0 : Int32)]) (rest := []) 635 636 637 1 "SortUtility" tb_635 tb_636 tb_637 tb_1 rfl rfl 5 0 rfl rfl ⟨by decide, by decide, by decide +kernel, by decide +kernel, by decide, by decide⟩ (Nat.le_of_ble_eq_true rfl) ⟨rfl, rfl, rfl, rfl, rfl, trivial⟩ rfl d_Test_holds_11 w))
set_option maxRecDepth 20000 in
theorem r_Test_holds_14 {E : zE} {K n : Nat → Nat} {I : Nat → Nat → Int32} {F : Nat → Nat → Option Nat} {J : Nat → Nat → Int64} {cb sb : Nat} {Q : zO → zH → Prop} {a0 : Nat} {sx0 : Int32}
    (w : K a0 = 7 ∧ (((I a0 2) = 35 → ((sx0 = 0 → Q (.inl (some (.int (0 : Int32)))) (K, n, I, F, J)) ∧ (¬ sx0 = 0 → Q (.inl (some (.int (1 : Int32)))) (K, n, I, F, J)))) ∧ ((I a0 2) = 60 → ((0 ≤ sx0 → Q (.inl (some (.int (0 : Int32)))) (K, n, I, F, J)) ∧ (¬ 0 ≤ sx0 → Q (.inl (some (.int (1 : Int32)))) (K, n, I, F, J)))) ∧ ((I a0 2) = 61 → ((¬ sx0 = 0 → Q (.inl (some (.int (0 : Int32)))) (K, n, I, F, J)) ∧ (sx0 = 0 → Q (.inl (some (.int (1 : Int32)))) (K, n, I, F, J)))) ∧ (¬ (I a0 2) = 35 → ¬ (I a0 2) = 60 → ¬ (I a0 2) = 61 → ((sx0 ≤ 0 → Q (.inl (some (.int (0 : Int32)))) (K, n, I, F, J)) ∧ (¬ sx0 ≤ 0 → Q (.inl (some (.int (1 : Int32)))) (K, n, I, F, J)))))) :
    AW E m_Test_holds (K, n, I, F, J) cb sb Q 14 [some (.ref a0), none, none] [.int sx0] := by
  refine aw_istore_n d_Test_holds_14 (by decide) ?_
  refine aw_aload_n (x := a0) d_Test_holds_15 rfl ?_
  obtain ⟨hk1, w⟩ := w
  refine gf_Test_17 rfl hk1 d_Test_holds_16 ?_
  by_cases cc2_0 : (I a0 2) = 35
  · replace w := w.1 cc2_0
    refine aw_lookup (off := 43) (tgt := 62) d_Test_holds_19 (by decide) (by rw [cc2_0]; rfl) (by decide) ?_
    refine aw_iload_n (x := sx0) d_Test_holds_62 rfl ?_
    refine aw_if_eq (tgt := 70) d_Test_holds_63 (by decide) (fun cc3 => ?_) (fun cc3 => ?_)
    · replace w := w.1 cc3
      refine aw_iconst (v := (0 : Int32)) d_Test_holds_70 (by decide) ?_
      exact aw_ireturn .boolean rfl rfl d_Test_holds_71 w
    · replace w := w.2 cc3
      refine aw_iconst (v := (1 : Int32)) d_Test_holds_66 (by decide) ?_
      refine aw_goto (tgt := 71) d_Test_holds_67 (by decide) ?_
      exact aw_ireturn .boolean rfl rfl d_Test_holds_71 w
  by_cases cc2_1 : (I a0 2) = 60
  · replace w := w.2.1 cc2_1
    refine aw_lookup (off := 53) (tgt := 72) d_Test_holds_19 (by decide) (by rw [cc2_1]; rfl) (by decide) ?_
    refine aw_iload_n (x := sx0) d_Test_holds_72 rfl ?_
    refine aw_if_ge (tgt := 80) d_Test_holds_73 (by decide) (fun cc4 => ?_) (fun cc4 => ?_)
    · replace w := w.1 cc4
      refine aw_iconst (v := (0 : Int32)) d_Test_holds_80 (by decide) ?_
      exact aw_ireturn .boolean rfl rfl d_Test_holds_81 w
    · replace w := w.2 cc4
      refine aw_iconst (v := (1 : Int32)) d_Test_holds_76 (by decide) ?_
      refine aw_goto (tgt := 81) d_Test_holds_77 (by decide) ?_
      exact aw_ireturn .boolean rfl rfl d_Test_holds_81 w
  by_cases cc2_2 : (I a0 2) = 61
  · replace w := w.2.2.1 cc2_2
    refine aw_lookup (off := 33) (tgt := 52) d_Test_holds_19 (by decide) (by rw [cc2_2]; rfl) (by decide) ?_
    refine aw_iload_n (x := sx0) d_Test_holds_52 rfl ?_
    refine aw_if_ne (tgt := 60) d_Test_holds_53 (by decide) (fun cc5 => ?_) (fun cc5 => ?_)
    · replace w := w.1 cc5
      refine aw_iconst (v := (0 : Int32)) d_Test_holds_60 (by decide) ?_
      exact aw_ireturn .boolean rfl rfl d_Test_holds_61 w
    · replace w := w.2 cc5
      refine aw_iconst (v := (1 : Int32)) d_Test_holds_56 (by decide) ?_
      refine aw_goto (tgt := 61) d_Test_holds_57 (by decide) ?_
      exact aw_ireturn .boolean rfl rfl d_Test_holds_61 w
  replace w := w.2.2.2 cc2_0 cc2_1 cc2_2
  refine aw_lookup (off := 63) (tgt := 82) d_Test_holds_19 (by decide) ((lv_osw cc2_0 rfl).trans ((lv_osw cc2_1 rfl).trans ((lv_osw cc2_2 rfl).trans rfl))) (by decide) ?_
  refine aw_iload_n (x := sx0) d_Test_holds_82 rfl ?_
  refine aw_if_le (tgt := 90) d_Test_holds_83 (by decide) (fun cc6 => ?_) (fun cc6 => ?_)
  · replace w := w.1 cc6
    refine aw_iconst (v := (0 : Int32)) d_Test_holds_90 (by decide) ?_
    exact aw_ireturn .boolean rfl rfl d_Test_holds_91 w
  · replace w := w.2 cc6
    refine aw_iconst (v := (1 : Int32)) d_Test_holds_86 (by decide) ?_
    refine aw_goto (tgt := 91) d_Test_holds_87 (by decide) ?_
    exact aw_ireturn .boolean rfl rfl d_Test_holds_91 w
