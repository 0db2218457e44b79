set_option maxRecDepth 20000 in
theorem r_Mo_summed_0 {E : zE} {K n : Nat → Nat} {I : Nat → Nat → Int32} {F : Nat → Nat → Option Nat} {J : Nat → Nat → Int64} {cb sb : Nat} {Q : zO → zH → Prop} {a0 : Nat} {x1 : Int32} {x2 : Int32} {x3 : Int32}
    (w : AW E m_Mo_summed (K, n, I, F, J) cb sb Q 6 [some (.ref a0), some (.int x1), some (.int x2), some (.int x3), some (.long (1 : Int64)), none, some (.int (0 : Int32)), none] []) :
    AW E m_Mo_summed (K, n, I, F, J) cb sb Q 0 [some (.ref a0), some (.int x1), some (.int x2), some (.int x3), none, none, none, none] [] := by
  refine aw_lconst (v := 1) d_Mo_summed_0 (by decide) ?_
  refine aw_lstore d_Mo_summed_1 (by decide) ?_
  refine aw_iconst (v := (0 : Int32)) d_Mo_summed_3 (by decide) ?_
  refine aw_istore d_Mo_summed_4 (by decide) ?_
  exact aw_weak (lv' := [some (.ref a0), some (.int x1), some (.int x2), some (.int x3), some (.long (1 : Int64)), none, some (.int (0 : Int32)), none]) ⟨rfl, rfl, rfl, rfl, rfl, rfl, trivial⟩ w
set_option maxRecDepth 20000 in
theorem r_Mo_summed_6 {E : zE} {K n : Nat → Nat} {I : Nat → Nat → Int32} {F : Nat → Nat → Option Nat} {J : Nat → Nat → Int64} {cb sb : Nat} {Q : zO → zH → Prop} {a0 : Nat} {x1 : Int32} {x2 : Int32} {x3 : Int32} {y4 : Int64} {x6 : Int32}
    (w : K a0 = 9 ∧ (∃ b2 : Nat, F a0 9 = some b2 ∧ K b2 = 21 ∧ (∃ j4 : Nat, (((2 : Int32) * x1) + (1 : Int32)) = nI j4 ∧ j4 < n b2 ∧ j4 < 2147483648 ∧ (((I b2 j4) ≤ x6 → (∃ b6 : Nat, F a0 19 = some b6 ∧ (∃ b7 : Nat, F a0 20 = some b7 ∧ (∃ j8 : Nat, ((2 : Int32) * x1) = nI j8 ∧ j8 < n b2 ∧ j8 < 2147483648 ∧ AW E m_Mo_asNumber (K, n, I, F, J) 0 0 (zAft E m_Mo_summed cb sb Q 64 [some (.ref a0), some (.int x1), none, some (.int x3), some (.long y4), none, none, none] []) 0 [some (.ref b6), some (.ref b7), some (.int x2), some (.int ((I b2 j8) - (1 : Int32))), some (.int (I b2 j4)), none, none, none, none] [])))) ∧ (¬ (I b2 j4) ≤ x6 → AW E m_Mo_summed (K, n, I, F, J) cb sb Q 6 [some (.ref a0), some (.int x1), some (.int x2), some (.int x3), some (.long (y4 * (10 : Int64))), none, some (.int (x6 + (1 : Int32))), none] []))))) :
    AW E m_Mo_summed (K, n, I, F, J) cb sb Q 6 [some (.ref a0), some (.int x1), some (.int x2), some (.int x3), some (.long y4), none, some (.int x6), none] [] := by
  refine aw_iload (x := x6) d_Mo_summed_6 rfl ?_
  refine aw_aload_n (x := a0) d_Mo_summed_8 rfl ?_
  obtain ⟨hk1, w⟩ := w
  obtain ⟨b2, hb2, w⟩ := w
  refine gs_Mo_28 rfl hk1 hb2 d_Mo_summed_9 ?_
  refine aw_iconst (v := (2 : Int32)) d_Mo_summed_12 (by decide) ?_
  refine aw_iload_n (x := x1) d_Mo_summed_13 rfl ?_
  refine aw_imul d_Mo_summed_14 ?_
  refine aw_iconst (v := (1 : Int32)) d_Mo_summed_15 (by decide) ?_
  refine aw_iadd d_Mo_summed_16 ?_
  obtain ⟨hk3, w⟩ := w
  obtain ⟨j4, hj4a, hj4b, hj4c, w⟩ := w
  refine aw_iaload j4 hk3 hj4a hj4b hj4c d_Mo_summed_17 ?_
  refine aw_icmp_ge (tgt := 35) d_Mo_summed_18 (by decide) (fun cc5 => ?_) (fun cc5 => ?_)
  · replace w := w.1 cc5
    refine aw_aload_n (x := a0) d_Mo_summed_35 rfl ?_
    obtain ⟨b6, hb6, w⟩ := w
    refine gs_Mo_46 rfl hk1 hb6 d_Mo_summed_36 ?_
    refine aw_aload_n (x := a0) d_Mo_summed_39 rfl ?_
    obtain ⟨b7, hb7, w⟩ := w
    refine gs_Mo_49 rfl hk1 hb7 d_Mo_summed_40 ?_
    refine aw_iload_n (x := x2) d_Mo_summed_43 rfl ?_
    refine aw_aload_n (x := a0) d_Mo_summed_44 rfl ?_
    refine gs_Mo_28 rfl hk1 hb2 d_Mo_summed_45 ?_
    refine aw_iconst (v := (2 : Int32)) d_Mo_summed_48 (by decide) ?_
    refine aw_iload_n (x := x1) d_Mo_summed_49 rfl ?_
    refine aw_imul d_Mo_summed_50 ?_
    obtain ⟨j8, hj8a, hj8b, hj8c, w⟩ := w
    refine aw_iaload j8 hk3 hj8a hj8b hj8c d_Mo_summed_51 ?_
    refine aw_iconst (v := (1 : Int32)) d_Mo_summed_52 (by decide) ?_
    refine aw_isub d_Mo_summed_53 ?_
    refine aw_aload_n (x := a0) d_Mo_summed_54 rfl ?_
    refine gs_Mo_28 rfl hk1 hb2 d_Mo_summed_55 ?_
    refine aw_iconst (v := (2 : Int32)) d_Mo_summed_58 (by decide) ?_
    refine aw_iload_n (x := x1) d_Mo_summed_59 rfl ?_
    refine aw_imul d_Mo_summed_60 ?_
    refine aw_iconst (v := (1 : Int32)) d_Mo_summed_61 (by decide) ?_
    refine aw_iadd d_Mo_summed_62 ?_
    refine aw_iaload j4 hk3 hj4a hj4b hj4c d_Mo_summed_63 ?_
    exact aw_room (cb' := 0 + cb) (sb' := 0 + sb) (by omega) (by omega) (aw_weak (lv' := [some (.ref a0), some (.int x1), none, some (.int x3), some (.long y4), none, none, none]) ⟨rfl, rfl, rfl, rfl, trivial⟩ (aw_callS (M' := m_Mo_asNumber) (lv0 := [some (.ref b6), some (.ref b7), some (.int x2), some (.int ((I b2 j8) - (1 : Int32))), some (.int (I b2 j4)), none, none, none, none]) (As := [.ref b6, .ref b7, .int x2, .int ((I b2 j8) - (1 : Int32)), .int (I b2 j4)]) (rest := []) 1100 1101 1102 8 tb_1100 tb_1101 tb_1102 tb_8 rfl rfl 5 0 rfl rfl ⟨by decide, by decide, by decide +kernel, by decide +kernel, by decide, by decide⟩ (Nat.le_of_ble_eq_true rfl) ⟨rfl, rfl, rfl, rfl, rfl, trivial⟩ rfl d_Mo_summed_64 w))
  · replace w := w.2 cc5
    refine aw_lload (x := y4) d_Mo_summed_21 rfl ?_
    refine aw_ldc2 (v := 10) 1099 tb_1099 d_Mo_summed_23 ?_
    refine aw_lmul d_Mo_summed_26 ?_
    refine aw_lstore d_Mo_summed_27 (by decide) ?_
    refine aw_iinc (v := (x6 + (1 : Int32))) d_Mo_summed_29 rfl (by rfl) (by decide) ?_
    refine aw_goto (tgt := 6) d_Mo_summed_32 (by decide) ?_
    exact aw_weak (lv' := [some (.ref a0), some (.int x1), some (.int x2), some (.int x3), some (.long (y4 * (10 : Int64))), none, some (.int (x6 + (1 : Int32))), none]) ⟨rfl, rfl, rfl, rfl, rfl, rfl, trivial⟩ w
set_option maxRecDepth 20000 in
theorem r_Mo_summed_67 {E : zE} {K n : Nat → Nat} {I : Nat → Nat → Int32} {F : Nat → Nat → Option Nat} {J : Nat → Nat → Int64} {cb sb : Nat} {Q : zO → zH → Prop} {a0 : Nat} {x1 : Int32} {x3 : Int32} {y4 : Int64} {sy0 : Int64}
    (w : K a0 = 9 ∧ (∃ b2 : Nat, F a0 19 = some b2 ∧ (∃ b3 : Nat, F a0 20 = some b3 ∧ (∃ b4 : Nat, F a0 9 = some b4 ∧ K b4 = 21 ∧ (∃ j6 : Nat, ((2 : Int32) * x1) = nI j6 ∧ j6 < n b4 ∧ j6 < 2147483648 ∧ (∃ j7 : Nat, (((2 : Int32) * x1) + (1 : Int32)) = nI j7 ∧ j7 < n b4 ∧ j7 < 2147483648 ∧ AW E m_Mo_asNumber (K, n, I, F, J) 0 0 (zAft E m_Mo_summed cb sb Q 96 [none, none, none, none, some (.long y4), none, none, none] [.long sy0]) 0 [some (.ref b2), some (.ref b3), some (.int x3), some (.int ((I b4 j6) - (1 : Int32))), some (.int (I b4 j7)), none, none, none, none] [])))))) :
    AW E m_Mo_summed (K, n, I, F, J) cb sb Q 67 [some (.ref a0), some (.int x1), none, some (.int x3), some (.long y4), none, none, none] [.long sy0] := by
  refine aw_aload_n (x := a0) d_Mo_summed_67 rfl ?_
  obtain ⟨hk1, w⟩ := w
  obtain ⟨b2, hb2, w⟩ := w
  refine gs_Mo_46 rfl hk1 hb2 d_Mo_summed_68 ?_
  refine aw_aload_n (x := a0) d_Mo_summed_71 rfl ?_
  obtain ⟨b3, hb3, w⟩ := w
  refine gs_Mo_49 rfl hk1 hb3 d_Mo_summed_72 ?_
  refine aw_iload_n (x := x3) d_Mo_summed_75 rfl ?_
  refine aw_aload_n (x := a0) d_Mo_summed_76 rfl ?_
  obtain ⟨b4, hb4, w⟩ := w
  refine gs_Mo_28 rfl hk1 hb4 d_Mo_summed_77 ?_
  refine aw_iconst (v := (2 : Int32)) d_Mo_summed_80 (by decide) ?_
  refine aw_iload_n (x := x1) d_Mo_summed_81 rfl ?_
  refine aw_imul d_Mo_summed_82 ?_
  obtain ⟨hk5, w⟩ := w
  obtain ⟨j6, hj6a, hj6b, hj6c, w⟩ := w
  refine aw_iaload j6 hk5 hj6a hj6b hj6c d_Mo_summed_83 ?_
  refine aw_iconst (v := (1 : Int32)) d_Mo_summed_84 (by decide) ?_
  refine aw_isub d_Mo_summed_85 ?_
  refine aw_aload_n (x := a0) d_Mo_summed_86 rfl ?_
  refine gs_Mo_28 rfl hk1 hb4 d_Mo_summed_87 ?_
  refine aw_iconst (v := (2 : Int32)) d_Mo_summed_90 (by decide) ?_
  refine aw_iload_n (x := x1) d_Mo_summed_91 rfl ?_
  refine aw_imul d_Mo_summed_92 ?_
  refine aw_iconst (v := (1 : Int32)) d_Mo_summed_93 (by decide) ?_
  refine aw_iadd d_Mo_summed_94 ?_
  obtain ⟨j7, hj7a, hj7b, hj7c, w⟩ := w
  refine aw_iaload j7 hk5 hj7a hj7b hj7c d_Mo_summed_95 ?_
  exact aw_room (cb' := 0 + cb) (sb' := 0 + sb) (by omega) (by omega) (aw_weak (lv' := [none, none, none, none, some (.long y4), none, none, none]) ⟨rfl, trivial⟩ (aw_callS (M' := m_Mo_asNumber) (lv0 := [some (.ref b2), some (.ref b3), some (.int x3), some (.int ((I b4 j6) - (1 : Int32))), some (.int (I b4 j7)), none, none, none, none]) (As := [.ref b2, .ref b3, .int x3, .int ((I b4 j6) - (1 : Int32)), .int (I b4 j7)]) (rest := [.long sy0]) 1100 1101 1102 8 tb_1100 tb_1101 tb_1102 tb_8 rfl rfl 5 1 rfl rfl ⟨by decide, by decide, by decide +kernel, by decide +kernel, by decide, by decide⟩ (Nat.le_of_ble_eq_true rfl) ⟨rfl, rfl, rfl, rfl, rfl, trivial⟩ rfl d_Mo_summed_96 w))
set_option maxRecDepth 20000 in
theorem r_Mo_summed_99 {E : zE} {K n : Nat → Nat} {I : Nat → Nat → Int32} {F : Nat → Nat → Option Nat} {J : Nat → Nat → Int64} {cb sb : Nat} {Q : zO → zH → Prop} {y4 : Int64} {sy0 : Int64} {sy1 : Int64}
    (w : ((0 ≤ (lg_cmp (sy0 + sy1) y4) → Q (.inl (some (.long (-1 : Int64)))) (K, n, I, F, J)) ∧ (¬ 0 ≤ (lg_cmp (sy0 + sy1) y4) → Q (.inl (some (.long (sy0 + sy1)))) (K, n, I, F, J)))) :
    AW E m_Mo_summed (K, n, I, F, J) cb sb Q 99 [none, none, none, none, some (.long y4), none, none, none] [.long sy1, .long sy0] := by
  refine aw_ladd d_Mo_summed_99 ?_
  refine aw_lstore d_Mo_summed_100 (by decide) ?_
  refine aw_lload (x := (sy0 + sy1)) d_Mo_summed_102 rfl ?_
  refine aw_lload (x := y4) d_Mo_summed_104 rfl ?_
  refine aw_lcmp d_Mo_summed_106 ?_
  refine aw_if_ge (tgt := 115) d_Mo_summed_107 (by decide) (fun cc1 => ?_) (fun cc1 => ?_)
  · replace w := w.1 cc1
    refine aw_ldc2 (v := -1) 1103 tb_1103 d_Mo_summed_115 ?_
    exact aw_lreturn rfl d_Mo_summed_118 w
  · replace w := w.2 cc1
    refine aw_lload (x := (sy0 + sy1)) d_Mo_summed_110 rfl ?_
    refine aw_goto (tgt := 118) d_Mo_summed_112 (by decide) ?_
    exact aw_lreturn rfl d_Mo_summed_118 w
set_option maxRecDepth 20000 in
theorem r_Mo_takesUp_0 {E : zE} {K n : Nat → Nat} {I : Nat → Nat → Int32} {F : Nat → Nat → Option Nat} {J : Nat → Nat → Int64} {cb sb : Nat} {Q : zO → zH → Prop} {a0 : Nat} {x1 : Int32} {x2 : Int32}
    (w : K a0 = 9 ∧ (∃ b2 : Nat, F a0 5 = some b2 ∧ K b2 = 21 ∧ (∃ j4 : Nat, (1 : Int32) = nI j4 ∧ j4 < n b2 ∧ j4 < 2147483648 ∧ (((I b2 j4) = 0 → Q (.inl (some (.int (0 : Int32)))) (K, n, I, F, J)) ∧ (¬ (I b2 j4) = 0 → (∃ j6 : Nat, (3 : Int32) = nI j6 ∧ j6 < n b2 ∧ j6 < 2147483648 ∧ (((I b2 j6) = 0 → Q (.inl (some (.int (0 : Int32)))) (K, n, I, F, J)) ∧ (¬ (I b2 j6) = 0 → (∃ b8 : Nat, F a0 19 = some b8 ∧ (∃ b9 : Nat, F a0 20 = some b9 ∧ AW E m_Mo_byKeys (K, n, I, F, J) 0 0 (zAft E m_Mo_takesUp cb sb Q 37 [some (.ref a0), some (.int x1), some (.int x2), none, none, none, none, none, none, none] []) 0 [some (.ref a0), some (.ref b8), some (.ref b9), some (.int x1), some (.ref b8), some (.ref b9), some (.int x2), none, none] [])))))))))) :
    AW E m_Mo_takesUp (K, n, I, F, J) cb sb Q 0 [some (.ref a0), some (.int x1), some (.int x2), none, none, none, none, none, none, none] [] := by
  refine aw_aload_n (x := a0) d_Mo_takesUp_0 rfl ?_
  obtain ⟨hk1, w⟩ := w
  obtain ⟨b2, hb2, w⟩ := w
  refine gs_Mo_16 rfl hk1 hb2 d_Mo_takesUp_1 ?_
  refine aw_iconst (v := (1 : Int32)) d_Mo_takesUp_4 (by decide) ?_
  obtain ⟨hk3, w⟩ := w
  obtain ⟨j4, hj4a, hj4b, hj4c, w⟩ := w
  refine aw_iaload j4 hk3 hj4a hj4b hj4c d_Mo_takesUp_5 ?_
  refine aw_if_eq (tgt := 43) d_Mo_takesUp_6 (by decide) (fun cc5 => ?_) (fun cc5 => ?_)
  · replace w := w.1 cc5
    refine aw_iconst (v := (0 : Int32)) d_Mo_takesUp_43 (by decide) ?_
    exact aw_ireturn .boolean rfl rfl d_Mo_takesUp_44 w
  · replace w := w.2 cc5
    refine aw_aload_n (x := a0) d_Mo_takesUp_9 rfl ?_
    refine gs_Mo_16 rfl hk1 hb2 d_Mo_takesUp_10 ?_
    refine aw_iconst (v := (3 : Int32)) d_Mo_takesUp_13 (by decide) ?_
    obtain ⟨j6, hj6a, hj6b, hj6c, w⟩ := w
    refine aw_iaload j6 hk3 hj6a hj6b hj6c d_Mo_takesUp_14 ?_
    refine aw_if_eq (tgt := 43) d_Mo_takesUp_15 (by decide) (fun cc7 => ?_) (fun cc7 => ?_)
    · replace w := w.1 cc7
      refine aw_iconst (v := (0 : Int32)) d_Mo_takesUp_43 (by decide) ?_
      exact aw_ireturn .boolean rfl rfl d_Mo_takesUp_44 w
    · replace w := w.2 cc7
      refine aw_aload_n (x := a0) d_Mo_takesUp_18 rfl ?_
      refine aw_aload_n (x := a0) d_Mo_takesUp_19 rfl ?_
      obtain ⟨b8, hb8, w⟩ := w
      refine gs_Mo_46 rfl hk1 hb8 d_Mo_takesUp_20 ?_
      refine aw_aload_n (x := a0) d_Mo_takesUp_23 rfl ?_
      obtain ⟨b9, hb9, w⟩ := w
      refine gs_Mo_49 rfl hk1 hb9 d_Mo_takesUp_24 ?_
      refine aw_iload_n (x := x1) d_Mo_takesUp_27 rfl ?_
      refine aw_aload_n (x := a0) d_Mo_takesUp_28 rfl ?_
      refine gs_Mo_46 rfl hk1 hb8 d_Mo_takesUp_29 ?_
      refine aw_aload_n (x := a0) d_Mo_takesUp_32 rfl ?_
      refine gs_Mo_49 rfl hk1 hb9 d_Mo_takesUp_33 ?_
      refine aw_iload_n (x := x2) d_Mo_takesUp_36 rfl ?_
      exact aw_room (cb' := 0 + cb) (sb' := 0 + sb) (by omega) (by omega) (aw_weak (lv' := [some (.ref a0), some (.int x1), some (.int x2), none, none, none, none, none, none, none]) ⟨rfl, rfl, rfl, trivial⟩ (aw_callV (M' := m_Mo_byKeys) (lv0 := [some (.ref a0), some (.ref b8), some (.ref b9), some (.int x1), some (.ref b8), some (.ref b9), some (.int x2), none, none]) (As := [.ref b8, .ref b9, .int x1, .ref b8, .ref b9, .int x2]) (rest := []) 8 1080 1082 1083 rfl (by decide) rfl hk1 tb_1080 tb_1082 tb_1083 (fun U hU => hU.p 54 rfl) rfl rfl 6 0 rfl rfl ⟨by decide, by decide, by decide +kernel, by decide +kernel, by decide, by decide⟩ (Nat.le_of_ble_eq_true rfl) ⟨rfl, rfl, rfl, rfl, rfl, rfl, rfl, trivial⟩ rfl d_Mo_takesUp_37 w))
set_option maxRecDepth 20000 in
theorem r_Mo_takesUp_40 {E : zE} {K n : Nat → Nat} {I : Nat → Nat → Int32} {F : Nat → Nat → Option Nat} {J : Nat → Nat → Int64} {cb sb : Nat} {Q : zO → zH → Prop} {a0 : Nat} {x1 : Int32} {x2 : Int32} {sx0 : Int32}
    (w : ((sx0 = 0 → AW E m_Mo_takesUp (K, n, I, F, J) cb sb Q 50 [some (.ref a0), some (.int x1), some (.int x2), some (.int (1 : Int32)), some (.int (0 : Int32)), none, none, none, none, none] []) ∧ (¬ sx0 = 0 → Q (.inl (some (.int (0 : Int32)))) (K, n, I, F, J)))) :
    AW E m_Mo_takesUp (K, n, I, F, J) cb sb Q 40 [some (.ref a0), some (.int x1), some (.int x2), none, none, none, none, none, none, none] [.int sx0] := by
  refine aw_if_eq (tgt := 45) d_Mo_takesUp_40 (by decide) (fun cc1 => ?_) (fun cc1 => ?_)
  · replace w := w.1 cc1
    refine aw_iconst (v := (1 : Int32)) d_Mo_takesUp_45 (by decide) ?_
    refine aw_istore_n d_Mo_takesUp_46 (by decide) ?_
    refine aw_iconst (v := (0 : Int32)) d_Mo_takesUp_47 (by decide) ?_
    refine aw_istore d_Mo_takesUp_48 (by decide) ?_
    exact aw_weak (lv' := [some (.ref a0), some (.int x1), some (.int x2), some (.int (1 : Int32)), some (.int (0 : Int32)), none, none, none, none, none]) ⟨rfl, rfl, rfl, rfl, rfl, trivial⟩ w
  · replace w := w.2 cc1
    refine aw_iconst (v := (0 : Int32)) d_Mo_takesUp_43 (by decide) ?_
    exact aw_ireturn .boolean rfl rfl d_Mo_takesUp_44 w
set_option maxRecDepth 20000 in
theorem r_Mo_takesUp_50 {E : zE} {K n : Nat → Nat} {I : Nat → Nat → Int32} {F : Nat → Nat → Option Nat} {J : Nat → Nat → Int64} {cb sb : Nat} {Q : zO → zH → Prop} {a0 : Nat} {x1 : Int32} {x2 : Int32} {x3 : Int32} {x4 : Int32}
    (w : K a0 = 9 ∧ (∃ b2 : Nat, F a0 5 = some b2 ∧ K b2 = 21 ∧ (∃ j4 : Nat, (3 : Int32) = nI j4 ∧ j4 < n b2 ∧ j4 < 2147483648 ∧ (((I b2 j4) ≤ x4 → ((¬ x3 = 0 → AW E m_Mo_takesUp (K, n, I, F, J) cb sb Q 120 [some (.ref a0), some (.int x1), some (.int x2), none, some (.int (0 : Int32)), none, none, none, none, none] []) ∧ (x3 = 0 → Q (.inl (some (.int (0 : Int32)))) (K, n, (zup I a0 17 (4 : Int32)), F, J)))) ∧ (¬ (I b2 j4) ≤ x4 → (∃ b7 : Nat, F a0 39 = some b7 ∧ AW E m_Mo_summed (K, n, I, F, J) 0 0 (zAft E m_Mo_takesUp cb sb Q 72 [some (.ref a0), some (.int x1), some (.int x2), some (.int x3), some (.int x4), none, none, none, none, none] [.int x4, .ref b7]) 0 [some (.ref a0), some (.int x4), some (.int x1), some (.int x2), none, none, none, none] [])))))) :
    AW E m_Mo_takesUp (K, n, I, F, J) cb sb Q 50 [some (.ref a0), some (.int x1), some (.int x2), some (.int x3), some (.int x4), none, none, none, none, none] [] := by
  refine aw_iload (x := x4) d_Mo_takesUp_50 rfl ?_
  refine aw_aload_n (x := a0) d_Mo_takesUp_52 rfl ?_
  obtain ⟨hk1, w⟩ := w
  obtain ⟨b2, hb2, w⟩ := w
  refine gs_Mo_16 rfl hk1 hb2 d_Mo_takesUp_53 ?_
  refine aw_iconst (v := (3 : Int32)) d_Mo_takesUp_56 (by decide) ?_
  obtain ⟨hk3, w⟩ := w
  obtain ⟨j4, hj4a, hj4b, hj4c, w⟩ := w
  refine aw_iaload j4 hk3 hj4a hj4b hj4c d_Mo_takesUp_57 ?_
  refine aw_icmp_ge (tgt := 106) d_Mo_takesUp_58 (by decide) (fun cc5 => ?_) (fun cc5 => ?_)
  · replace w := w.1 cc5
    refine aw_iload_n (x := x3) d_Mo_takesUp_106 rfl ?_
    refine aw_if_ne (tgt := 117) d_Mo_takesUp_107 (by decide) (fun cc6 => ?_) (fun cc6 => ?_)
    · replace w := w.1 cc6
      refine aw_iconst (v := (0 : Int32)) d_Mo_takesUp_117 (by decide) ?_
      refine aw_istore d_Mo_takesUp_118 (by decide) ?_
      exact aw_weak (lv' := [some (.ref a0), some (.int x1), some (.int x2), none, some (.int (0 : Int32)), none, none, none, none, none]) ⟨rfl, rfl, rfl, rfl, trivial⟩ w
    · replace w := w.2 cc6
      refine aw_aload_n (x := a0) d_Mo_takesUp_110 rfl ?_
      refine aw_iconst (v := (4 : Int32)) d_Mo_takesUp_111 (by decide) ?_
      refine pf_Mo_225 rfl hk1 d_Mo_takesUp_112 ?_
      refine aw_iconst (v := (0 : Int32)) d_Mo_takesUp_115 (by decide) ?_
      exact aw_ireturn .boolean rfl rfl d_Mo_takesUp_116 w
  · replace w := w.2 cc5
    refine aw_aload_n (x := a0) d_Mo_takesUp_61 rfl ?_
    obtain ⟨b7, hb7, w⟩ := w
    refine gs_Mo_104 rfl hk1 hb7 d_Mo_takesUp_62 ?_
    refine aw_iload (x := x4) d_Mo_takesUp_65 rfl ?_
    refine aw_aload_n (x := a0) d_Mo_takesUp_67 rfl ?_
    refine aw_iload (x := x4) d_Mo_takesUp_68 rfl ?_
    refine aw_iload_n (x := x1) d_Mo_takesUp_70 rfl ?_
    refine aw_iload_n (x := x2) d_Mo_takesUp_71 rfl ?_
    exact aw_room (cb' := 0 + cb) (sb' := 0 + sb) (by omega) (by omega) (aw_weak (lv' := [some (.ref a0), some (.int x1), some (.int x2), some (.int x3), some (.int x4), none, none, none, none, none]) ⟨rfl, rfl, rfl, rfl, rfl, trivial⟩ (aw_callV (M' := m_Mo_summed) (lv0 := [some (.ref a0), some (.int x4), some (.int x1), some (.int x2), none, none, none, none]) (As := [.int x4, .int x1, .int x2]) (rest := [.int x4, .ref b7]) 8 1095 1097 1098 rfl (by decide) rfl hk1 tb_1095 tb_1097 tb_1098 (fun U hU => hU.p 57 rfl) rfl rfl 3 2 rfl rfl ⟨by decide, by decide, by decide +kernel, by decide +kernel, by decide, by decide⟩ (Nat.le_of_ble_eq_true rfl) ⟨rfl, rfl, rfl, rfl, trivial⟩ rfl d_Mo_takesUp_72 w))
set_option maxRecDepth 20000 in
theorem r_Mo_takesUp_75 {E : zE} {K n : Nat → Nat} {I : Nat → Nat → Int32} {F : Nat → Nat → Option Nat} {J : Nat → Nat → Int64} {cb sb : Nat} {Q : zO → zH → Prop} {a0 : Nat} {x1 : Int32} {x2 : Int32} {x3 : Int32} {x4 : Int32} {sa0 : Nat} {sx1 : Int32} {sy2 : Int64}
    (w : K sa0 = 22 ∧ (∃ j2 : Nat, sx1 = nI j2 ∧ j2 < n sa0 ∧ j2 < 2147483648 ∧ ((x3 = 0 → AW E m_Mo_takesUp (K, n, I, F, (zup J sa0 j2 sy2)) cb sb Q 50 [some (.ref a0), some (.int x1), some (.int x2), some (.int (0 : Int32)), some (.int (x4 + (1 : Int32))), none, none, none, none, none] []) ∧ (¬ x3 = 0 → K a0 = 9 ∧ (∃ b5 : Nat, F a0 39 = some b5 ∧ K b5 = 22 ∧ (∃ j7 : Nat, x4 = nI j7 ∧ j7 < n b5 ∧ j7 < 2147483648 ∧ (((lg_cmp ((zup J sa0 j2 sy2) b5 j7) (-1 : Int64)) = 0 → AW E m_Mo_takesUp (K, n, I, F, (zup J sa0 j2 sy2)) cb sb Q 50 [some (.ref a0), some (.int x1), some (.int x2), some (.int (0 : Int32)), some (.int (x4 + (1 : Int32))), none, none, none, none, none] []) ∧ (¬ (lg_cmp ((zup J sa0 j2 sy2) b5 j7) (-1 : Int64)) = 0 → AW E m_Mo_takesUp (K, n, I, F, (zup J sa0 j2 sy2)) cb sb Q 50 [some (.ref a0), some (.int x1), some (.int x2), some (.int (1 : Int32)), some (.int (x4 + (1 : Int32))), none, none, none, none, none] [])))))))) :
    AW E m_Mo_takesUp (K, n, I, F, J) cb sb Q 75 [some (.ref a0), some (.int x1), some (.int x2), some (.int x3), some (.int x4), none, none, none, none, none] [.long sy2, .int sx1, .ref sa0] := by
  obtain ⟨hk1, w⟩ := w
  obtain ⟨j2, hj2a, hj2b, hj2c, w⟩ := w
  refine aw_lastore j2 hk1 hj2a hj2b hj2c d_Mo_takesUp_75 ?_
  refine aw_iload_n (x := x3) d_Mo_takesUp_76 rfl ?_
  refine aw_if_eq (tgt := 98) d_Mo_takesUp_77 (by decide) (fun cc3 => ?_) (fun cc3 => ?_)
  · replace w := w.1 cc3
    refine aw_iconst (v := (0 : Int32)) d_Mo_takesUp_98 (by decide) ?_
    refine aw_istore_n d_Mo_takesUp_99 (by decide) ?_
    refine aw_iinc (v := (x4 + (1 : Int32))) d_Mo_takesUp_100 rfl (by rfl) (by decide) ?_
    refine aw_goto (tgt := 50) d_Mo_takesUp_103 (by decide) ?_
    exact aw_weak (lv' := [some (.ref a0), some (.int x1), some (.int x2), some (.int (0 : Int32)), some (.int (x4 + (1 : Int32))), none, none, none, none, none]) ⟨rfl, rfl, rfl, rfl, rfl, trivial⟩ w
  · replace w := w.2 cc3
    refine aw_aload_n (x := a0) d_Mo_takesUp_80 rfl ?_
    obtain ⟨hk4, w⟩ := w
    obtain ⟨b5, hb5, w⟩ := w
    refine gs_Mo_104 rfl hk4 hb5 d_Mo_takesUp_81 ?_
    refine aw_iload (x := x4) d_Mo_takesUp_84 rfl ?_
    obtain ⟨hk6, w⟩ := w
    obtain ⟨j7, hj7a, hj7b, hj7c, w⟩ := w
    refine aw_laload j7 hk6 hj7a hj7b hj7c d_Mo_takesUp_86 ?_
    refine aw_ldc2 (v := -1) 1103 tb_1103 d_Mo_takesUp_87 ?_
    refine aw_lcmp d_Mo_takesUp_90 ?_
    refine aw_if_eq (tgt := 98) d_Mo_takesUp_91 (by decide) (fun cc8 => ?_) (fun cc8 => ?_)
    · replace w := w.1 cc8
      refine aw_iconst (v := (0 : Int32)) d_Mo_takesUp_98 (by decide) ?_
      refine aw_istore_n d_Mo_takesUp_99 (by decide) ?_
      refine aw_iinc (v := (x4 + (1 : Int32))) d_Mo_takesUp_100 rfl (by rfl) (by decide) ?_
      refine aw_goto (tgt := 50) d_Mo_takesUp_103 (by decide) ?_
      exact aw_weak (lv' := [some (.ref a0), some (.int x1), some (.int x2), some (.int (0 : Int32)), some (.int (x4 + (1 : Int32))), none, none, none, none, none]) ⟨rfl, rfl, rfl, rfl, rfl, trivial⟩ w
    · replace w := w.2 cc8
      refine aw_iconst (v := (1 : Int32)) d_Mo_takesUp_94 (by decide) ?_
      refine aw_goto (tgt := 99) d_Mo_takesUp_95 (by decide) ?_
      refine aw_istore_n d_Mo_takesUp_99 (by decide) ?_
      refine aw_iinc (v := (x4 + (1 : Int32))) d_Mo_takesUp_100 rfl (by rfl) (by decide) ?_
      refine aw_goto (tgt := 50) d_Mo_takesUp_103 (by decide) ?_
      exact aw_weak (lv' := [some (.ref a0), some (.int x1), some (.int x2), some (.int (1 : Int32)), some (.int (x4 + (1 : Int32))), none, none, none, none, none]) ⟨rfl, rfl, rfl, rfl, rfl, trivial⟩ w
set_option maxRecDepth 20000 in
theorem r_Mo_takesUp_120 {E : zE} {K n : Nat → Nat} {I : Nat → Nat → Int32} {F : Nat → Nat → Option Nat} {J : Nat → Nat → Int64} {cb sb : Nat} {Q : zO → zH → Prop} {a0 : Nat} {x1 : Int32} {x2 : Int32} {x4 : Int32}
    (w : K a0 = 9 ∧ (∃ b2 : Nat, F a0 5 = some b2 ∧ K b2 = 21 ∧ (∃ j4 : Nat, (3 : Int32) = nI j4 ∧ j4 < n b2 ∧ j4 < 2147483648 ∧ (((I b2 j4) ≤ x4 → (∃ b6 : Nat, F a0 21 = some b6 ∧ K b6 = 21 ∧ (∃ j8 : Nat, x1 = nI j8 ∧ j8 < n b6 ∧ j8 < 2147483648 ∧ (∃ j9 : Nat, x2 = nI j9 ∧ j9 < n b6 ∧ j9 < 2147483648 ∧ Q (.inl (some (.int (1 : Int32)))) (K, n, (zup I b6 j8 ((I b6 j8) + (I b6 j9))), F, J))))) ∧ (¬ (I b2 j4) ≤ x4 → (∃ b10 : Nat, F a0 39 = some b10 ∧ K b10 = 22 ∧ (∃ j12 : Nat, x4 = nI j12 ∧ j12 < n b10 ∧ j12 < 2147483648 ∧ (∃ b13 : Nat, F a0 9 = some b13 ∧ K b13 = 21 ∧ (∃ j15 : Nat, ((2 : Int32) * x4) = nI j15 ∧ j15 < n b13 ∧ j15 < 2147483648 ∧ (∃ j16 : Nat, (((2 : Int32) * x4) + (1 : Int32)) = nI j16 ∧ j16 < n b13 ∧ j16 < 2147483648 ∧ (∃ b17 : Nat, F a0 20 = some b17 ∧ K b17 = 21 ∧ (∃ j19 : Nat, x1 = nI j19 ∧ j19 < n b17 ∧ j19 < 2147483648 ∧ AW E m_Mo_takesUp (K, n, I, F, J) cb sb Q 177 [some (.ref a0), some (.int x1), some (.int x2), none, some (.int x4), some (.long (J b10 j12)), none, some (.int ((I b13 j15) - (1 : Int32))), some (.int (((I b13 j15) - (1 : Int32)) + (I b13 j16))), some (.int (I b17 j19))] [])))))))))))) :
    AW E m_Mo_takesUp (K, n, I, F, J) cb sb Q 120 [some (.ref a0), some (.int x1), some (.int x2), none, some (.int x4), none, none, none, none, none] [] := by
  refine aw_iload (x := x4) d_Mo_takesUp_120 rfl ?_
  refine aw_aload_n (x := a0) d_Mo_takesUp_122 rfl ?_
  obtain ⟨hk1, w⟩ := w
  obtain ⟨b2, hb2, w⟩ := w
  refine gs_Mo_16 rfl hk1 hb2 d_Mo_takesUp_123 ?_
  refine aw_iconst (v := (3 : Int32)) d_Mo_takesUp_126 (by decide) ?_
  obtain ⟨hk3, w⟩ := w
  obtain ⟨j4, hj4a, hj4b, hj4c, w⟩ := w
  refine aw_iaload j4 hk3 hj4a hj4b hj4c d_Mo_takesUp_127 ?_
  refine aw_icmp_ge (tgt := 287) d_Mo_takesUp_128 (by decide) (fun cc5 => ?_) (fun cc5 => ?_)
  · replace w := w.1 cc5
    refine aw_aload_n (x := a0) d_Mo_takesUp_287 rfl ?_
    obtain ⟨b6, hb6, w⟩ := w
    refine gs_Mo_52 rfl hk1 hb6 d_Mo_takesUp_288 ?_
    refine aw_iload_n (x := x1) d_Mo_takesUp_291 rfl ?_
    refine aw_dup2 d_Mo_takesUp_292 rfl rfl ?_
    obtain ⟨hk7, w⟩ := w
    obtain ⟨j8, hj8a, hj8b, hj8c, w⟩ := w
    refine aw_iaload j8 hk7 hj8a hj8b hj8c d_Mo_takesUp_293 ?_
    refine aw_aload_n (x := a0) d_Mo_takesUp_294 rfl ?_
    refine gs_Mo_52 rfl hk1 hb6 d_Mo_takesUp_295 ?_
    refine aw_iload_n (x := x2) d_Mo_takesUp_298 rfl ?_
    obtain ⟨j9, hj9a, hj9b, hj9c, w⟩ := w
    refine aw_iaload j9 hk7 hj9a hj9b hj9c d_Mo_takesUp_299 ?_
    refine aw_iadd d_Mo_takesUp_300 ?_
    refine aw_iastore j8 hk7 hj8a hj8b hj8c d_Mo_takesUp_301 ?_
    refine aw_iconst (v := (1 : Int32)) d_Mo_takesUp_302 (by decide) ?_
    exact aw_ireturn .boolean rfl rfl d_Mo_takesUp_303 w
  · replace w := w.2 cc5
    refine aw_aload_n (x := a0) d_Mo_takesUp_131 rfl ?_
    obtain ⟨b10, hb10, w⟩ := w
    refine gs_Mo_104 rfl hk1 hb10 d_Mo_takesUp_132 ?_
    refine aw_iload (x := x4) d_Mo_takesUp_135 rfl ?_
    obtain ⟨hk11, w⟩ := w
    obtain ⟨j12, hj12a, hj12b, hj12c, w⟩ := w
    refine aw_laload j12 hk11 hj12a hj12b hj12c d_Mo_takesUp_137 ?_
    refine aw_lstore d_Mo_takesUp_138 (by decide) ?_
    refine aw_aload_n (x := a0) d_Mo_takesUp_140 rfl ?_
    obtain ⟨b13, hb13, w⟩ := w
    refine gs_Mo_28 rfl hk1 hb13 d_Mo_takesUp_141 ?_
    refine aw_iconst (v := (2 : Int32)) d_Mo_takesUp_144 (by decide) ?_
    refine aw_iload (x := x4) d_Mo_takesUp_145 rfl ?_
    refine aw_imul d_Mo_takesUp_147 ?_
    obtain ⟨hk14, w⟩ := w
    obtain ⟨j15, hj15a, hj15b, hj15c, w⟩ := w
    refine aw_iaload j15 hk14 hj15a hj15b hj15c d_Mo_takesUp_148 ?_
    refine aw_iconst (v := (1 : Int32)) d_Mo_takesUp_149 (by decide) ?_
    refine aw_isub d_Mo_takesUp_150 ?_
    refine aw_istore d_Mo_takesUp_151 (by decide) ?_
    refine aw_iload (x := ((I b13 j15) - (1 : Int32))) d_Mo_takesUp_153 rfl ?_
    refine aw_aload_n (x := a0) d_Mo_takesUp_155 rfl ?_
    refine gs_Mo_28 rfl hk1 hb13 d_Mo_takesUp_156 ?_
    refine aw_iconst (v := (2 : Int32)) d_Mo_takesUp_159 (by decide) ?_
    refine aw_iload (x := x4) d_Mo_takesUp_160 rfl ?_
    refine aw_imul d_Mo_takesUp_162 ?_
    refine aw_iconst (v := (1 : Int32)) d_Mo_takesUp_163 (by decide) ?_
    refine aw_iadd d_Mo_takesUp_164 ?_
    obtain ⟨j16, hj16a, hj16b, hj16c, w⟩ := w
    refine aw_iaload j16 hk14 hj16a hj16b hj16c d_Mo_takesUp_165 ?_
    refine aw_iadd d_Mo_takesUp_166 ?_
    refine aw_istore d_Mo_takesUp_167 (by decide) ?_
    refine aw_aload_n (x := a0) d_Mo_takesUp_169 rfl ?_
    obtain ⟨b17, hb17, w⟩ := w
    refine gs_Mo_49 rfl hk1 hb17 d_Mo_takesUp_170 ?_
    refine aw_iload_n (x := x1) d_Mo_takesUp_173 rfl ?_
    obtain ⟨hk18, w⟩ := w
    obtain ⟨j19, hj19a, hj19b, hj19c, w⟩ := w
    refine aw_iaload j19 hk18 hj19a hj19b hj19c d_Mo_takesUp_174 ?_
    refine aw_istore d_Mo_takesUp_175 (by decide) ?_
    exact aw_weak (lv' := [some (.ref a0), some (.int x1), some (.int x2), none, some (.int x4), some (.long (J b10 j12)), none, some (.int ((I b13 j15) - (1 : Int32))), some (.int (((I b13 j15) - (1 : Int32)) + (I b13 j16))), some (.int (I b17 j19))]) ⟨rfl, rfl, rfl, rfl, rfl, rfl, rfl, rfl, trivial⟩ w
set_option maxRecDepth 20000 in
theorem r_Mo_takesUp_177 {E : zE} {K n : Nat → Nat} {I : Nat → Nat → Int32} {F : Nat → Nat → Option Nat} {J : Nat → Nat → Int64} {cb sb : Nat} {Q : zO → zH → Prop} {a0 : Nat} {x1 : Int32} {x2 : Int32} {x4 : Int32} {y5 : Int64} {x7 : Int32} {x8 : Int32} {x9 : Int32}
    (w : ((x8 ≤ x9 → K a0 = 9 ∧ (∃ b3 : Nat, F a0 20 = some b3 ∧ K b3 = 21 ∧ (∃ j5 : Nat, x1 = nI j5 ∧ j5 < n b3 ∧ j5 < 2147483648 ∧ ((x8 ≤ (I b3 j5) → AW E m_Mo_takesUp (K, n, (zup I b3 j5 (I b3 j5)), F, J) cb sb Q 238 [some (.ref a0), some (.int x1), some (.int x2), none, some (.int x4), some (.long y5), none, some (.int x7), none, some (.int (x8 - (1 : Int32)))] []) ∧ (¬ x8 ≤ (I b3 j5) → AW E m_Mo_takesUp (K, n, (zup I b3 j5 x8), F, J) cb sb Q 238 [some (.ref a0), some (.int x1), some (.int x2), none, some (.int x4), some (.long y5), none, some (.int x7), none, some (.int (x8 - (1 : Int32)))] []))))) ∧ (¬ x8 ≤ x9 → K a0 = 9 ∧ (∃ b8 : Nat, F a0 19 = some b8 ∧ K b8 = 21 ∧ (∃ j10 : Nat, (((100 : Int32) * x1) + x9) = nI j10 ∧ j10 < n b8 ∧ j10 < 2147483648 ∧ AW E m_Mo_takesUp (K, n, (zup I b8 j10 (32 : Int32)), F, J) cb sb Q 177 [some (.ref a0), some (.int x1), some (.int x2), none, some (.int x4), some (.long y5), none, some (.int x7), some (.int x8), some (.int (x9 + (1 : Int32)))] []))))) :
    AW E m_Mo_takesUp (K, n, I, F, J) cb sb Q 177 [some (.ref a0), some (.int x1), some (.int x2), none, some (.int x4), some (.long y5), none, some (.int x7), some (.int x8), some (.int x9)] [] := by
  refine aw_iload (x := x9) d_Mo_takesUp_177 rfl ?_
  refine aw_iload (x := x8) d_Mo_takesUp_179 rfl ?_
  refine aw_icmp_ge (tgt := 204) d_Mo_takesUp_181 (by decide) (fun cc1 => ?_) (fun cc1 => ?_)
  · replace w := w.1 cc1
    refine aw_aload_n (x := a0) d_Mo_takesUp_204 rfl ?_
    obtain ⟨hk2, w⟩ := w
    obtain ⟨b3, hb3, w⟩ := w
    refine gs_Mo_49 rfl hk2 hb3 d_Mo_takesUp_205 ?_
    refine aw_iload_n (x := x1) d_Mo_takesUp_208 rfl ?_
    refine aw_iload (x := x8) d_Mo_takesUp_209 rfl ?_
    refine aw_aload_n (x := a0) d_Mo_takesUp_211 rfl ?_
    refine gs_Mo_49 rfl hk2 hb3 d_Mo_takesUp_212 ?_
    refine aw_iload_n (x := x1) d_Mo_takesUp_215 rfl ?_
    obtain ⟨hk4, w⟩ := w
    obtain ⟨j5, hj5a, hj5b, hj5c, w⟩ := w
    refine aw_iaload j5 hk4 hj5a hj5b hj5c d_Mo_takesUp_216 ?_
    refine aw_icmp_le (tgt := 225) d_Mo_takesUp_217 (by decide) (fun cc6 => ?_) (fun cc6 => ?_)
    · replace w := w.1 cc6
      refine aw_aload_n (x := a0) d_Mo_takesUp_225 rfl ?_
      refine gs_Mo_49 rfl hk2 hb3 d_Mo_takesUp_226 ?_
      refine aw_iload_n (x := x1) d_Mo_takesUp_229 rfl ?_
      refine aw_iaload j5 hk4 hj5a hj5b hj5c d_Mo_takesUp_230 ?_
      refine aw_iastore j5 hk4 hj5a hj5b hj5c d_Mo_takesUp_231 ?_
      refine aw_iload (x := x8) d_Mo_takesUp_232 rfl ?_
      refine aw_iconst (v := (1 : Int32)) d_Mo_takesUp_234 (by decide) ?_
      refine aw_isub d_Mo_takesUp_235 ?_
      refine aw_istore d_Mo_takesUp_236 (by decide) ?_
      exact aw_weak (lv' := [some (.ref a0), some (.int x1), some (.int x2), none, some (.int x4), some (.long y5), none, some (.int x7), none, some (.int (x8 - (1 : Int32)))]) ⟨rfl, rfl, rfl, rfl, rfl, rfl, rfl, trivial⟩ w
    · replace w := w.2 cc6
      refine aw_iload (x := x8) d_Mo_takesUp_220 rfl ?_
      refine aw_goto (tgt := 231) d_Mo_takesUp_222 (by decide) ?_
      refine aw_iastore j5 hk4 hj5a hj5b hj5c d_Mo_takesUp_231 ?_
      refine aw_iload (x := x8) d_Mo_takesUp_232 rfl ?_
      refine aw_iconst (v := (1 : Int32)) d_Mo_takesUp_234 (by decide) ?_
      refine aw_isub d_Mo_takesUp_235 ?_
      refine aw_istore d_Mo_takesUp_236 (by decide) ?_
      exact aw_weak (lv' := [some (.ref a0), some (.int x1), some (.int x2), none, some (.int x4), some (.long y5), none, some (.int x7), none, some (.int (x8 - (1 : Int32)))]) ⟨rfl, rfl, rfl, rfl, rfl, rfl, rfl, trivial⟩ w
  · replace w := w.2 cc1
    refine aw_aload_n (x := a0) d_Mo_takesUp_184 rfl ?_
    obtain ⟨hk7, w⟩ := w
    obtain ⟨b8, hb8, w⟩ := w
    refine gs_Mo_46 rfl hk7 hb8 d_Mo_takesUp_185 ?_
    refine aw_bipush (v := (100 : Int32)) d_Mo_takesUp_188 (by decide) ?_
    refine aw_iload_n (x := x1) d_Mo_takesUp_190 rfl ?_
    refine aw_imul d_Mo_takesUp_191 ?_
    refine aw_iload (x := x9) d_Mo_takesUp_192 rfl ?_
    refine aw_iadd d_Mo_takesUp_194 ?_
    refine aw_bipush (v := (32 : Int32)) d_Mo_takesUp_195 (by decide) ?_
    obtain ⟨hk9, w⟩ := w
    obtain ⟨j10, hj10a, hj10b, hj10c, w⟩ := w
    refine aw_iastore j10 hk9 hj10a hj10b hj10c d_Mo_takesUp_197 ?_
    refine aw_iinc (v := (x9 + (1 : Int32))) d_Mo_takesUp_198 rfl (by rfl) (by decide) ?_
    refine aw_goto (tgt := 177) d_Mo_takesUp_201 (by decide) ?_
    exact aw_weak (lv' := [some (.ref a0), some (.int x1), some (.int x2), none, some (.int x4), some (.long y5), none, some (.int x7), some (.int x8), some (.int (x9 + (1 : Int32)))]) ⟨rfl, rfl, rfl, rfl, rfl, rfl, rfl, rfl, trivial⟩ w
set_option maxRecDepth 20000 in
theorem r_Mo_takesUp_238 {E : zE} {K n : Nat → Nat} {I : Nat → Nat → Int32} {F : Nat → Nat → Option Nat} {J : Nat → Nat → Int64} {cb sb : Nat} {Q : zO → zH → Prop} {a0 : Nat} {x1 : Int32} {x2 : Int32} {x4 : Int32} {y5 : Int64} {x7 : Int32} {x9 : Int32}
    (w : ((x9 < x7 → AW E m_Mo_takesUp (K, n, I, F, J) cb sb Q 120 [some (.ref a0), some (.int x1), some (.int x2), none, some (.int (x4 + (1 : Int32))), none, none, none, none, none] []) ∧ (¬ x9 < x7 → K a0 = 9 ∧ (∃ b3 : Nat, F a0 19 = some b3 ∧ K b3 = 21 ∧ (∃ j5 : Nat, (((100 : Int32) * x1) + x9) = nI j5 ∧ j5 < n b3 ∧ j5 < 2147483648 ∧ AW E m_Mo_takesUp (K, n, (zup I b3 j5 ((48 : Int32) + (y5 - y5 / (10 : Int64) * (10 : Int64)).toInt32)), F, J) cb sb Q 238 [some (.ref a0), some (.int x1), some (.int x2), none, some (.int x4), some (.long (y5 / (10 : Int64))), none, some (.int x7), none, some (.int (x9 + ((-1) : Int32)))] []))))) :
    AW E m_Mo_takesUp (K, n, I, F, J) cb sb Q 238 [some (.ref a0), some (.int x1), some (.int x2), none, some (.int x4), some (.long y5), none, some (.int x7), none, some (.int x9)] [] := by
  refine aw_iload (x := x9) d_Mo_takesUp_238 rfl ?_
  refine aw_iload (x := x7) d_Mo_takesUp_240 rfl ?_
  refine aw_icmp_lt (tgt := 281) d_Mo_takesUp_242 (by decide) (fun cc1 => ?_) (fun cc1 => ?_)
  · replace w := w.1 cc1
    refine aw_iinc (v := (x4 + (1 : Int32))) d_Mo_takesUp_281 rfl (by rfl) (by decide) ?_
    refine aw_goto (tgt := 120) d_Mo_takesUp_284 (by decide) ?_
    exact aw_weak (lv' := [some (.ref a0), some (.int x1), some (.int x2), none, some (.int (x4 + (1 : Int32))), none, none, none, none, none]) ⟨rfl, rfl, rfl, rfl, trivial⟩ w
  · replace w := w.2 cc1
    refine aw_aload_n (x := a0) d_Mo_takesUp_245 rfl ?_
    obtain ⟨hk2, w⟩ := w
    obtain ⟨b3, hb3, w⟩ := w
    refine gs_Mo_46 rfl hk2 hb3 d_Mo_takesUp_246 ?_
    refine aw_bipush (v := (100 : Int32)) d_Mo_takesUp_249 (by decide) ?_
    refine aw_iload_n (x := x1) d_Mo_takesUp_251 rfl ?_
    refine aw_imul d_Mo_takesUp_252 ?_
    refine aw_iload (x := x9) d_Mo_takesUp_253 rfl ?_
    refine aw_iadd d_Mo_takesUp_255 ?_
    refine aw_bipush (v := (48 : Int32)) d_Mo_takesUp_256 (by decide) ?_
    refine aw_lload (x := y5) d_Mo_takesUp_258 rfl ?_
    refine aw_ldc2 (v := 10) 1099 tb_1099 d_Mo_takesUp_260 ?_
    refine aw_lrem d_Mo_takesUp_263 (by decide) ?_
    refine aw_l2i (v := (y5 - y5 / (10 : Int64) * (10 : Int64)).toInt32) d_Mo_takesUp_264 rfl ?_
    refine aw_iadd d_Mo_takesUp_265 ?_
    obtain ⟨hk4, w⟩ := w
    obtain ⟨j5, hj5a, hj5b, hj5c, w⟩ := w
    refine aw_iastore j5 hk4 hj5a hj5b hj5c d_Mo_takesUp_266 ?_
    refine aw_lload (x := y5) d_Mo_takesUp_267 rfl ?_
    refine aw_ldc2 (v := 10) 1099 tb_1099 d_Mo_takesUp_269 ?_
    refine aw_ldiv d_Mo_takesUp_272 (by decide) ?_
    refine aw_lstore d_Mo_takesUp_273 (by decide) ?_
    refine aw_iinc (v := (x9 + ((-1) : Int32))) d_Mo_takesUp_275 rfl (by rfl) (by decide) ?_
    refine aw_goto (tgt := 238) d_Mo_takesUp_278 (by decide) ?_
    exact aw_weak (lv' := [some (.ref a0), some (.int x1), some (.int x2), none, some (.int x4), some (.long (y5 / (10 : Int64))), none, some (.int x7), none, some (.int (x9 + ((-1) : Int32)))]) ⟨rfl, rfl, rfl, rfl, rfl, rfl, rfl, trivial⟩ w
set_option maxRecDepth 20000 in
theorem r_Mo_lay_0 {E : zE} {K n : Nat → Nat} {I : Nat → Nat → Int32} {F : Nat → Nat → Option Nat} {J : Nat → Nat → Int64} {cb sb : Nat} {Q : zO → zH → Prop} {a0 : Nat} {x1 : Int32}
    (w : K a0 = 9 ∧ AW E m_Mo_begin (K, n, I, F, J) 0 0 (zAft E m_Mo_lay cb sb Q 2 [some (.ref a0), some (.int x1), none, none, none] []) 0 [some (.ref a0), some (.int (0 : Int32))] []) :
    AW E m_Mo_lay (K, n, I, F, J) cb sb Q 0 [some (.ref a0), some (.int x1), none, none, none] [] := by
  refine aw_aload_n (x := a0) d_Mo_lay_0 rfl ?_
  refine aw_iconst (v := (0 : Int32)) d_Mo_lay_1 (by decide) ?_
  obtain ⟨hk1, w⟩ := w
  exact aw_room (cb' := 0 + cb) (sb' := 0 + sb) (by omega) (by omega) (aw_weak (lv' := [some (.ref a0), some (.int x1), none, none, none]) ⟨rfl, rfl, trivial⟩ (aw_callV (M' := m_Mo_begin) (lv0 := [some (.ref a0), some (.int (0 : Int32))]) (As := [.int (0 : Int32)]) (rest := []) 8 1072 1074 1075 rfl (by decide) rfl hk1 tb_1072 tb_1074 tb_1075 (fun U hU => hU.p 52 rfl) rfl rfl 1 0 rfl rfl ⟨by decide, by decide, by decide +kernel, by decide +kernel, by decide, by decide⟩ (Nat.le_of_ble_eq_true rfl) ⟨rfl, rfl, trivial⟩ rfl d_Mo_lay_2 w))
set_option maxRecDepth 20000 in
theorem r_Mo_lay_5 {E : zE} {K n : Nat → Nat} {I : Nat → Nat → Int32} {F : Nat → Nat → Option Nat} {J : Nat → Nat → Int64} {cb sb : Nat} {Q : zO → zH → Prop} {a0 : Nat} {x1 : Int32}
    (w : AW E m_Mo_lay (K, n, I, F, J) cb sb Q 7 [some (.ref a0), some (.int x1), some (.int (0 : Int32)), none, none] []) :
    AW E m_Mo_lay (K, n, I, F, J) cb sb Q 5 [some (.ref a0), some (.int x1), none, none, none] [] := by
  refine aw_iconst (v := (0 : Int32)) d_Mo_lay_5 (by decide) ?_
  refine aw_istore_n d_Mo_lay_6 (by decide) ?_
  exact aw_weak (lv' := [some (.ref a0), some (.int x1), some (.int (0 : Int32)), none, none]) ⟨rfl, rfl, rfl, trivial⟩ w
set_option maxRecDepth 20000 in
theorem r_Mo_lay_7 {E : zE} {K n : Nat → Nat} {I : Nat → Nat → Int32} {F : Nat → Nat → Option Nat} {J : Nat → Nat → Int64} {cb sb : Nat} {Q : zO → zH → Prop} {a0 : Nat} {x1 : Int32} {x2 : Int32}
    (w : K a0 = 9 ∧ (∃ b2 : Nat, F a0 20 = some b2 ∧ K b2 = 21 ∧ (∃ j4 : Nat, x1 = nI j4 ∧ j4 < n b2 ∧ j4 < 2147483648 ∧ (((I b2 j4) ≤ x2 → AW E m_Mo_lay (K, n, I, F, J) cb sb Q 50 [some (.ref a0), some (.int x1), some (.int (0 : Int32)), none, none] []) ∧ (¬ (I b2 j4) ≤ x2 → (∃ b6 : Nat, F a0 4 = some b6 ∧ K b6 = 21 ∧ (∃ j8 : Nat, (4 : Int32) = nI j8 ∧ j8 < n b6 ∧ j8 < 2147483648 ∧ ((¬ (I b6 j8) = 0 → AW E m_Mo_lay (K, n, I, F, J) cb sb Q 50 [some (.ref a0), some (.int x1), some (.int (0 : Int32)), none, none] []) ∧ ((I b6 j8) = 0 → (∃ b10 : Nat, F a0 19 = some b10 ∧ K b10 = 21 ∧ (∃ j12 : Nat, (((100 : Int32) * x1) + x2) = nI j12 ∧ j12 < n b10 ∧ j12 < 2147483648 ∧ AW E m_Mo_put (K, n, I, F, J) 0 0 (zAft E m_Mo_lay cb sb Q 39 [some (.ref a0), some (.int x1), some (.int x2), none, none] []) 0 [some (.ref a0), some (.int (0 : Int32)), some (.int (I b10 j12)), none, none] []))))))))))) :
    AW E m_Mo_lay (K, n, I, F, J) cb sb Q 7 [some (.ref a0), some (.int x1), some (.int x2), none, none] [] := by
  refine aw_iload_n (x := x2) d_Mo_lay_7 rfl ?_
  refine aw_aload_n (x := a0) d_Mo_lay_8 rfl ?_
  obtain ⟨hk1, w⟩ := w
  obtain ⟨b2, hb2, w⟩ := w
  refine gs_Mo_49 rfl hk1 hb2 d_Mo_lay_9 ?_
  refine aw_iload_n (x := x1) d_Mo_lay_12 rfl ?_
  obtain ⟨hk3, w⟩ := w
  obtain ⟨j4, hj4a, hj4b, hj4c, w⟩ := w
  refine aw_iaload j4 hk3 hj4a hj4b hj4c d_Mo_lay_13 ?_
  refine aw_icmp_ge (tgt := 48) d_Mo_lay_14 (by decide) (fun cc5 => ?_) (fun cc5 => ?_)
  · replace w := w.1 cc5
    refine aw_iconst (v := (0 : Int32)) d_Mo_lay_48 (by decide) ?_
    refine aw_istore_n d_Mo_lay_49 (by decide) ?_
    exact aw_weak (lv' := [some (.ref a0), some (.int x1), some (.int (0 : Int32)), none, none]) ⟨rfl, rfl, rfl, trivial⟩ w
  · replace w := w.2 cc5
    refine aw_aload_n (x := a0) d_Mo_lay_17 rfl ?_
    obtain ⟨b6, hb6, w⟩ := w
    refine gs_Mo_13 rfl hk1 hb6 d_Mo_lay_18 ?_
    refine aw_iconst (v := (4 : Int32)) d_Mo_lay_21 (by decide) ?_
    obtain ⟨hk7, w⟩ := w
    obtain ⟨j8, hj8a, hj8b, hj8c, w⟩ := w
    refine aw_iaload j8 hk7 hj8a hj8b hj8c d_Mo_lay_22 ?_
    refine aw_if_ne (tgt := 48) d_Mo_lay_23 (by decide) (fun cc9 => ?_) (fun cc9 => ?_)
    · replace w := w.1 cc9
      refine aw_iconst (v := (0 : Int32)) d_Mo_lay_48 (by decide) ?_
      refine aw_istore_n d_Mo_lay_49 (by decide) ?_
      exact aw_weak (lv' := [some (.ref a0), some (.int x1), some (.int (0 : Int32)), none, none]) ⟨rfl, rfl, rfl, trivial⟩ w
    · replace w := w.2 cc9
      refine aw_aload_n (x := a0) d_Mo_lay_26 rfl ?_
      refine aw_iconst (v := (0 : Int32)) d_Mo_lay_27 (by decide) ?_
      refine aw_aload_n (x := a0) d_Mo_lay_28 rfl ?_
      obtain ⟨b10, hb10, w⟩ := w
      refine gs_Mo_46 rfl hk1 hb10 d_Mo_lay_29 ?_
      refine aw_bipush (v := (100 : Int32)) d_Mo_lay_32 (by decide) ?_
      refine aw_iload_n (x := x1) d_Mo_lay_34 rfl ?_
      refine aw_imul d_Mo_lay_35 ?_
      refine aw_iload_n (x := x2) d_Mo_lay_36 rfl ?_
      refine aw_iadd d_Mo_lay_37 ?_
      obtain ⟨hk11, w⟩ := w
      obtain ⟨j12, hj12a, hj12b, hj12c, w⟩ := w
      refine aw_iaload j12 hk11 hj12a hj12b hj12c d_Mo_lay_38 ?_
      exact aw_room (cb' := 0 + cb) (sb' := 0 + sb) (by omega) (by omega) (aw_weak (lv' := [some (.ref a0), some (.int x1), some (.int x2), none, none]) ⟨rfl, rfl, rfl, trivial⟩ (aw_callV (M' := m_Mo_put) (lv0 := [some (.ref a0), some (.int (0 : Int32)), some (.int (I b10 j12)), none, none]) (As := [.int (0 : Int32), .int (I b10 j12)]) (rest := []) 8 1076 1078 1079 rfl (by decide) rfl hk1 tb_1076 tb_1078 tb_1079 (fun U hU => hU.p 53 rfl) rfl rfl 2 0 rfl rfl ⟨by decide, by decide, by decide +kernel, by decide +kernel, by decide, by decide⟩ (Nat.le_of_ble_eq_true rfl) ⟨rfl, rfl, rfl, trivial⟩ rfl d_Mo_lay_39 w))
set_option maxRecDepth 20000 in
theorem r_Mo_lay_42 {E : zE} {K n : Nat → Nat} {I : Nat → Nat → Int32} {F : Nat → Nat → Option Nat} {J : Nat → Nat → Int64} {cb sb : Nat} {Q : zO → zH → Prop} {a0 : Nat} {x1 : Int32} {x2 : Int32}
    (w : AW E m_Mo_lay (K, n, I, F, J) cb sb Q 7 [some (.ref a0), some (.int x1), some (.int (x2 + (1 : Int32))), none, none] []) :
    AW E m_Mo_lay (K, n, I, F, J) cb sb Q 42 [some (.ref a0), some (.int x1), some (.int x2), none, none] [] := by
  refine aw_iinc (v := (x2 + (1 : Int32))) d_Mo_lay_42 rfl (by rfl) (by decide) ?_
  refine aw_goto (tgt := 7) d_Mo_lay_45 (by decide) ?_
  exact aw_weak (lv' := [some (.ref a0), some (.int x1), some (.int (x2 + (1 : Int32))), none, none]) ⟨rfl, rfl, rfl, trivial⟩ w
set_option maxRecDepth 20000 in
theorem r_Mo_lay_50 {E : zE} {K n : Nat → Nat} {I : Nat → Nat → Int32} {F : Nat → Nat → Option Nat} {J : Nat → Nat → Int64} {cb sb : Nat} {Q : zO → zH → Prop} {a0 : Nat} {x1 : Int32} {x2 : Int32}
    (w : K a0 = 9 ∧ (∃ b2 : Nat, F a0 5 = some b2 ∧ K b2 = 21 ∧ (∃ j4 : Nat, (4 : Int32) = nI j4 ∧ j4 < n b2 ∧ j4 < 2147483648 ∧ (((I b2 j4) ≤ x2 → (∃ b6 : Nat, F a0 27 = some b6 ∧ (∃ b7 : Nat, F a0 26 = some b7 ∧ K b7 = 21 ∧ (∃ j9 : Nat, (0 : Int32) = nI j9 ∧ j9 < n b7 ∧ j9 < 2147483648 ∧ (∃ b10 : Nat, F a0 21 = some b10 ∧ K b10 = 21 ∧ (∃ j12 : Nat, x1 = nI j12 ∧ j12 < n b10 ∧ j12 < 2147483648 ∧ K b6 = 21 ∧ (∃ j14 : Nat, (I b7 j9) = nI j14 ∧ j14 < n b6 ∧ j14 < 2147483648 ∧ (∃ b15 : Nat, F a0 28 = some b15 ∧ (∃ b16 : Nat, F a0 22 = some b16 ∧ K b16 = 21 ∧ (∃ j18 : Nat, x1 = nI j18 ∧ j18 < n b16 ∧ j18 < 2147483648 ∧ K b15 = 21 ∧ (∃ j20 : Nat, ((zup I b6 j14 (I b10 j12)) b7 j9) = nI j20 ∧ j20 < n b15 ∧ j20 < 2147483648 ∧ Q (.inl none) (K, n, (zup (zup (zup I b6 j14 (I b10 j12)) b15 j20 ((zup I b6 j14 (I b10 j12)) b16 j18)) b7 j9 (((zup (zup I b6 j14 (I b10 j12)) b15 j20 ((zup I b6 j14 (I b10 j12)) b16 j18)) b7 j9) + (1 : Int32))), F, J)))))))))))) ∧ (¬ (I b2 j4) ≤ x2 → AW E m_Mo_lay (K, n, I, F, J) cb sb Q 62 [some (.ref a0), some (.int x1), some (.int x2), some (.int (0 : Int32)), none] []))))) :
    AW E m_Mo_lay (K, n, I, F, J) cb sb Q 50 [some (.ref a0), some (.int x1), some (.int x2), none, none] [] := by
  refine aw_iload_n (x := x2) d_Mo_lay_50 rfl ?_
  refine aw_aload_n (x := a0) d_Mo_lay_51 rfl ?_
  obtain ⟨hk1, w⟩ := w
  obtain ⟨b2, hb2, w⟩ := w
  refine gs_Mo_16 rfl hk1 hb2 d_Mo_lay_52 ?_
  refine aw_iconst (v := (4 : Int32)) d_Mo_lay_55 (by decide) ?_
  obtain ⟨hk3, w⟩ := w
  obtain ⟨j4, hj4a, hj4b, hj4c, w⟩ := w
  refine aw_iaload j4 hk3 hj4a hj4b hj4c d_Mo_lay_56 ?_
  refine aw_icmp_ge (tgt := 154) d_Mo_lay_57 (by decide) (fun cc5 => ?_) (fun cc5 => ?_)
  · replace w := w.1 cc5
    refine aw_aload_n (x := a0) d_Mo_lay_154 rfl ?_
    obtain ⟨b6, hb6, w⟩ := w
    refine gs_Mo_71 rfl hk1 hb6 d_Mo_lay_155 ?_
    refine aw_aload_n (x := a0) d_Mo_lay_158 rfl ?_
    obtain ⟨b7, hb7, w⟩ := w
    refine gs_Mo_68 rfl hk1 hb7 d_Mo_lay_159 ?_
    refine aw_iconst (v := (0 : Int32)) d_Mo_lay_162 (by decide) ?_
    obtain ⟨hk8, w⟩ := w
    obtain ⟨j9, hj9a, hj9b, hj9c, w⟩ := w
    refine aw_iaload j9 hk8 hj9a hj9b hj9c d_Mo_lay_163 ?_
    refine aw_aload_n (x := a0) d_Mo_lay_164 rfl ?_
    obtain ⟨b10, hb10, w⟩ := w
    refine gs_Mo_52 rfl hk1 hb10 d_Mo_lay_165 ?_
    refine aw_iload_n (x := x1) d_Mo_lay_168 rfl ?_
    obtain ⟨hk11, w⟩ := w
    obtain ⟨j12, hj12a, hj12b, hj12c, w⟩ := w
    refine aw_iaload j12 hk11 hj12a hj12b hj12c d_Mo_lay_169 ?_
    obtain ⟨hk13, w⟩ := w
    obtain ⟨j14, hj14a, hj14b, hj14c, w⟩ := w
    refine aw_iastore j14 hk13 hj14a hj14b hj14c d_Mo_lay_170 ?_
    refine aw_aload_n (x := a0) d_Mo_lay_171 rfl ?_
    obtain ⟨b15, hb15, w⟩ := w
    refine gs_Mo_74 rfl hk1 hb15 d_Mo_lay_172 ?_
    refine aw_aload_n (x := a0) d_Mo_lay_175 rfl ?_
    refine gs_Mo_68 rfl hk1 hb7 d_Mo_lay_176 ?_
    refine aw_iconst (v := (0 : Int32)) d_Mo_lay_179 (by decide) ?_
    refine aw_iaload j9 hk8 hj9a hj9b hj9c d_Mo_lay_180 ?_
    refine aw_aload_n (x := a0) d_Mo_lay_181 rfl ?_
    obtain ⟨b16, hb16, w⟩ := w
    refine gs_Mo_55 rfl hk1 hb16 d_Mo_lay_182 ?_
    refine aw_iload_n (x := x1) d_Mo_lay_185 rfl ?_
    obtain ⟨hk17, w⟩ := w
    obtain ⟨j18, hj18a, hj18b, hj18c, w⟩ := w
    refine aw_iaload j18 hk17 hj18a hj18b hj18c d_Mo_lay_186 ?_
    obtain ⟨hk19, w⟩ := w
    obtain ⟨j20, hj20a, hj20b, hj20c, w⟩ := w
    refine aw_iastore j20 hk19 hj20a hj20b hj20c d_Mo_lay_187 ?_
    refine aw_aload_n (x := a0) d_Mo_lay_188 rfl ?_
    refine gs_Mo_68 rfl hk1 hb7 d_Mo_lay_189 ?_
    refine aw_iconst (v := (0 : Int32)) d_Mo_lay_192 (by decide) ?_
    refine aw_dup2 d_Mo_lay_193 rfl rfl ?_
    refine aw_iaload j9 hk8 hj9a hj9b hj9c d_Mo_lay_194 ?_
    refine aw_iconst (v := (1 : Int32)) d_Mo_lay_195 (by decide) ?_
    refine aw_iadd d_Mo_lay_196 ?_
    refine aw_iastore j9 hk8 hj9a hj9b hj9c d_Mo_lay_197 ?_
    exact aw_return rfl d_Mo_lay_198 w
  · replace w := w.2 cc5
    refine aw_iconst (v := (0 : Int32)) d_Mo_lay_60 (by decide) ?_
    refine aw_istore_n d_Mo_lay_61 (by decide) ?_
    exact aw_weak (lv' := [some (.ref a0), some (.int x1), some (.int x2), some (.int (0 : Int32)), none]) ⟨rfl, rfl, rfl, rfl, trivial⟩ w
set_option maxRecDepth 20000 in
theorem r_Mo_lay_62 {E : zE} {K n : Nat → Nat} {I : Nat → Nat → Int32} {F : Nat → Nat → Option Nat} {J : Nat → Nat → Int64} {cb sb : Nat} {Q : zO → zH → Prop} {a0 : Nat} {x1 : Int32} {x2 : Int32} {x3 : Int32}
    (w : K a0 = 9 ∧ (∃ b2 : Nat, F a0 10 = some b2 ∧ K b2 = 21 ∧ (∃ j4 : Nat, (((2 : Int32) * x2) + (1 : Int32)) = nI j4 ∧ j4 < n b2 ∧ j4 < 2147483648 ∧ (((I b2 j4) ≤ x3 → AW E m_Mo_lay (K, n, I, F, J) cb sb Q 50 [some (.ref a0), some (.int x1), some (.int (x2 + (1 : Int32))), none, none] []) ∧ (¬ (I b2 j4) ≤ x3 → (∃ j6 : Nat, ((2 : Int32) * x2) = nI j6 ∧ j6 < n b2 ∧ j6 < 2147483648 ∧ ((¬ (I b2 j6) = ((-1) : Int32) → ((¬ (I b2 j6) = 0 → (∃ b9 : Nat, F a0 19 = some b9 ∧ (∃ b10 : Nat, F a0 20 = some b10 ∧ AW E m_Mo_byteOf (K, n, I, F, J) 0 0 (zAft E m_Mo_lay cb sb Q 136 [some (.ref a0), some (.int x1), some (.int x2), some (.int x3), none] [.int (0 : Int32), .ref a0]) 0 [some (.ref b9), some (.ref b10), some (.int x1), some (.int (((I b2 j6) - (1 : Int32)) + x3))] []))) ∧ ((I b2 j6) = 0 → (∃ b11 : Nat, F a0 11 = some b11 ∧ K b11 = 21 ∧ (∃ j13 : Nat, (((20 : Int32) * ((10 : Int32) + x2)) + x3) = nI j13 ∧ j13 < n b11 ∧ j13 < 2147483648 ∧ AW E m_Mo_lay (K, n, I, F, J) cb sb Q 139 [some (.ref a0), some (.int x1), some (.int x2), some (.int x3), none] [.int (I b11 j13), .int (0 : Int32), .ref a0]))))) ∧ ((I b2 j6) = ((-1) : Int32) → AW E m_Mo_lay (K, n, I, F, J) cb sb Q 139 [some (.ref a0), some (.int x1), some (.int x2), some (.int x3), none] [.int (32 : Int32), .int (0 : Int32), .ref a0])))))))) :
    AW E m_Mo_lay (K, n, I, F, J) cb sb Q 62 [some (.ref a0), some (.int x1), some (.int x2), some (.int x3), none] [] := by
  refine aw_iload_n (x := x3) d_Mo_lay_62 rfl ?_
  refine aw_aload_n (x := a0) d_Mo_lay_63 rfl ?_
  obtain ⟨hk1, w⟩ := w
  obtain ⟨b2, hb2, w⟩ := w
  refine gs_Mo_31 rfl hk1 hb2 d_Mo_lay_64 ?_
  refine aw_iconst (v := (2 : Int32)) d_Mo_lay_67 (by decide) ?_
  refine aw_iload_n (x := x2) d_Mo_lay_68 rfl ?_
  refine aw_imul d_Mo_lay_69 ?_
  refine aw_iconst (v := (1 : Int32)) d_Mo_lay_70 (by decide) ?_
  refine aw_iadd d_Mo_lay_71 ?_
  obtain ⟨hk3, w⟩ := w
  obtain ⟨j4, hj4a, hj4b, hj4c, w⟩ := w
  refine aw_iaload j4 hk3 hj4a hj4b hj4c d_Mo_lay_72 ?_
  refine aw_icmp_ge (tgt := 148) d_Mo_lay_73 (by decide) (fun cc5 => ?_) (fun cc5 => ?_)
  · replace w := w.1 cc5
    refine aw_iinc (v := (x2 + (1 : Int32))) d_Mo_lay_148 rfl (by rfl) (by decide) ?_
    refine aw_goto (tgt := 50) d_Mo_lay_151 (by decide) ?_
    exact aw_weak (lv' := [some (.ref a0), some (.int x1), some (.int (x2 + (1 : Int32))), none, none]) ⟨rfl, rfl, rfl, trivial⟩ w
  · replace w := w.2 cc5
    refine aw_aload_n (x := a0) d_Mo_lay_76 rfl ?_
    refine gs_Mo_31 rfl hk1 hb2 d_Mo_lay_77 ?_
    refine aw_iconst (v := (2 : Int32)) d_Mo_lay_80 (by decide) ?_
    refine aw_iload_n (x := x2) d_Mo_lay_81 rfl ?_
    refine aw_imul d_Mo_lay_82 ?_
    obtain ⟨j6, hj6a, hj6b, hj6c, w⟩ := w
    refine aw_iaload j6 hk3 hj6a hj6b hj6c d_Mo_lay_83 ?_
    refine aw_istore d_Mo_lay_84 (by decide) ?_
    refine aw_aload_n (x := a0) d_Mo_lay_86 rfl ?_
    refine aw_iconst (v := (0 : Int32)) d_Mo_lay_87 (by decide) ?_
    refine aw_iload (x := (I b2 j6)) d_Mo_lay_88 rfl ?_
    refine aw_iconst (v := ((-1) : Int32)) d_Mo_lay_90 (by decide) ?_
    refine aw_icmp_ne (tgt := 99) d_Mo_lay_91 (by decide) (fun cc7 => ?_) (fun cc7 => ?_)
    · replace w := w.1 cc7
      refine aw_iload (x := (I b2 j6)) d_Mo_lay_99 rfl ?_
      refine aw_if_ne (tgt := 121) d_Mo_lay_101 (by decide) (fun cc8 => ?_) (fun cc8 => ?_)
      · replace w := w.1 cc8
        refine aw_aload_n (x := a0) d_Mo_lay_121 rfl ?_
        obtain ⟨b9, hb9, w⟩ := w
        refine gs_Mo_46 rfl hk1 hb9 d_Mo_lay_122 ?_
        refine aw_aload_n (x := a0) d_Mo_lay_125 rfl ?_
        obtain ⟨b10, hb10, w⟩ := w
        refine gs_Mo_49 rfl hk1 hb10 d_Mo_lay_126 ?_
        refine aw_iload_n (x := x1) d_Mo_lay_129 rfl ?_
        refine aw_iload (x := (I b2 j6)) d_Mo_lay_130 rfl ?_
        refine aw_iconst (v := (1 : Int32)) d_Mo_lay_132 (by decide) ?_
        refine aw_isub d_Mo_lay_133 ?_
        refine aw_iload_n (x := x3) d_Mo_lay_134 rfl ?_
        refine aw_iadd d_Mo_lay_135 ?_
        exact aw_room (cb' := 0 + cb) (sb' := 0 + sb) (by omega) (by omega) (aw_weak (lv' := [some (.ref a0), some (.int x1), some (.int x2), some (.int x3), none]) ⟨rfl, rfl, rfl, rfl, trivial⟩ (aw_callS (M' := m_Mo_byteOf) (lv0 := [some (.ref b9), some (.ref b10), some (.int x1), some (.int (((I b2 j6) - (1 : Int32)) + x3))]) (As := [.ref b9, .ref b10, .int x1, .int (((I b2 j6) - (1 : Int32)) + x3)]) (rest := [.int (0 : Int32), .ref a0]) 1069 1070 1071 8 tb_1069 tb_1070 tb_1071 tb_8 rfl rfl 4 2 rfl rfl ⟨by decide, by decide, by decide +kernel, by decide +kernel, by decide, by decide⟩ (Nat.le_of_ble_eq_true rfl) ⟨rfl, rfl, rfl, rfl, trivial⟩ rfl d_Mo_lay_136 w))
      · replace w := w.2 cc8
        refine aw_aload_n (x := a0) d_Mo_lay_104 rfl ?_
        obtain ⟨b11, hb11, w⟩ := w
        refine gs_Mo_34 rfl hk1 hb11 d_Mo_lay_105 ?_
        refine aw_bipush (v := (20 : Int32)) d_Mo_lay_108 (by decide) ?_
        refine aw_bipush (v := (10 : Int32)) d_Mo_lay_110 (by decide) ?_
        refine aw_iload_n (x := x2) d_Mo_lay_112 rfl ?_
        refine aw_iadd d_Mo_lay_113 ?_
        refine aw_imul d_Mo_lay_114 ?_
        refine aw_iload_n (x := x3) d_Mo_lay_115 rfl ?_
        refine aw_iadd d_Mo_lay_116 ?_
        obtain ⟨hk12, w⟩ := w
        obtain ⟨j13, hj13a, hj13b, hj13c, w⟩ := w
        refine aw_iaload j13 hk12 hj13a hj13b hj13c d_Mo_lay_117 ?_
        refine aw_goto (tgt := 139) d_Mo_lay_118 (by decide) ?_
        exact aw_weak (lv' := [some (.ref a0), some (.int x1), some (.int x2), some (.int x3), none]) ⟨rfl, rfl, rfl, rfl, trivial⟩ w
    · replace w := w.2 cc7
      refine aw_bipush (v := (32 : Int32)) d_Mo_lay_94 (by decide) ?_
      refine aw_goto (tgt := 139) d_Mo_lay_96 (by decide) ?_
      exact aw_weak (lv' := [some (.ref a0), some (.int x1), some (.int x2), some (.int x3), none]) ⟨rfl, rfl, rfl, rfl, trivial⟩ w
set_option maxRecDepth 20000 in
theorem r_Mo_lay_139 {E : zE} {K n : Nat → Nat} {I : Nat → Nat → Int32} {F : Nat → Nat → Option Nat} {J : Nat → Nat → Int64} {cb sb : Nat} {Q : zO → zH → Prop} {a0 : Nat} {x1 : Int32} {x2 : Int32} {x3 : Int32} {sa0 : Nat} {sx1 : Int32} {sx2 : Int32}
    (w : K sa0 = 9 ∧ AW E m_Mo_put (K, n, I, F, J) 0 0 (zAft E m_Mo_lay cb sb Q 139 [some (.ref a0), some (.int x1), some (.int x2), some (.int x3), none] []) 0 [some (.ref sa0), some (.int sx1), some (.int sx2), none, none] []) :
    AW E m_Mo_lay (K, n, I, F, J) cb sb Q 139 [some (.ref a0), some (.int x1), some (.int x2), some (.int x3), none] [.int sx2, .int sx1, .ref sa0] := by
  obtain ⟨hk1, w⟩ := w
  exact aw_room (cb' := 0 + cb) (sb' := 0 + sb) (by omega) (by omega) (aw_weak (lv' := [some (.ref a0), some (.int x1), some (.int x2), some (.int x3), none]) ⟨rfl, rfl, rfl, rfl, trivial⟩ (aw_callV (M' := m_Mo_put) (lv0 := [some (.ref sa0), some (.int sx1), some (.int sx2), none, none]) (As := [.int sx1, .int sx2]) (rest := []) 8 1076 1078 1079 rfl (by decide) rfl hk1 tb_1076 tb_1078 tb_1079 (fun U hU => hU.p 53 rfl) rfl rfl 2 0 rfl rfl ⟨by decide, by decide, by decide +kernel, by decide +kernel, by decide, by decide⟩ (Nat.le_of_ble_eq_true rfl) ⟨rfl, rfl, rfl, trivial⟩ rfl d_Mo_lay_139 w))
set_option maxRecDepth 20000 in
theorem r_Mo_lay_142 {E : zE} {K n : Nat → Nat} {I : Nat → Nat → Int32} {F : Nat → Nat → Option Nat} {J : Nat → Nat → Int64} {cb sb : Nat} {Q : zO → zH → Prop} {a0 : Nat} {x1 : Int32} {x2 : Int32} {x3 : Int32}
    (w : AW E m_Mo_lay (K, n, I, F, J) cb sb Q 62 [some (.ref a0), some (.int x1), some (.int x2), some (.int (x3 + (1 : Int32))), none] []) :
    AW E m_Mo_lay (K, n, I, F, J) cb sb Q 142 [some (.ref a0), some (.int x1), some (.int x2), some (.int x3), none] [] := by
  refine aw_iinc (v := (x3 + (1 : Int32))) d_Mo_lay_142 rfl (by rfl) (by decide) ?_
  refine aw_goto (tgt := 62) d_Mo_lay_145 (by decide) ?_
  exact aw_weak (lv' := [some (.ref a0), some (.int x1), some (.int x2), some (.int (x3 + (1 : Int32))), none]) ⟨rfl, rfl, rfl, rfl, trivial⟩ w
