set_option maxRecDepth 20000 in
theorem r_Mo_test_0 {E : zE} {K n : Nat → Nat} {I : Nat → Nat → Int32} {F : Nat → Nat → Option Nat} {J : Nat → Nat → Int64} {cb sb : Nat} {Q : zO → zH → Prop} {a0 : Nat} {x1 : Int32}
    (w : K a0 = 9 ∧ AW E m_Mo_sign (K, n, I, F, J) 0 0 (zAft E m_Mo_test cb sb Q 1 [some (.ref a0), some (.int x1), none, none, none] []) 0 [some (.ref a0)] []) :
    AW E m_Mo_test (K, n, I, F, J) cb sb Q 0 [some (.ref a0), some (.int x1), none, none, none] [] := by
  refine aw_aload_n (x := a0) d_Mo_test_0 rfl ?_
  obtain ⟨hk1, w⟩ := w
  exact aw_room (cb' := 0 + cb) (sb' := 0 + sb) (by omega) (by omega) (aw_weak (lv' := [some (.ref a0), some (.int x1), none, none, none]) ⟨rfl, rfl, trivial⟩ (aw_callV (M' := m_Mo_sign) (lv0 := [some (.ref a0)]) (As := []) (rest := []) 8 977 979 980 rfl (by decide) rfl hk1 tb_977 tb_979 tb_980 (fun U hU => hU.p 33 rfl) rfl rfl 0 0 rfl rfl ⟨by decide, by decide, by decide +kernel, by decide +kernel, by decide, by decide⟩ (Nat.le_of_ble_eq_true rfl) ⟨rfl, trivial⟩ rfl d_Mo_test_1 w))
set_option maxRecDepth 20000 in
theorem r_Mo_test_4 {E : zE} {K n : Nat → Nat} {I : Nat → Nat → Int32} {F : Nat → Nat → Option Nat} {J : Nat → Nat → Int64} {cb sb : Nat} {Q : zO → zH → Prop} {a0 : Nat} {x1 : Int32} {sx0 : Int32}
    (w : K a0 = 9 ∧ (∃ b2 : Nat, F a0 5 = some b2 ∧ K b2 = 21 ∧ (∃ j4 : Nat, (2 : Int32) = nI j4 ∧ j4 < n b2 ∧ j4 < 2147483648 ∧ ((¬ (I b2 j4) = (10 : Int32) → (∃ b6 : Nat, F a0 8 = some b6 ∧ K b6 = 21 ∧ (∃ j8 : Nat, ((6 : Int32) * (I b2 j4)) = nI j8 ∧ j8 < n b6 ∧ j8 < 2147483648 ∧ AW E m_Mo_field (K, n, (zup I b6 j8 x1), F, J) 0 0 (zAft E m_Mo_test cb sb Q 45 [some (.ref a0), none, some (.int ((6 : Int32) * (I b2 j4))), none, none] []) 0 [some (.ref a0), some (.ref b6), some (.int (((6 : Int32) * (I b2 j4)) + (1 : Int32))), some (.int (40 : Int32)), none, none] []))) ∧ ((I b2 j4) = (10 : Int32) → Q (.inl (some (.int (0 : Int32)))) (K, n, I, F, J)))))) :
    AW E m_Mo_test (K, n, I, F, J) cb sb Q 4 [some (.ref a0), some (.int x1), none, none, none] [.int sx0] := by
  refine aw_pop d_Mo_test_4 rfl ?_
  refine aw_aload_n (x := a0) d_Mo_test_5 rfl ?_
  obtain ⟨hk1, w⟩ := w
  obtain ⟨b2, hb2, w⟩ := w
  refine gs_Mo_16 rfl hk1 hb2 d_Mo_test_6 ?_
  refine aw_iconst (v := (2 : Int32)) d_Mo_test_9 (by decide) ?_
  obtain ⟨hk3, w⟩ := w
  obtain ⟨j4, hj4a, hj4b, hj4c, w⟩ := w
  refine aw_iaload j4 hk3 hj4a hj4b hj4c d_Mo_test_10 ?_
  refine aw_bipush (v := (10 : Int32)) d_Mo_test_11 (by decide) ?_
  refine aw_icmp_ne (tgt := 18) d_Mo_test_13 (by decide) (fun cc5 => ?_) (fun cc5 => ?_)
  · replace w := w.1 cc5
    refine aw_bipush (v := (6 : Int32)) d_Mo_test_18 (by decide) ?_
    refine aw_aload_n (x := a0) d_Mo_test_20 rfl ?_
    refine gs_Mo_16 rfl hk1 hb2 d_Mo_test_21 ?_
    refine aw_iconst (v := (2 : Int32)) d_Mo_test_24 (by decide) ?_
    refine aw_iaload j4 hk3 hj4a hj4b hj4c d_Mo_test_25 ?_
    refine aw_imul d_Mo_test_26 ?_
    refine aw_istore_n d_Mo_test_27 (by decide) ?_
    refine aw_aload_n (x := a0) d_Mo_test_28 rfl ?_
    obtain ⟨b6, hb6, w⟩ := w
    refine gs_Mo_25 rfl hk1 hb6 d_Mo_test_29 ?_
    refine aw_iload_n (x := ((6 : Int32) * (I b2 j4))) d_Mo_test_32 rfl ?_
    refine aw_iload_n (x := x1) d_Mo_test_33 rfl ?_
    obtain ⟨hk7, w⟩ := w
    obtain ⟨j8, hj8a, hj8b, hj8c, w⟩ := w
    refine aw_iastore j8 hk7 hj8a hj8b hj8c d_Mo_test_34 ?_
    refine aw_aload_n (x := a0) d_Mo_test_35 rfl ?_
    refine aw_aload_n (x := a0) d_Mo_test_36 rfl ?_
    refine gs_Mo_25 rfl hk1 hb6 d_Mo_test_37 ?_
    refine aw_iload_n (x := ((6 : Int32) * (I b2 j4))) d_Mo_test_40 rfl ?_
    refine aw_iconst (v := (1 : Int32)) d_Mo_test_41 (by decide) ?_
    refine aw_iadd d_Mo_test_42 ?_
    refine aw_bipush (v := (40 : Int32)) d_Mo_test_43 (by decide) ?_
    exact aw_room (cb' := 0 + cb) (sb' := 0 + sb) (by omega) (by omega) (aw_weak (lv' := [some (.ref a0), none, some (.int ((6 : Int32) * (I b2 j4))), none, none]) ⟨rfl, rfl, trivial⟩ (aw_callV (M' := m_Mo_field) (lv0 := [some (.ref a0), some (.ref b6), some (.int (((6 : Int32) * (I b2 j4)) + (1 : Int32))), some (.int (40 : Int32)), none, none]) (As := [.ref b6, .int (((6 : Int32) * (I b2 j4)) + (1 : Int32)), .int (40 : Int32)]) (rest := []) 8 1009 1011 1012 rfl (by decide) rfl hk1 tb_1009 tb_1011 tb_1012 (fun U hU => hU.p 40 rfl) rfl rfl 3 0 rfl rfl ⟨by decide, by decide, by decide +kernel, by decide +kernel, by decide, by decide⟩ (Nat.le_of_ble_eq_true rfl) ⟨rfl, rfl, rfl, rfl, trivial⟩ rfl d_Mo_test_45 w))
  · replace w := w.2 cc5
    refine aw_iconst (v := (0 : Int32)) d_Mo_test_16 (by decide) ?_
    exact aw_ireturn .boolean rfl rfl d_Mo_test_17 w
set_option maxRecDepth 20000 in
theorem r_Mo_test_48 {E : zE} {K n : Nat → Nat} {I : Nat → Nat → Int32} {F : Nat → Nat → Option Nat} {J : Nat → Nat → Int64} {cb sb : Nat} {Q : zO → zH → Prop} {a0 : Nat} {x2 : Int32} {sx0 : Int32}
    (w : ((¬ sx0 = 0 → K a0 = 9 ∧ AW E m_Mo_sign (K, n, I, F, J) 0 0 (zAft E m_Mo_test cb sb Q 54 [some (.ref a0), none, some (.int x2), none, none] []) 0 [some (.ref a0)] []) ∧ (sx0 = 0 → Q (.inl (some (.int (0 : Int32)))) (K, n, I, F, J)))) :
    AW E m_Mo_test (K, n, I, F, J) cb sb Q 48 [some (.ref a0), none, some (.int x2), none, none] [.int sx0] := by
  refine aw_if_ne (tgt := 53) d_Mo_test_48 (by decide) (fun cc1 => ?_) (fun cc1 => ?_)
  · replace w := w.1 cc1
    refine aw_aload_n (x := a0) d_Mo_test_53 rfl ?_
    obtain ⟨hk2, w⟩ := w
    exact aw_room (cb' := 0 + cb) (sb' := 0 + sb) (by omega) (by omega) (aw_weak (lv' := [some (.ref a0), none, some (.int x2), none, none]) ⟨rfl, rfl, trivial⟩ (aw_callV (M' := m_Mo_sign) (lv0 := [some (.ref a0)]) (As := []) (rest := []) 8 977 979 980 rfl (by decide) rfl hk2 tb_977 tb_979 tb_980 (fun U hU => hU.p 33 rfl) rfl rfl 0 0 rfl rfl ⟨by decide, by decide, by decide +kernel, by decide +kernel, by decide, by decide⟩ (Nat.le_of_ble_eq_true rfl) ⟨rfl, trivial⟩ rfl d_Mo_test_54 w))
  · replace w := w.2 cc1
    refine aw_iconst (v := (0 : Int32)) d_Mo_test_51 (by decide) ?_
    exact aw_ireturn .boolean rfl rfl d_Mo_test_52 w
set_option maxRecDepth 20000 in
theorem r_Mo_test_57 {E : zE} {K n : Nat → Nat} {I : Nat → Nat → Int32} {F : Nat → Nat → Option Nat} {J : Nat → Nat → Int64} {cb sb : Nat} {Q : zO → zH → Prop} {a0 : Nat} {x2 : Int32} {sx0 : Int32}
    (w : ((sx0 = (61 : Int32) → K a0 = 9 ∧ (∃ b3 : Nat, F a0 8 = some b3 ∧ K b3 = 21 ∧ (∃ j5 : Nat, (x2 + (3 : Int32)) = nI j5 ∧ j5 < n b3 ∧ j5 < 2147483648 ∧ AW E m_Mo_sign (K, n, (zup (zup I a0 3 ((I a0 3) + (1 : Int32))) b3 j5 sx0), F, J) 0 0 (zAft E m_Mo_test cb sb Q 104 [some (.ref a0), none, some (.int x2), none, none] []) 0 [some (.ref a0)] []))) ∧ (¬ sx0 = (61 : Int32) → ((sx0 = (35 : Int32) → K a0 = 9 ∧ (∃ b8 : Nat, F a0 8 = some b8 ∧ K b8 = 21 ∧ (∃ j10 : Nat, (x2 + (3 : Int32)) = nI j10 ∧ j10 < n b8 ∧ j10 < 2147483648 ∧ AW E m_Mo_sign (K, n, (zup (zup I a0 3 ((I a0 3) + (1 : Int32))) b8 j10 sx0), F, J) 0 0 (zAft E m_Mo_test cb sb Q 104 [some (.ref a0), none, some (.int x2), none, none] []) 0 [some (.ref a0)] []))) ∧ (¬ sx0 = (35 : Int32) → ((sx0 = (60 : Int32) → K a0 = 9 ∧ (∃ b13 : Nat, F a0 8 = some b13 ∧ K b13 = 21 ∧ (∃ j15 : Nat, (x2 + (3 : Int32)) = nI j15 ∧ j15 < n b13 ∧ j15 < 2147483648 ∧ AW E m_Mo_sign (K, n, (zup (zup I a0 3 ((I a0 3) + (1 : Int32))) b13 j15 sx0), F, J) 0 0 (zAft E m_Mo_test cb sb Q 104 [some (.ref a0), none, some (.int x2), none, none] []) 0 [some (.ref a0)] []))) ∧ (¬ sx0 = (60 : Int32) → ((sx0 = (62 : Int32) → K a0 = 9 ∧ (∃ b18 : Nat, F a0 8 = some b18 ∧ K b18 = 21 ∧ (∃ j20 : Nat, (x2 + (3 : Int32)) = nI j20 ∧ j20 < n b18 ∧ j20 < 2147483648 ∧ AW E m_Mo_sign (K, n, (zup (zup I a0 3 ((I a0 3) + (1 : Int32))) b18 j20 sx0), F, J) 0 0 (zAft E m_Mo_test cb sb Q 104 [some (.ref a0), none, some (.int x2), none, none] []) 0 [some (.ref a0)] []))) ∧ (¬ sx0 = (62 : Int32) → Q (.inl (some (.int (0 : Int32)))) (K, n, I, F, J)))))))))) :
    AW E m_Mo_test (K, n, I, F, J) cb sb Q 57 [some (.ref a0), none, some (.int x2), none, none] [.int sx0] := by
  refine aw_istore_n d_Mo_test_57 (by decide) ?_
  refine aw_iload_n (x := sx0) d_Mo_test_58 rfl ?_
  refine aw_bipush (v := (61 : Int32)) d_Mo_test_59 (by decide) ?_
  refine aw_icmp_eq (tgt := 84) d_Mo_test_61 (by decide) (fun cc1 => ?_) (fun cc1 => ?_)
  · replace w := w.1 cc1
    refine aw_aload_n (x := a0) d_Mo_test_84 rfl ?_
    refine aw_dup d_Mo_test_85 rfl ?_
    obtain ⟨hk2, w⟩ := w
    refine gf_Mo_121 rfl hk2 d_Mo_test_86 ?_
    refine aw_iconst (v := (1 : Int32)) d_Mo_test_89 (by decide) ?_
    refine aw_iadd d_Mo_test_90 ?_
    refine pf_Mo_121 rfl hk2 d_Mo_test_91 ?_
    refine aw_aload_n (x := a0) d_Mo_test_94 rfl ?_
    obtain ⟨b3, hb3, w⟩ := w
    refine gs_Mo_25 rfl hk2 hb3 d_Mo_test_95 ?_
    refine aw_iload_n (x := x2) d_Mo_test_98 rfl ?_
    refine aw_iconst (v := (3 : Int32)) d_Mo_test_99 (by decide) ?_
    refine aw_iadd d_Mo_test_100 ?_
    refine aw_iload_n (x := sx0) d_Mo_test_101 rfl ?_
    obtain ⟨hk4, w⟩ := w
    obtain ⟨j5, hj5a, hj5b, hj5c, w⟩ := w
    refine aw_iastore j5 hk4 hj5a hj5b hj5c d_Mo_test_102 ?_
    refine aw_aload_n (x := a0) d_Mo_test_103 rfl ?_
    exact aw_room (cb' := 0 + cb) (sb' := 0 + sb) (by omega) (by omega) (aw_weak (lv' := [some (.ref a0), none, some (.int x2), none, none]) ⟨rfl, rfl, trivial⟩ (aw_callV (M' := m_Mo_sign) (lv0 := [some (.ref a0)]) (As := []) (rest := []) 8 977 979 980 rfl (by decide) rfl hk2 tb_977 tb_979 tb_980 (fun U hU => hU.p 33 rfl) rfl rfl 0 0 rfl rfl ⟨by decide, by decide, by decide +kernel, by decide +kernel, by decide, by decide⟩ (Nat.le_of_ble_eq_true rfl) ⟨rfl, trivial⟩ rfl d_Mo_test_104 w))
  · replace w := w.2 cc1
    refine aw_iload_n (x := sx0) d_Mo_test_64 rfl ?_
    refine aw_bipush (v := (35 : Int32)) d_Mo_test_65 (by decide) ?_
    refine aw_icmp_eq (tgt := 84) d_Mo_test_67 (by decide) (fun cc6 => ?_) (fun cc6 => ?_)
    · replace w := w.1 cc6
      refine aw_aload_n (x := a0) d_Mo_test_84 rfl ?_
      refine aw_dup d_Mo_test_85 rfl ?_
      obtain ⟨hk7, w⟩ := w
      refine gf_Mo_121 rfl hk7 d_Mo_test_86 ?_
      refine aw_iconst (v := (1 : Int32)) d_Mo_test_89 (by decide) ?_
      refine aw_iadd d_Mo_test_90 ?_
      refine pf_Mo_121 rfl hk7 d_Mo_test_91 ?_
      refine aw_aload_n (x := a0) d_Mo_test_94 rfl ?_
      obtain ⟨b8, hb8, w⟩ := w
      refine gs_Mo_25 rfl hk7 hb8 d_Mo_test_95 ?_
      refine aw_iload_n (x := x2) d_Mo_test_98 rfl ?_
      refine aw_iconst (v := (3 : Int32)) d_Mo_test_99 (by decide) ?_
      refine aw_iadd d_Mo_test_100 ?_
      refine aw_iload_n (x := sx0) d_Mo_test_101 rfl ?_
      obtain ⟨hk9, w⟩ := w
      obtain ⟨j10, hj10a, hj10b, hj10c, w⟩ := w
      refine aw_iastore j10 hk9 hj10a hj10b hj10c d_Mo_test_102 ?_
      refine aw_aload_n (x := a0) d_Mo_test_103 rfl ?_
      exact aw_room (cb' := 0 + cb) (sb' := 0 + sb) (by omega) (by omega) (aw_weak (lv' := [some (.ref a0), none, some (.int x2), none, none]) ⟨rfl, rfl, trivial⟩ (aw_callV (M' := m_Mo_sign) (lv0 := [some (.ref a0)]) (As := []) (rest := []) 8 977 979 980 rfl (by decide) rfl hk7 tb_977 tb_979 tb_980 (fun U hU => hU.p 33 rfl) rfl rfl 0 0 rfl rfl ⟨by decide, by decide, by decide +kernel, by decide +kernel, by decide, by decide⟩ (Nat.le_of_ble_eq_true rfl) ⟨rfl, trivial⟩ rfl d_Mo_test_104 w))
    · replace w := w.2 cc6
      refine aw_iload_n (x := sx0) d_Mo_test_70 rfl ?_
      refine aw_bipush (v := (60 : Int32)) d_Mo_test_71 (by decide) ?_
      refine aw_icmp_eq (tgt := 84) d_Mo_test_73 (by decide) (fun cc11 => ?_) (fun cc11 => ?_)
      · replace w := w.1 cc11
        refine aw_aload_n (x := a0) d_Mo_test_84 rfl ?_
        refine aw_dup d_Mo_test_85 rfl ?_
        obtain ⟨hk12, w⟩ := w
        refine gf_Mo_121 rfl hk12 d_Mo_test_86 ?_
        refine aw_iconst (v := (1 : Int32)) d_Mo_test_89 (by decide) ?_
        refine aw_iadd d_Mo_test_90 ?_
        refine pf_Mo_121 rfl hk12 d_Mo_test_91 ?_
        refine aw_aload_n (x := a0) d_Mo_test_94 rfl ?_
        obtain ⟨b13, hb13, w⟩ := w
        refine gs_Mo_25 rfl hk12 hb13 d_Mo_test_95 ?_
        refine aw_iload_n (x := x2) d_Mo_test_98 rfl ?_
        refine aw_iconst (v := (3 : Int32)) d_Mo_test_99 (by decide) ?_
        refine aw_iadd d_Mo_test_100 ?_
        refine aw_iload_n (x := sx0) d_Mo_test_101 rfl ?_
        obtain ⟨hk14, w⟩ := w
        obtain ⟨j15, hj15a, hj15b, hj15c, w⟩ := w
        refine aw_iastore j15 hk14 hj15a hj15b hj15c d_Mo_test_102 ?_
        refine aw_aload_n (x := a0) d_Mo_test_103 rfl ?_
        exact aw_room (cb' := 0 + cb) (sb' := 0 + sb) (by omega) (by omega) (aw_weak (lv' := [some (.ref a0), none, some (.int x2), none, none]) ⟨rfl, rfl, trivial⟩ (aw_callV (M' := m_Mo_sign) (lv0 := [some (.ref a0)]) (As := []) (rest := []) 8 977 979 980 rfl (by decide) rfl hk12 tb_977 tb_979 tb_980 (fun U hU => hU.p 33 rfl) rfl rfl 0 0 rfl rfl ⟨by decide, by decide, by decide +kernel, by decide +kernel, by decide, by decide⟩ (Nat.le_of_ble_eq_true rfl) ⟨rfl, trivial⟩ rfl d_Mo_test_104 w))
      · replace w := w.2 cc11
        refine aw_iload_n (x := sx0) d_Mo_test_76 rfl ?_
        refine aw_bipush (v := (62 : Int32)) d_Mo_test_77 (by decide) ?_
        refine aw_icmp_eq (tgt := 84) d_Mo_test_79 (by decide) (fun cc16 => ?_) (fun cc16 => ?_)
        · replace w := w.1 cc16
          refine aw_aload_n (x := a0) d_Mo_test_84 rfl ?_
          refine aw_dup d_Mo_test_85 rfl ?_
          obtain ⟨hk17, w⟩ := w
          refine gf_Mo_121 rfl hk17 d_Mo_test_86 ?_
          refine aw_iconst (v := (1 : Int32)) d_Mo_test_89 (by decide) ?_
          refine aw_iadd d_Mo_test_90 ?_
          refine pf_Mo_121 rfl hk17 d_Mo_test_91 ?_
          refine aw_aload_n (x := a0) d_Mo_test_94 rfl ?_
          obtain ⟨b18, hb18, w⟩ := w
          refine gs_Mo_25 rfl hk17 hb18 d_Mo_test_95 ?_
          refine aw_iload_n (x := x2) d_Mo_test_98 rfl ?_
          refine aw_iconst (v := (3 : Int32)) d_Mo_test_99 (by decide) ?_
          refine aw_iadd d_Mo_test_100 ?_
          refine aw_iload_n (x := sx0) d_Mo_test_101 rfl ?_
          obtain ⟨hk19, w⟩ := w
          obtain ⟨j20, hj20a, hj20b, hj20c, w⟩ := w
          refine aw_iastore j20 hk19 hj20a hj20b hj20c d_Mo_test_102 ?_
          refine aw_aload_n (x := a0) d_Mo_test_103 rfl ?_
          exact aw_room (cb' := 0 + cb) (sb' := 0 + sb) (by omega) (by omega) (aw_weak (lv' := [some (.ref a0), none, some (.int x2), none, none]) ⟨rfl, rfl, trivial⟩ (aw_callV (M' := m_Mo_sign) (lv0 := [some (.ref a0)]) (As := []) (rest := []) 8 977 979 980 rfl (by decide) rfl hk17 tb_977 tb_979 tb_980 (fun U hU => hU.p 33 rfl) rfl rfl 0 0 rfl rfl ⟨by decide, by decide, by decide +kernel, by decide +kernel, by decide, by decide⟩ (Nat.le_of_ble_eq_true rfl) ⟨rfl, trivial⟩ rfl d_Mo_test_104 w))
        · replace w := w.2 cc16
          refine aw_iconst (v := (0 : Int32)) d_Mo_test_82 (by decide) ?_
          exact aw_ireturn .boolean rfl rfl d_Mo_test_83 w
set_option maxRecDepth 20000 in
theorem r_Mo_test_107 {E : zE} {K n : Nat → Nat} {I : Nat → Nat → Int32} {F : Nat → Nat → Option Nat} {J : Nat → Nat → Int64} {cb sb : Nat} {Q : zO → zH → Prop} {a0 : Nat} {x2 : Int32} {sx0 : Int32}
    (w : ((¬ sx0 = (39 : Int32) → K a0 = 9 ∧ (∃ b3 : Nat, F a0 8 = some b3 ∧ AW E m_Mo_field (K, n, I, F, J) 0 0 (zAft E m_Mo_test cb sb Q 167 [some (.ref a0), none, none, none, none] []) 0 [some (.ref a0), some (.ref b3), some (.int (x2 + (4 : Int32))), some (.int (40 : Int32)), none, none] [])) ∧ (sx0 = (39 : Int32) → K a0 = 9 ∧ (∃ b5 : Nat, F a0 5 = some b5 ∧ K b5 = 21 ∧ (∃ j7 : Nat, (2 : Int32) = nI j7 ∧ j7 < n b5 ∧ j7 < 2147483648 ∧ AW E m_Mo_letters (K, n, I, F, J) 0 0 (zAft E m_Mo_test cb sb Q 122 [some (.ref a0), none, some (.int x2), none, none] []) 0 [some (.ref a0), some (.int ((20 : Int32) * (I b5 j7))), none] []))))) :
    AW E m_Mo_test (K, n, I, F, J) cb sb Q 107 [some (.ref a0), none, some (.int x2), none, none] [.int sx0] := by
  refine aw_bipush (v := (39 : Int32)) d_Mo_test_107 (by decide) ?_
  refine aw_icmp_ne (tgt := 157) d_Mo_test_109 (by decide) (fun cc1 => ?_) (fun cc1 => ?_)
  · replace w := w.1 cc1
    refine aw_aload_n (x := a0) d_Mo_test_157 rfl ?_
    refine aw_aload_n (x := a0) d_Mo_test_158 rfl ?_
    obtain ⟨hk2, w⟩ := w
    obtain ⟨b3, hb3, w⟩ := w
    refine gs_Mo_25 rfl hk2 hb3 d_Mo_test_159 ?_
    refine aw_iload_n (x := x2) d_Mo_test_162 rfl ?_
    refine aw_iconst (v := (4 : Int32)) d_Mo_test_163 (by decide) ?_
    refine aw_iadd d_Mo_test_164 ?_
    refine aw_bipush (v := (40 : Int32)) d_Mo_test_165 (by decide) ?_
    exact aw_room (cb' := 0 + cb) (sb' := 0 + sb) (by omega) (by omega) (aw_weak (lv' := [some (.ref a0), none, none, none, none]) ⟨rfl, trivial⟩ (aw_callV (M' := m_Mo_field) (lv0 := [some (.ref a0), some (.ref b3), some (.int (x2 + (4 : Int32))), some (.int (40 : Int32)), none, none]) (As := [.ref b3, .int (x2 + (4 : Int32)), .int (40 : Int32)]) (rest := []) 8 1009 1011 1012 rfl (by decide) rfl hk2 tb_1009 tb_1011 tb_1012 (fun U hU => hU.p 40 rfl) rfl rfl 3 0 rfl rfl ⟨by decide, by decide, by decide +kernel, by decide +kernel, by decide, by decide⟩ (Nat.le_of_ble_eq_true rfl) ⟨rfl, rfl, rfl, rfl, trivial⟩ rfl d_Mo_test_167 w))
  · replace w := w.2 cc1
    refine aw_aload_n (x := a0) d_Mo_test_112 rfl ?_
    refine aw_bipush (v := (20 : Int32)) d_Mo_test_113 (by decide) ?_
    refine aw_aload_n (x := a0) d_Mo_test_115 rfl ?_
    obtain ⟨hk4, w⟩ := w
    obtain ⟨b5, hb5, w⟩ := w
    refine gs_Mo_16 rfl hk4 hb5 d_Mo_test_116 ?_
    refine aw_iconst (v := (2 : Int32)) d_Mo_test_119 (by decide) ?_
    obtain ⟨hk6, w⟩ := w
    obtain ⟨j7, hj7a, hj7b, hj7c, w⟩ := w
    refine aw_iaload j7 hk6 hj7a hj7b hj7c d_Mo_test_120 ?_
    refine aw_imul d_Mo_test_121 ?_
    exact aw_room (cb' := 0 + cb) (sb' := 0 + sb) (by omega) (by omega) (aw_weak (lv' := [some (.ref a0), none, some (.int x2), none, none]) ⟨rfl, rfl, trivial⟩ (aw_callV (M' := m_Mo_letters) (lv0 := [some (.ref a0), some (.int ((20 : Int32) * (I b5 j7))), none]) (As := [.int ((20 : Int32) * (I b5 j7))]) (rest := []) 8 1033 1035 1036 rfl (by decide) rfl hk4 tb_1033 tb_1035 tb_1036 (fun U hU => hU.p 46 rfl) rfl rfl 1 0 rfl rfl ⟨by decide, by decide, by decide +kernel, by decide +kernel, by decide, by decide⟩ (Nat.le_of_ble_eq_true rfl) ⟨rfl, rfl, trivial⟩ rfl d_Mo_test_122 w))
set_option maxRecDepth 20000 in
theorem r_Mo_test_125 {E : zE} {K n : Nat → Nat} {I : Nat → Nat → Int32} {F : Nat → Nat → Option Nat} {J : Nat → Nat → Int64} {cb sb : Nat} {Q : zO → zH → Prop} {a0 : Nat} {x2 : Int32} {sx0 : Int32}
    (w : ((¬ sx0 = ((-1) : Int32) → K a0 = 9 ∧ (∃ b3 : Nat, F a0 8 = some b3 ∧ K b3 = 21 ∧ (∃ j5 : Nat, (x2 + (4 : Int32)) = nI j5 ∧ j5 < n b3 ∧ j5 < 2147483648 ∧ (∃ j6 : Nat, (x2 + (5 : Int32)) = nI j6 ∧ j6 < n b3 ∧ j6 < 2147483648 ∧ (∃ b7 : Nat, F a0 5 = some b7 ∧ K b7 = 21 ∧ (∃ j9 : Nat, (2 : Int32) = nI j9 ∧ j9 < n b7 ∧ j9 < 2147483648 ∧ Q (.inl (some (.int (1 : Int32)))) (K, n, (zup (zup (zup I b3 j5 (0 : Int32)) b3 j6 sx0) b7 j9 (((zup (zup I b3 j5 (0 : Int32)) b3 j6 sx0) b7 j9) + (1 : Int32))), F, J))))))) ∧ (sx0 = ((-1) : Int32) → Q (.inl (some (.int (0 : Int32)))) (K, n, I, F, J)))) :
    AW E m_Mo_test (K, n, I, F, J) cb sb Q 125 [some (.ref a0), none, some (.int x2), none, none] [.int sx0] := by
  refine aw_istore d_Mo_test_125 (by decide) ?_
  refine aw_iload (x := sx0) d_Mo_test_127 rfl ?_
  refine aw_iconst (v := ((-1) : Int32)) d_Mo_test_129 (by decide) ?_
  refine aw_icmp_ne (tgt := 135) d_Mo_test_130 (by decide) (fun cc1 => ?_) (fun cc1 => ?_)
  · replace w := w.1 cc1
    refine aw_aload_n (x := a0) d_Mo_test_135 rfl ?_
    obtain ⟨hk2, w⟩ := w
    obtain ⟨b3, hb3, w⟩ := w
    refine gs_Mo_25 rfl hk2 hb3 d_Mo_test_136 ?_
    refine aw_iload_n (x := x2) d_Mo_test_139 rfl ?_
    refine aw_iconst (v := (4 : Int32)) d_Mo_test_140 (by decide) ?_
    refine aw_iadd d_Mo_test_141 ?_
    refine aw_iconst (v := (0 : Int32)) d_Mo_test_142 (by decide) ?_
    obtain ⟨hk4, w⟩ := w
    obtain ⟨j5, hj5a, hj5b, hj5c, w⟩ := w
    refine aw_iastore j5 hk4 hj5a hj5b hj5c d_Mo_test_143 ?_
    refine aw_aload_n (x := a0) d_Mo_test_144 rfl ?_
    refine gs_Mo_25 rfl hk2 hb3 d_Mo_test_145 ?_
    refine aw_iload_n (x := x2) d_Mo_test_148 rfl ?_
    refine aw_iconst (v := (5 : Int32)) d_Mo_test_149 (by decide) ?_
    refine aw_iadd d_Mo_test_150 ?_
    refine aw_iload (x := sx0) d_Mo_test_151 rfl ?_
    obtain ⟨j6, hj6a, hj6b, hj6c, w⟩ := w
    refine aw_iastore j6 hk4 hj6a hj6b hj6c d_Mo_test_153 ?_
    refine aw_goto (tgt := 175) d_Mo_test_154 (by decide) ?_
    refine aw_aload_n (x := a0) d_Mo_test_175 rfl ?_
    obtain ⟨b7, hb7, w⟩ := w
    refine gs_Mo_16 rfl hk2 hb7 d_Mo_test_176 ?_
    refine aw_iconst (v := (2 : Int32)) d_Mo_test_179 (by decide) ?_
    refine aw_dup2 d_Mo_test_180 rfl rfl ?_
    obtain ⟨hk8, w⟩ := w
    obtain ⟨j9, hj9a, hj9b, hj9c, w⟩ := w
    refine aw_iaload j9 hk8 hj9a hj9b hj9c d_Mo_test_181 ?_
    refine aw_iconst (v := (1 : Int32)) d_Mo_test_182 (by decide) ?_
    refine aw_iadd d_Mo_test_183 ?_
    refine aw_iastore j9 hk8 hj9a hj9b hj9c d_Mo_test_184 ?_
    refine aw_iconst (v := (1 : Int32)) d_Mo_test_185 (by decide) ?_
    exact aw_ireturn .boolean rfl rfl d_Mo_test_186 w
  · replace w := w.2 cc1
    refine aw_iconst (v := (0 : Int32)) d_Mo_test_133 (by decide) ?_
    exact aw_ireturn .boolean rfl rfl d_Mo_test_134 w
set_option maxRecDepth 20000 in
theorem r_Mo_test_170 {E : zE} {K n : Nat → Nat} {I : Nat → Nat → Int32} {F : Nat → Nat → Option Nat} {J : Nat → Nat → Int64} {cb sb : Nat} {Q : zO → zH → Prop} {a0 : Nat} {sx0 : Int32}
    (w : ((¬ sx0 = 0 → K a0 = 9 ∧ (∃ b3 : Nat, F a0 5 = some b3 ∧ K b3 = 21 ∧ (∃ j5 : Nat, (2 : Int32) = nI j5 ∧ j5 < n b3 ∧ j5 < 2147483648 ∧ Q (.inl (some (.int (1 : Int32)))) (K, n, (zup I b3 j5 ((I b3 j5) + (1 : Int32))), F, J)))) ∧ (sx0 = 0 → Q (.inl (some (.int (0 : Int32)))) (K, n, I, F, J)))) :
    AW E m_Mo_test (K, n, I, F, J) cb sb Q 170 [some (.ref a0), none, none, none, none] [.int sx0] := by
  refine aw_if_ne (tgt := 175) d_Mo_test_170 (by decide) (fun cc1 => ?_) (fun cc1 => ?_)
  · replace w := w.1 cc1
    refine aw_aload_n (x := a0) d_Mo_test_175 rfl ?_
    obtain ⟨hk2, w⟩ := w
    obtain ⟨b3, hb3, w⟩ := w
    refine gs_Mo_16 rfl hk2 hb3 d_Mo_test_176 ?_
    refine aw_iconst (v := (2 : Int32)) d_Mo_test_179 (by decide) ?_
    refine aw_dup2 d_Mo_test_180 rfl rfl ?_
    obtain ⟨hk4, w⟩ := w
    obtain ⟨j5, hj5a, hj5b, hj5c, w⟩ := w
    refine aw_iaload j5 hk4 hj5a hj5b hj5c d_Mo_test_181 ?_
    refine aw_iconst (v := (1 : Int32)) d_Mo_test_182 (by decide) ?_
    refine aw_iadd d_Mo_test_183 ?_
    refine aw_iastore j5 hk4 hj5a hj5b hj5c d_Mo_test_184 ?_
    refine aw_iconst (v := (1 : Int32)) d_Mo_test_185 (by decide) ?_
    exact aw_ireturn .boolean rfl rfl d_Mo_test_186 w
  · replace w := w.2 cc1
    refine aw_iconst (v := (0 : Int32)) d_Mo_test_173 (by decide) ?_
    exact aw_ireturn .boolean rfl rfl d_Mo_test_174 w
set_option maxRecDepth 20000 in
theorem r_Mo_testing_0 {E : zE} {K n : Nat → Nat} {I : Nat → Nat → Int32} {F : Nat → Nat → Option Nat} {J : Nat → Nat → Int64} {cb sb : Nat} {Q : zO → zH → Prop} {a0 : Nat}
    (w : K a0 = 9 ∧ AW E m_Mo_test (K, n, I, F, J) 0 0 (zAft E m_Mo_testing cb sb Q 2 [some (.ref a0), none] []) 0 [some (.ref a0), some (.int (0 : Int32)), none, none, none] []) :
    AW E m_Mo_testing (K, n, I, F, J) cb sb Q 0 [some (.ref a0), none] [] := by
  refine aw_aload_n (x := a0) d_Mo_testing_0 rfl ?_
  refine aw_iconst (v := (0 : Int32)) d_Mo_testing_1 (by decide) ?_
  obtain ⟨hk1, w⟩ := w
  exact aw_room (cb' := 0 + cb) (sb' := 0 + sb) (by omega) (by omega) (aw_weak (lv' := [some (.ref a0), none]) ⟨rfl, trivial⟩ (aw_callV (M' := m_Mo_test) (lv0 := [some (.ref a0), some (.int (0 : Int32)), none, none, none]) (As := [.int (0 : Int32)]) (rest := []) 8 1029 1031 1032 rfl (by decide) rfl hk1 tb_1029 tb_1031 tb_1032 (fun U hU => hU.p 45 rfl) rfl rfl 1 0 rfl rfl ⟨by decide, by decide, by decide +kernel, by decide +kernel, by decide, by decide⟩ (Nat.le_of_ble_eq_true rfl) ⟨rfl, rfl, trivial⟩ rfl d_Mo_testing_2 w))
set_option maxRecDepth 20000 in
theorem r_Mo_testing_5 {E : zE} {K n : Nat → Nat} {I : Nat → Nat → Int32} {F : Nat → Nat → Option Nat} {J : Nat → Nat → Int64} {cb sb : Nat} {Q : zO → zH → Prop} {a0 : Nat} {sx0 : Int32}
    (w : ((¬ sx0 = 0 → AW E m_Mo_testing (K, n, I, F, J) cb sb Q 10 [some (.ref a0), none] []) ∧ (sx0 = 0 → Q (.inl (some (.int (0 : Int32)))) (K, n, I, F, J)))) :
    AW E m_Mo_testing (K, n, I, F, J) cb sb Q 5 [some (.ref a0), none] [.int sx0] := by
  refine aw_if_ne (tgt := 10) d_Mo_testing_5 (by decide) (fun cc1 => ?_) (fun cc1 => ?_)
  · replace w := w.1 cc1
    exact aw_weak (lv' := [some (.ref a0), none]) ⟨rfl, trivial⟩ w
  · replace w := w.2 cc1
    refine aw_iconst (v := (0 : Int32)) d_Mo_testing_8 (by decide) ?_
    exact aw_ireturn .boolean rfl rfl d_Mo_testing_9 w
set_option maxRecDepth 20000 in
theorem r_Mo_testing_10 {E : zE} {K n : Nat → Nat} {I : Nat → Nat → Int32} {F : Nat → Nat → Option Nat} {J : Nat → Nat → Int64} {cb sb : Nat} {Q : zO → zH → Prop} {a0 : Nat}
    (w : K a0 = 9 ∧ AW E m_Mo_sign (K, n, I, F, J) 0 0 (zAft E m_Mo_testing cb sb Q 11 [some (.ref a0), none] []) 0 [some (.ref a0)] []) :
    AW E m_Mo_testing (K, n, I, F, J) cb sb Q 10 [some (.ref a0), none] [] := by
  refine aw_aload_n (x := a0) d_Mo_testing_10 rfl ?_
  obtain ⟨hk1, w⟩ := w
  exact aw_room (cb' := 0 + cb) (sb' := 0 + sb) (by omega) (by omega) (aw_weak (lv' := [some (.ref a0), none]) ⟨rfl, trivial⟩ (aw_callV (M' := m_Mo_sign) (lv0 := [some (.ref a0)]) (As := []) (rest := []) 8 977 979 980 rfl (by decide) rfl hk1 tb_977 tb_979 tb_980 (fun U hU => hU.p 33 rfl) rfl rfl 0 0 rfl rfl ⟨by decide, by decide, by decide +kernel, by decide +kernel, by decide, by decide⟩ (Nat.le_of_ble_eq_true rfl) ⟨rfl, trivial⟩ rfl d_Mo_testing_11 w))
set_option maxRecDepth 20000 in
theorem r_Mo_testing_14 {E : zE} {K n : Nat → Nat} {I : Nat → Nat → Int32} {F : Nat → Nat → Option Nat} {J : Nat → Nat → Int64} {cb sb : Nat} {Q : zO → zH → Prop} {a0 : Nat} {sx0 : Int32}
    (w : ((sx0 = (38 : Int32) → K a0 = 9 ∧ AW E m_Mo_sign (K, n, I, F, J) 0 0 (zAft E m_Mo_testing cb sb Q 29 [some (.ref a0), none] []) 0 [some (.ref a0)] []) ∧ (¬ sx0 = (38 : Int32) → K a0 = 9 ∧ AW E m_Mo_sign (K, n, I, F, J) 0 0 (zAft E m_Mo_testing cb sb Q 20 [some (.ref a0), none] []) 0 [some (.ref a0)] []))) :
    AW E m_Mo_testing (K, n, I, F, J) cb sb Q 14 [some (.ref a0), none] [.int sx0] := by
  refine aw_bipush (v := (38 : Int32)) d_Mo_testing_14 (by decide) ?_
  refine aw_icmp_eq (tgt := 28) d_Mo_testing_16 (by decide) (fun cc1 => ?_) (fun cc1 => ?_)
  · replace w := w.1 cc1
    refine aw_aload_n (x := a0) d_Mo_testing_28 rfl ?_
    obtain ⟨hk2, w⟩ := w
    exact aw_room (cb' := 0 + cb) (sb' := 0 + sb) (by omega) (by omega) (aw_weak (lv' := [some (.ref a0), none]) ⟨rfl, trivial⟩ (aw_callV (M' := m_Mo_sign) (lv0 := [some (.ref a0)]) (As := []) (rest := []) 8 977 979 980 rfl (by decide) rfl hk2 tb_977 tb_979 tb_980 (fun U hU => hU.p 33 rfl) rfl rfl 0 0 rfl rfl ⟨by decide, by decide, by decide +kernel, by decide +kernel, by decide, by decide⟩ (Nat.le_of_ble_eq_true rfl) ⟨rfl, trivial⟩ rfl d_Mo_testing_29 w))
  · replace w := w.2 cc1
    refine aw_aload_n (x := a0) d_Mo_testing_19 rfl ?_
    obtain ⟨hk3, w⟩ := w
    exact aw_room (cb' := 0 + cb) (sb' := 0 + sb) (by omega) (by omega) (aw_weak (lv' := [some (.ref a0), none]) ⟨rfl, trivial⟩ (aw_callV (M' := m_Mo_sign) (lv0 := [some (.ref a0)]) (As := []) (rest := []) 8 977 979 980 rfl (by decide) rfl hk3 tb_977 tb_979 tb_980 (fun U hU => hU.p 33 rfl) rfl rfl 0 0 rfl rfl ⟨by decide, by decide, by decide +kernel, by decide +kernel, by decide, by decide⟩ (Nat.le_of_ble_eq_true rfl) ⟨rfl, trivial⟩ rfl d_Mo_testing_20 w))
set_option maxRecDepth 20000 in
theorem r_Mo_testing_23 {E : zE} {K n : Nat → Nat} {I : Nat → Nat → Int32} {F : Nat → Nat → Option Nat} {J : Nat → Nat → Int64} {cb sb : Nat} {Q : zO → zH → Prop} {a0 : Nat} {sx0 : Int32}
    (w : ((¬ sx0 = (124 : Int32) → Q (.inl (some (.int (1 : Int32)))) (K, n, I, F, J)) ∧ (sx0 = (124 : Int32) → K a0 = 9 ∧ AW E m_Mo_sign (K, n, I, F, J) 0 0 (zAft E m_Mo_testing cb sb Q 29 [some (.ref a0), none] []) 0 [some (.ref a0)] []))) :
    AW E m_Mo_testing (K, n, I, F, J) cb sb Q 23 [some (.ref a0), none] [.int sx0] := by
  refine aw_bipush (v := (124 : Int32)) d_Mo_testing_23 (by decide) ?_
  refine aw_icmp_ne (tgt := 66) d_Mo_testing_25 (by decide) (fun cc1 => ?_) (fun cc1 => ?_)
  · replace w := w.1 cc1
    refine aw_iconst (v := (1 : Int32)) d_Mo_testing_66 (by decide) ?_
    exact aw_ireturn .boolean rfl rfl d_Mo_testing_67 w
  · replace w := w.2 cc1
    refine aw_aload_n (x := a0) d_Mo_testing_28 rfl ?_
    obtain ⟨hk2, w⟩ := w
    exact aw_room (cb' := 0 + cb) (sb' := 0 + sb) (by omega) (by omega) (aw_weak (lv' := [some (.ref a0), none]) ⟨rfl, trivial⟩ (aw_callV (M' := m_Mo_sign) (lv0 := [some (.ref a0)]) (As := []) (rest := []) 8 977 979 980 rfl (by decide) rfl hk2 tb_977 tb_979 tb_980 (fun U hU => hU.p 33 rfl) rfl rfl 0 0 rfl rfl ⟨by decide, by decide, by decide +kernel, by decide +kernel, by decide, by decide⟩ (Nat.le_of_ble_eq_true rfl) ⟨rfl, trivial⟩ rfl d_Mo_testing_29 w))
set_option maxRecDepth 20000 in
theorem r_Mo_testing_32 {E : zE} {K n : Nat → Nat} {I : Nat → Nat → Int32} {F : Nat → Nat → Option Nat} {J : Nat → Nat → Int64} {cb sb : Nat} {Q : zO → zH → Prop} {a0 : Nat} {sx0 : Int32}
    (w : ((¬ sx0 = (38 : Int32) → K a0 = 9 ∧ AW E m_Mo_test (K, n, (zup I a0 3 ((I a0 3) + (1 : Int32))), F, J) 0 0 (zAft E m_Mo_testing cb sb Q 55 [some (.ref a0), none] []) 0 [some (.ref a0), some (.int (2 : Int32)), none, none, none] []) ∧ (sx0 = (38 : Int32) → K a0 = 9 ∧ AW E m_Mo_test (K, n, (zup I a0 3 ((I a0 3) + (1 : Int32))), F, J) 0 0 (zAft E m_Mo_testing cb sb Q 55 [some (.ref a0), none] []) 0 [some (.ref a0), some (.int (1 : Int32)), none, none, none] []))) :
    AW E m_Mo_testing (K, n, I, F, J) cb sb Q 32 [some (.ref a0), none] [.int sx0] := by
  refine aw_bipush (v := (38 : Int32)) d_Mo_testing_32 (by decide) ?_
  refine aw_icmp_ne (tgt := 41) d_Mo_testing_34 (by decide) (fun cc1 => ?_) (fun cc1 => ?_)
  · replace w := w.1 cc1
    refine aw_iconst (v := (2 : Int32)) d_Mo_testing_41 (by decide) ?_
    refine aw_istore_n d_Mo_testing_42 (by decide) ?_
    refine aw_aload_n (x := a0) d_Mo_testing_43 rfl ?_
    refine aw_dup d_Mo_testing_44 rfl ?_
    obtain ⟨hk2, w⟩ := w
    refine gf_Mo_121 rfl hk2 d_Mo_testing_45 ?_
    refine aw_iconst (v := (1 : Int32)) d_Mo_testing_48 (by decide) ?_
    refine aw_iadd d_Mo_testing_49 ?_
    refine pf_Mo_121 rfl hk2 d_Mo_testing_50 ?_
    refine aw_aload_n (x := a0) d_Mo_testing_53 rfl ?_
    refine aw_iload_n (x := (2 : Int32)) d_Mo_testing_54 rfl ?_
    exact aw_room (cb' := 0 + cb) (sb' := 0 + sb) (by omega) (by omega) (aw_weak (lv' := [some (.ref a0), none]) ⟨rfl, trivial⟩ (aw_callV (M' := m_Mo_test) (lv0 := [some (.ref a0), some (.int (2 : Int32)), none, none, none]) (As := [.int (2 : Int32)]) (rest := []) 8 1029 1031 1032 rfl (by decide) rfl hk2 tb_1029 tb_1031 tb_1032 (fun U hU => hU.p 45 rfl) rfl rfl 1 0 rfl rfl ⟨by decide, by decide, by decide +kernel, by decide +kernel, by decide, by decide⟩ (Nat.le_of_ble_eq_true rfl) ⟨rfl, rfl, trivial⟩ rfl d_Mo_testing_55 w))
  · replace w := w.2 cc1
    refine aw_iconst (v := (1 : Int32)) d_Mo_testing_37 (by decide) ?_
    refine aw_goto (tgt := 42) d_Mo_testing_38 (by decide) ?_
    refine aw_istore_n d_Mo_testing_42 (by decide) ?_
    refine aw_aload_n (x := a0) d_Mo_testing_43 rfl ?_
    refine aw_dup d_Mo_testing_44 rfl ?_
    obtain ⟨hk3, w⟩ := w
    refine gf_Mo_121 rfl hk3 d_Mo_testing_45 ?_
    refine aw_iconst (v := (1 : Int32)) d_Mo_testing_48 (by decide) ?_
    refine aw_iadd d_Mo_testing_49 ?_
    refine pf_Mo_121 rfl hk3 d_Mo_testing_50 ?_
    refine aw_aload_n (x := a0) d_Mo_testing_53 rfl ?_
    refine aw_iload_n (x := (1 : Int32)) d_Mo_testing_54 rfl ?_
    exact aw_room (cb' := 0 + cb) (sb' := 0 + sb) (by omega) (by omega) (aw_weak (lv' := [some (.ref a0), none]) ⟨rfl, trivial⟩ (aw_callV (M' := m_Mo_test) (lv0 := [some (.ref a0), some (.int (1 : Int32)), none, none, none]) (As := [.int (1 : Int32)]) (rest := []) 8 1029 1031 1032 rfl (by decide) rfl hk3 tb_1029 tb_1031 tb_1032 (fun U hU => hU.p 45 rfl) rfl rfl 1 0 rfl rfl ⟨by decide, by decide, by decide +kernel, by decide +kernel, by decide, by decide⟩ (Nat.le_of_ble_eq_true rfl) ⟨rfl, rfl, trivial⟩ rfl d_Mo_testing_55 w))
set_option maxRecDepth 20000 in
theorem r_Mo_testing_58 {E : zE} {K n : Nat → Nat} {I : Nat → Nat → Int32} {F : Nat → Nat → Option Nat} {J : Nat → Nat → Int64} {cb sb : Nat} {Q : zO → zH → Prop} {a0 : Nat} {sx0 : Int32}
    (w : ((¬ sx0 = 0 → AW E m_Mo_testing (K, n, I, F, J) cb sb Q 10 [some (.ref a0), none] []) ∧ (sx0 = 0 → Q (.inl (some (.int (0 : Int32)))) (K, n, I, F, J)))) :
    AW E m_Mo_testing (K, n, I, F, J) cb sb Q 58 [some (.ref a0), none] [.int sx0] := by
  refine aw_if_ne (tgt := 63) d_Mo_testing_58 (by decide) (fun cc1 => ?_) (fun cc1 => ?_)
  · replace w := w.1 cc1
    refine aw_goto (tgt := 10) d_Mo_testing_63 (by decide) ?_
    exact aw_weak (lv' := [some (.ref a0), none]) ⟨rfl, trivial⟩ w
  · replace w := w.2 cc1
    refine aw_iconst (v := (0 : Int32)) d_Mo_testing_61 (by decide) ?_
    exact aw_ireturn .boolean rfl rfl d_Mo_testing_62 w
set_option maxRecDepth 20000 in
theorem r_Mo_piece_0 {E : zE} {K n : Nat → Nat} {I : Nat → Nat → Int32} {F : Nat → Nat → Option Nat} {J : Nat → Nat → Int64} {cb sb : Nat} {Q : zO → zH → Prop} {a0 : Nat}
    (w : K a0 = 9 ∧ (∃ b2 : Nat, F a0 5 = some b2 ∧ K b2 = 21 ∧ (∃ j4 : Nat, (4 : Int32) = nI j4 ∧ j4 < n b2 ∧ j4 < 2147483648 ∧ ((¬ (I b2 j4) = (12 : Int32) → AW E m_Mo_sign (K, n, I, F, J) 0 0 (zAft E m_Mo_piece cb sb Q 23 [some (.ref a0), some (.int ((2 : Int32) * (I b2 j4))), none] []) 0 [some (.ref a0)] []) ∧ ((I b2 j4) = (12 : Int32) → Q (.inl (some (.int (0 : Int32)))) (K, n, I, F, J)))))) :
    AW E m_Mo_piece (K, n, I, F, J) cb sb Q 0 [some (.ref a0), none, none] [] := by
  refine aw_aload_n (x := a0) d_Mo_piece_0 rfl ?_
  obtain ⟨hk1, w⟩ := w
  obtain ⟨b2, hb2, w⟩ := w
  refine gs_Mo_16 rfl hk1 hb2 d_Mo_piece_1 ?_
  refine aw_iconst (v := (4 : Int32)) d_Mo_piece_4 (by decide) ?_
  obtain ⟨hk3, w⟩ := w
  obtain ⟨j4, hj4a, hj4b, hj4c, w⟩ := w
  refine aw_iaload j4 hk3 hj4a hj4b hj4c d_Mo_piece_5 ?_
  refine aw_bipush (v := (12 : Int32)) d_Mo_piece_6 (by decide) ?_
  refine aw_icmp_ne (tgt := 13) d_Mo_piece_8 (by decide) (fun cc5 => ?_) (fun cc5 => ?_)
  · replace w := w.1 cc5
    refine aw_iconst (v := (2 : Int32)) d_Mo_piece_13 (by decide) ?_
    refine aw_aload_n (x := a0) d_Mo_piece_14 rfl ?_
    refine gs_Mo_16 rfl hk1 hb2 d_Mo_piece_15 ?_
    refine aw_iconst (v := (4 : Int32)) d_Mo_piece_18 (by decide) ?_
    refine aw_iaload j4 hk3 hj4a hj4b hj4c d_Mo_piece_19 ?_
    refine aw_imul d_Mo_piece_20 ?_
    refine aw_istore_n d_Mo_piece_21 (by decide) ?_
    refine aw_aload_n (x := a0) d_Mo_piece_22 rfl ?_
    exact aw_room (cb' := 0 + cb) (sb' := 0 + sb) (by omega) (by omega) (aw_weak (lv' := [some (.ref a0), some (.int ((2 : Int32) * (I b2 j4))), none]) ⟨rfl, rfl, trivial⟩ (aw_callV (M' := m_Mo_sign) (lv0 := [some (.ref a0)]) (As := []) (rest := []) 8 977 979 980 rfl (by decide) rfl hk1 tb_977 tb_979 tb_980 (fun U hU => hU.p 33 rfl) rfl rfl 0 0 rfl rfl ⟨by decide, by decide, by decide +kernel, by decide +kernel, by decide, by decide⟩ (Nat.le_of_ble_eq_true rfl) ⟨rfl, trivial⟩ rfl d_Mo_piece_23 w))
  · replace w := w.2 cc5
    refine aw_iconst (v := (0 : Int32)) d_Mo_piece_11 (by decide) ?_
    exact aw_ireturn .boolean rfl rfl d_Mo_piece_12 w
set_option maxRecDepth 20000 in
theorem r_Mo_piece_26 {E : zE} {K n : Nat → Nat} {I : Nat → Nat → Int32} {F : Nat → Nat → Option Nat} {J : Nat → Nat → Int64} {cb sb : Nat} {Q : zO → zH → Prop} {a0 : Nat} {x1 : Int32} {sx0 : Int32}
    (w : ((¬ sx0 = (39 : Int32) → K a0 = 9 ∧ AW E m_Mo_sign (K, n, I, F, J) 0 0 (zAft E m_Mo_piece cb sb Q 75 [some (.ref a0), some (.int x1), none] []) 0 [some (.ref a0)] []) ∧ (sx0 = (39 : Int32) → K a0 = 9 ∧ (∃ b4 : Nat, F a0 5 = some b4 ∧ K b4 = 21 ∧ (∃ j6 : Nat, (4 : Int32) = nI j6 ∧ j6 < n b4 ∧ j6 < 2147483648 ∧ AW E m_Mo_letters (K, n, I, F, J) 0 0 (zAft E m_Mo_piece cb sb Q 44 [some (.ref a0), some (.int x1), none] []) 0 [some (.ref a0), some (.int ((20 : Int32) * ((10 : Int32) + (I b4 j6)))), none] []))))) :
    AW E m_Mo_piece (K, n, I, F, J) cb sb Q 26 [some (.ref a0), some (.int x1), none] [.int sx0] := by
  refine aw_bipush (v := (39 : Int32)) d_Mo_piece_26 (by decide) ?_
  refine aw_icmp_ne (tgt := 74) d_Mo_piece_28 (by decide) (fun cc1 => ?_) (fun cc1 => ?_)
  · replace w := w.1 cc1
    refine aw_aload_n (x := a0) d_Mo_piece_74 rfl ?_
    obtain ⟨hk2, w⟩ := w
    exact aw_room (cb' := 0 + cb) (sb' := 0 + sb) (by omega) (by omega) (aw_weak (lv' := [some (.ref a0), some (.int x1), none]) ⟨rfl, rfl, trivial⟩ (aw_callV (M' := m_Mo_sign) (lv0 := [some (.ref a0)]) (As := []) (rest := []) 8 977 979 980 rfl (by decide) rfl hk2 tb_977 tb_979 tb_980 (fun U hU => hU.p 33 rfl) rfl rfl 0 0 rfl rfl ⟨by decide, by decide, by decide +kernel, by decide +kernel, by decide, by decide⟩ (Nat.le_of_ble_eq_true rfl) ⟨rfl, trivial⟩ rfl d_Mo_piece_75 w))
  · replace w := w.2 cc1
    refine aw_aload_n (x := a0) d_Mo_piece_31 rfl ?_
    refine aw_bipush (v := (20 : Int32)) d_Mo_piece_32 (by decide) ?_
    refine aw_bipush (v := (10 : Int32)) d_Mo_piece_34 (by decide) ?_
    refine aw_aload_n (x := a0) d_Mo_piece_36 rfl ?_
    obtain ⟨hk3, w⟩ := w
    obtain ⟨b4, hb4, w⟩ := w
    refine gs_Mo_16 rfl hk3 hb4 d_Mo_piece_37 ?_
    refine aw_iconst (v := (4 : Int32)) d_Mo_piece_40 (by decide) ?_
    obtain ⟨hk5, w⟩ := w
    obtain ⟨j6, hj6a, hj6b, hj6c, w⟩ := w
    refine aw_iaload j6 hk5 hj6a hj6b hj6c d_Mo_piece_41 ?_
    refine aw_iadd d_Mo_piece_42 ?_
    refine aw_imul d_Mo_piece_43 ?_
    exact aw_room (cb' := 0 + cb) (sb' := 0 + sb) (by omega) (by omega) (aw_weak (lv' := [some (.ref a0), some (.int x1), none]) ⟨rfl, rfl, trivial⟩ (aw_callV (M' := m_Mo_letters) (lv0 := [some (.ref a0), some (.int ((20 : Int32) * ((10 : Int32) + (I b4 j6)))), none]) (As := [.int ((20 : Int32) * ((10 : Int32) + (I b4 j6)))]) (rest := []) 8 1033 1035 1036 rfl (by decide) rfl hk3 tb_1033 tb_1035 tb_1036 (fun U hU => hU.p 46 rfl) rfl rfl 1 0 rfl rfl ⟨by decide, by decide, by decide +kernel, by decide +kernel, by decide, by decide⟩ (Nat.le_of_ble_eq_true rfl) ⟨rfl, rfl, trivial⟩ rfl d_Mo_piece_44 w))
set_option maxRecDepth 20000 in
theorem r_Mo_piece_47 {E : zE} {K n : Nat → Nat} {I : Nat → Nat → Int32} {F : Nat → Nat → Option Nat} {J : Nat → Nat → Int64} {cb sb : Nat} {Q : zO → zH → Prop} {a0 : Nat} {x1 : Int32} {sx0 : Int32}
    (w : ((¬ sx0 = ((-1) : Int32) → K a0 = 9 ∧ (∃ b3 : Nat, F a0 10 = some b3 ∧ K b3 = 21 ∧ (∃ j5 : Nat, x1 = nI j5 ∧ j5 < n b3 ∧ j5 < 2147483648 ∧ (∃ j6 : Nat, (x1 + (1 : Int32)) = nI j6 ∧ j6 < n b3 ∧ j6 < 2147483648 ∧ (∃ b7 : Nat, F a0 5 = some b7 ∧ K b7 = 21 ∧ (∃ j9 : Nat, (4 : Int32) = nI j9 ∧ j9 < n b7 ∧ j9 < 2147483648 ∧ Q (.inl (some (.int (1 : Int32)))) (K, n, (zup (zup (zup I b3 j5 (0 : Int32)) b3 j6 sx0) b7 j9 (((zup (zup I b3 j5 (0 : Int32)) b3 j6 sx0) b7 j9) + (1 : Int32))), F, J))))))) ∧ (sx0 = ((-1) : Int32) → Q (.inl (some (.int (0 : Int32)))) (K, n, I, F, J)))) :
    AW E m_Mo_piece (K, n, I, F, J) cb sb Q 47 [some (.ref a0), some (.int x1), none] [.int sx0] := by
  refine aw_istore_n d_Mo_piece_47 (by decide) ?_
  refine aw_iload_n (x := sx0) d_Mo_piece_48 rfl ?_
  refine aw_iconst (v := ((-1) : Int32)) d_Mo_piece_49 (by decide) ?_
  refine aw_icmp_ne (tgt := 55) d_Mo_piece_50 (by decide) (fun cc1 => ?_) (fun cc1 => ?_)
  · replace w := w.1 cc1
    refine aw_aload_n (x := a0) d_Mo_piece_55 rfl ?_
    obtain ⟨hk2, w⟩ := w
    obtain ⟨b3, hb3, w⟩ := w
    refine gs_Mo_31 rfl hk2 hb3 d_Mo_piece_56 ?_
    refine aw_iload_n (x := x1) d_Mo_piece_59 rfl ?_
    refine aw_iconst (v := (0 : Int32)) d_Mo_piece_60 (by decide) ?_
    obtain ⟨hk4, w⟩ := w
    obtain ⟨j5, hj5a, hj5b, hj5c, w⟩ := w
    refine aw_iastore j5 hk4 hj5a hj5b hj5c d_Mo_piece_61 ?_
    refine aw_aload_n (x := a0) d_Mo_piece_62 rfl ?_
    refine gs_Mo_31 rfl hk2 hb3 d_Mo_piece_63 ?_
    refine aw_iload_n (x := x1) d_Mo_piece_66 rfl ?_
    refine aw_iconst (v := (1 : Int32)) d_Mo_piece_67 (by decide) ?_
    refine aw_iadd d_Mo_piece_68 ?_
    refine aw_iload_n (x := sx0) d_Mo_piece_69 rfl ?_
    obtain ⟨j6, hj6a, hj6b, hj6c, w⟩ := w
    refine aw_iastore j6 hk4 hj6a hj6b hj6c d_Mo_piece_70 ?_
    refine aw_goto (tgt := 145) d_Mo_piece_71 (by decide) ?_
    refine aw_aload_n (x := a0) d_Mo_piece_145 rfl ?_
    obtain ⟨b7, hb7, w⟩ := w
    refine gs_Mo_16 rfl hk2 hb7 d_Mo_piece_146 ?_
    refine aw_iconst (v := (4 : Int32)) d_Mo_piece_149 (by decide) ?_
    refine aw_dup2 d_Mo_piece_150 rfl rfl ?_
    obtain ⟨hk8, w⟩ := w
    obtain ⟨j9, hj9a, hj9b, hj9c, w⟩ := w
    refine aw_iaload j9 hk8 hj9a hj9b hj9c d_Mo_piece_151 ?_
    refine aw_iconst (v := (1 : Int32)) d_Mo_piece_152 (by decide) ?_
    refine aw_iadd d_Mo_piece_153 ?_
    refine aw_iastore j9 hk8 hj9a hj9b hj9c d_Mo_piece_154 ?_
    refine aw_iconst (v := (1 : Int32)) d_Mo_piece_155 (by decide) ?_
    exact aw_ireturn .boolean rfl rfl d_Mo_piece_156 w
  · replace w := w.2 cc1
    refine aw_iconst (v := (0 : Int32)) d_Mo_piece_53 (by decide) ?_
    exact aw_ireturn .boolean rfl rfl d_Mo_piece_54 w
set_option maxRecDepth 20000 in
theorem r_Mo_piece_78 {E : zE} {K n : Nat → Nat} {I : Nat → Nat → Int32} {F : Nat → Nat → Option Nat} {J : Nat → Nat → Int64} {cb sb : Nat} {Q : zO → zH → Prop} {a0 : Nat} {x1 : Int32} {sx0 : Int32}
    (w : ((¬ sx0 = (120 : Int32) → K a0 = 9 ∧ (∃ b3 : Nat, F a0 10 = some b3 ∧ AW E m_Mo_field (K, n, I, F, J) 0 0 (zAft E m_Mo_piece cb sb Q 137 [some (.ref a0), none, none] []) 0 [some (.ref a0), some (.ref b3), some (.int x1), some (.int (40 : Int32)), none, none] [])) ∧ (sx0 = (120 : Int32) → K a0 = 9 ∧ (∃ b5 : Nat, F a0 10 = some b5 ∧ K b5 = 21 ∧ (∃ j7 : Nat, x1 = nI j7 ∧ j7 < n b5 ∧ j7 < 2147483648 ∧ AW E m_Mo_number (K, n, (zup (zup I a0 3 ((I a0 3) + (1 : Int32))) b5 j7 ((-1) : Int32)), F, J) 0 0 (zAft E m_Mo_piece cb sb Q 111 [some (.ref a0), some (.int x1), none] [.int (x1 + (1 : Int32)), .ref b5]) 0 [some (.ref a0), some (.int (1 : Int32)), some (.int (40 : Int32)), none, none] []))))) :
    AW E m_Mo_piece (K, n, I, F, J) cb sb Q 78 [some (.ref a0), some (.int x1), none] [.int sx0] := by
  refine aw_bipush (v := (120 : Int32)) d_Mo_piece_78 (by decide) ?_
  refine aw_icmp_ne (tgt := 129) d_Mo_piece_80 (by decide) (fun cc1 => ?_) (fun cc1 => ?_)
  · replace w := w.1 cc1
    refine aw_aload_n (x := a0) d_Mo_piece_129 rfl ?_
    refine aw_aload_n (x := a0) d_Mo_piece_130 rfl ?_
    obtain ⟨hk2, w⟩ := w
    obtain ⟨b3, hb3, w⟩ := w
    refine gs_Mo_31 rfl hk2 hb3 d_Mo_piece_131 ?_
    refine aw_iload_n (x := x1) d_Mo_piece_134 rfl ?_
    refine aw_bipush (v := (40 : Int32)) d_Mo_piece_135 (by decide) ?_
    exact aw_room (cb' := 0 + cb) (sb' := 0 + sb) (by omega) (by omega) (aw_weak (lv' := [some (.ref a0), none, none]) ⟨rfl, trivial⟩ (aw_callV (M' := m_Mo_field) (lv0 := [some (.ref a0), some (.ref b3), some (.int x1), some (.int (40 : Int32)), none, none]) (As := [.ref b3, .int x1, .int (40 : Int32)]) (rest := []) 8 1009 1011 1012 rfl (by decide) rfl hk2 tb_1009 tb_1011 tb_1012 (fun U hU => hU.p 40 rfl) rfl rfl 3 0 rfl rfl ⟨by decide, by decide, by decide +kernel, by decide +kernel, by decide, by decide⟩ (Nat.le_of_ble_eq_true rfl) ⟨rfl, rfl, rfl, rfl, trivial⟩ rfl d_Mo_piece_137 w))
  · replace w := w.2 cc1
    refine aw_aload_n (x := a0) d_Mo_piece_83 rfl ?_
    refine aw_dup d_Mo_piece_84 rfl ?_
    obtain ⟨hk4, w⟩ := w
    refine gf_Mo_121 rfl hk4 d_Mo_piece_85 ?_
    refine aw_iconst (v := (1 : Int32)) d_Mo_piece_88 (by decide) ?_
    refine aw_iadd d_Mo_piece_89 ?_
    refine pf_Mo_121 rfl hk4 d_Mo_piece_90 ?_
    refine aw_aload_n (x := a0) d_Mo_piece_93 rfl ?_
    obtain ⟨b5, hb5, w⟩ := w
    refine gs_Mo_31 rfl hk4 hb5 d_Mo_piece_94 ?_
    refine aw_iload_n (x := x1) d_Mo_piece_97 rfl ?_
    refine aw_iconst (v := ((-1) : Int32)) d_Mo_piece_98 (by decide) ?_
    obtain ⟨hk6, w⟩ := w
    obtain ⟨j7, hj7a, hj7b, hj7c, w⟩ := w
    refine aw_iastore j7 hk6 hj7a hj7b hj7c d_Mo_piece_99 ?_
    refine aw_aload_n (x := a0) d_Mo_piece_100 rfl ?_
    refine gs_Mo_31 rfl hk4 hb5 d_Mo_piece_101 ?_
    refine aw_iload_n (x := x1) d_Mo_piece_104 rfl ?_
    refine aw_iconst (v := (1 : Int32)) d_Mo_piece_105 (by decide) ?_
    refine aw_iadd d_Mo_piece_106 ?_
    refine aw_aload_n (x := a0) d_Mo_piece_107 rfl ?_
    refine aw_iconst (v := (1 : Int32)) d_Mo_piece_108 (by decide) ?_
    refine aw_bipush (v := (40 : Int32)) d_Mo_piece_109 (by decide) ?_
    exact aw_room (cb' := 0 + cb) (sb' := 0 + sb) (by omega) (by omega) (aw_weak (lv' := [some (.ref a0), some (.int x1), none]) ⟨rfl, rfl, trivial⟩ (aw_callV (M' := m_Mo_number) (lv0 := [some (.ref a0), some (.int (1 : Int32)), some (.int (40 : Int32)), none, none]) (As := [.int (1 : Int32), .int (40 : Int32)]) (rest := [.int (x1 + (1 : Int32)), .ref b5]) 8 1013 1015 1016 rfl (by decide) rfl hk4 tb_1013 tb_1015 tb_1016 (fun U hU => hU.p 41 rfl) rfl rfl 2 2 rfl rfl ⟨by decide, by decide, by decide +kernel, by decide +kernel, by decide, by decide⟩ (Nat.le_of_ble_eq_true rfl) ⟨rfl, rfl, rfl, trivial⟩ rfl d_Mo_piece_111 w))
set_option maxRecDepth 20000 in
theorem r_Mo_piece_114 {E : zE} {K n : Nat → Nat} {I : Nat → Nat → Int32} {F : Nat → Nat → Option Nat} {J : Nat → Nat → Int64} {cb sb : Nat} {Q : zO → zH → Prop} {a0 : Nat} {x1 : Int32} {sa0 : Nat} {sx1 : Int32} {sx2 : Int32}
    (w : K sa0 = 21 ∧ (∃ j2 : Nat, sx1 = nI j2 ∧ j2 < n sa0 ∧ j2 < 2147483648 ∧ K a0 = 9 ∧ (∃ b4 : Nat, F a0 10 = some b4 ∧ K b4 = 21 ∧ (∃ j6 : Nat, (x1 + (1 : Int32)) = nI j6 ∧ j6 < n b4 ∧ j6 < 2147483648 ∧ ((¬ ((zup I sa0 j2 sx2) b4 j6) = ((-1) : Int32) → (∃ b8 : Nat, F a0 5 = some b8 ∧ K b8 = 21 ∧ (∃ j10 : Nat, (4 : Int32) = nI j10 ∧ j10 < n b8 ∧ j10 < 2147483648 ∧ Q (.inl (some (.int (1 : Int32)))) (K, n, (zup (zup I sa0 j2 sx2) b8 j10 (((zup I sa0 j2 sx2) b8 j10) + (1 : Int32))), F, J)))) ∧ (((zup I sa0 j2 sx2) b4 j6) = ((-1) : Int32) → Q (.inl (some (.int (0 : Int32)))) (K, n, (zup I sa0 j2 sx2), F, J))))))) :
    AW E m_Mo_piece (K, n, I, F, J) cb sb Q 114 [some (.ref a0), some (.int x1), none] [.int sx2, .int sx1, .ref sa0] := by
  obtain ⟨hk1, w⟩ := w
  obtain ⟨j2, hj2a, hj2b, hj2c, w⟩ := w
  refine aw_iastore j2 hk1 hj2a hj2b hj2c d_Mo_piece_114 ?_
  refine aw_aload_n (x := a0) d_Mo_piece_115 rfl ?_
  obtain ⟨hk3, w⟩ := w
  obtain ⟨b4, hb4, w⟩ := w
  refine gs_Mo_31 rfl hk3 hb4 d_Mo_piece_116 ?_
  refine aw_iload_n (x := x1) d_Mo_piece_119 rfl ?_
  refine aw_iconst (v := (1 : Int32)) d_Mo_piece_120 (by decide) ?_
  refine aw_iadd d_Mo_piece_121 ?_
  obtain ⟨hk5, w⟩ := w
  obtain ⟨j6, hj6a, hj6b, hj6c, w⟩ := w
  refine aw_iaload j6 hk5 hj6a hj6b hj6c d_Mo_piece_122 ?_
  refine aw_iconst (v := ((-1) : Int32)) d_Mo_piece_123 (by decide) ?_
  refine aw_icmp_ne (tgt := 145) d_Mo_piece_124 (by decide) (fun cc7 => ?_) (fun cc7 => ?_)
  · replace w := w.1 cc7
    refine aw_aload_n (x := a0) d_Mo_piece_145 rfl ?_
    obtain ⟨b8, hb8, w⟩ := w
    refine gs_Mo_16 rfl hk3 hb8 d_Mo_piece_146 ?_
    refine aw_iconst (v := (4 : Int32)) d_Mo_piece_149 (by decide) ?_
    refine aw_dup2 d_Mo_piece_150 rfl rfl ?_
    obtain ⟨hk9, w⟩ := w
    obtain ⟨j10, hj10a, hj10b, hj10c, w⟩ := w
    refine aw_iaload j10 hk9 hj10a hj10b hj10c d_Mo_piece_151 ?_
    refine aw_iconst (v := (1 : Int32)) d_Mo_piece_152 (by decide) ?_
    refine aw_iadd d_Mo_piece_153 ?_
    refine aw_iastore j10 hk9 hj10a hj10b hj10c d_Mo_piece_154 ?_
    refine aw_iconst (v := (1 : Int32)) d_Mo_piece_155 (by decide) ?_
    exact aw_ireturn .boolean rfl rfl d_Mo_piece_156 w
  · replace w := w.2 cc7
    refine aw_iconst (v := (0 : Int32)) d_Mo_piece_127 (by decide) ?_
    exact aw_ireturn .boolean rfl rfl d_Mo_piece_128 w
set_option maxRecDepth 20000 in
theorem r_Mo_piece_140 {E : zE} {K n : Nat → Nat} {I : Nat → Nat → Int32} {F : Nat → Nat → Option Nat} {J : Nat → Nat → Int64} {cb sb : Nat} {Q : zO → zH → Prop} {a0 : Nat} {sx0 : Int32}
    (w : ((¬ sx0 = 0 → K a0 = 9 ∧ (∃ b3 : Nat, F a0 5 = some b3 ∧ K b3 = 21 ∧ (∃ j5 : Nat, (4 : Int32) = nI j5 ∧ j5 < n b3 ∧ j5 < 2147483648 ∧ Q (.inl (some (.int (1 : Int32)))) (K, n, (zup I b3 j5 ((I b3 j5) + (1 : Int32))), F, J)))) ∧ (sx0 = 0 → Q (.inl (some (.int (0 : Int32)))) (K, n, I, F, J)))) :
    AW E m_Mo_piece (K, n, I, F, J) cb sb Q 140 [some (.ref a0), none, none] [.int sx0] := by
  refine aw_if_ne (tgt := 145) d_Mo_piece_140 (by decide) (fun cc1 => ?_) (fun cc1 => ?_)
  · replace w := w.1 cc1
    refine aw_aload_n (x := a0) d_Mo_piece_145 rfl ?_
    obtain ⟨hk2, w⟩ := w
    obtain ⟨b3, hb3, w⟩ := w
    refine gs_Mo_16 rfl hk2 hb3 d_Mo_piece_146 ?_
    refine aw_iconst (v := (4 : Int32)) d_Mo_piece_149 (by decide) ?_
    refine aw_dup2 d_Mo_piece_150 rfl rfl ?_
    obtain ⟨hk4, w⟩ := w
    obtain ⟨j5, hj5a, hj5b, hj5c, w⟩ := w
    refine aw_iaload j5 hk4 hj5a hj5b hj5c d_Mo_piece_151 ?_
    refine aw_iconst (v := (1 : Int32)) d_Mo_piece_152 (by decide) ?_
    refine aw_iadd d_Mo_piece_153 ?_
    refine aw_iastore j5 hk4 hj5a hj5b hj5c d_Mo_piece_154 ?_
    refine aw_iconst (v := (1 : Int32)) d_Mo_piece_155 (by decide) ?_
    exact aw_ireturn .boolean rfl rfl d_Mo_piece_156 w
  · replace w := w.2 cc1
    refine aw_iconst (v := (0 : Int32)) d_Mo_piece_143 (by decide) ?_
    exact aw_ireturn .boolean rfl rfl d_Mo_piece_144 w
set_option maxRecDepth 20000 in
theorem r_Mo_word_0 {E : zE} {K n : Nat → Nat} {I : Nat → Nat → Int32} {F : Nat → Nat → Option Nat} {J : Nat → Nat → Int64} {cb sb : Nat} {Q : zO → zH → Prop} {a0 : Nat}
    (w : AW E m_Mo_word (K, n, I, F, J) cb sb Q 4 [some (.ref a0), some (.int (0 : Int32)), some (.int (0 : Int32))] []) :
    AW E m_Mo_word (K, n, I, F, J) cb sb Q 0 [some (.ref a0), none, none] [] := by
  refine aw_iconst (v := (0 : Int32)) d_Mo_word_0 (by decide) ?_
  refine aw_istore_n d_Mo_word_1 (by decide) ?_
  refine aw_iconst (v := (0 : Int32)) d_Mo_word_2 (by decide) ?_
  refine aw_istore_n d_Mo_word_3 (by decide) ?_
  exact aw_weak (lv' := [some (.ref a0), some (.int (0 : Int32)), some (.int (0 : Int32))]) ⟨rfl, rfl, rfl, trivial⟩ w
set_option maxRecDepth 20000 in
theorem r_Mo_word_4 {E : zE} {K n : Nat → Nat} {I : Nat → Nat → Int32} {F : Nat → Nat → Option Nat} {J : Nat → Nat → Int64} {cb sb : Nat} {Q : zO → zH → Prop} {a0 : Nat} {x1 : Int32} {x2 : Int32}
    (w : K a0 = 9 ∧ AW E m_Mo_isSmall (K, n, I, F, J) 0 0 (zAft E m_Mo_word cb sb Q 11 [some (.ref a0), some (.int x1), some (.int x2)] []) 0 [some (.ref a0), some (.int ((I a0 3) + x1))] []) :
    AW E m_Mo_word (K, n, I, F, J) cb sb Q 4 [some (.ref a0), some (.int x1), some (.int x2)] [] := by
  refine aw_aload_n (x := a0) d_Mo_word_4 rfl ?_
  refine aw_aload_n (x := a0) d_Mo_word_5 rfl ?_
  obtain ⟨hk1, w⟩ := w
  refine gf_Mo_121 rfl hk1 d_Mo_word_6 ?_
  refine aw_iload_n (x := x1) d_Mo_word_9 rfl ?_
  refine aw_iadd d_Mo_word_10 ?_
  exact aw_room (cb' := 0 + cb) (sb' := 0 + sb) (by omega) (by omega) (aw_weak (lv' := [some (.ref a0), some (.int x1), some (.int x2)]) ⟨rfl, rfl, rfl, trivial⟩ (aw_callV (M' := m_Mo_isSmall) (lv0 := [some (.ref a0), some (.int ((I a0 3) + x1))]) (As := [.int ((I a0 3) + x1)]) (rest := []) 8 989 991 992 rfl (by decide) rfl hk1 tb_989 tb_991 tb_992 (fun U hU => hU.p 36 rfl) rfl rfl 1 0 rfl rfl ⟨by decide, by decide, by decide +kernel, by decide +kernel, by decide, by decide⟩ (Nat.le_of_ble_eq_true rfl) ⟨rfl, rfl, trivial⟩ rfl d_Mo_word_11 w))
set_option maxRecDepth 20000 in
theorem r_Mo_word_14 {E : zE} {K n : Nat → Nat} {I : Nat → Nat → Int32} {F : Nat → Nat → Option Nat} {J : Nat → Nat → Int64} {cb sb : Nat} {Q : zO → zH → Prop} {a0 : Nat} {x1 : Int32} {x2 : Int32} {sx0 : Int32}
    (w : ((sx0 = 0 → K a0 = 9 ∧ ((x1 ≤ (7 : Int32) → ((¬ x1 = (7 : Int32) → ((¬ x2 = (385418 : Int32) → AW E m_Mo_word (K, n, (zup I a0 3 ((I a0 3) + x1)), F, J) cb sb Q 111 [none, some (.int x1), some (.int x2)] []) ∧ (x2 = (385418 : Int32) → ((¬ x1 = (4 : Int32) → AW E m_Mo_word (K, n, (zup I a0 3 ((I a0 3) + x1)), F, J) cb sb Q 111 [none, some (.int x1), some (.int x2)] []) ∧ (x1 = (4 : Int32) → Q (.inl (some (.int (0 : Int32)))) (K, n, (zup I a0 3 ((I a0 3) + x1)), F, J)))))) ∧ (x1 = (7 : Int32) → AW E m_Mo_isInclude (K, n, (zup I a0 3 ((I a0 3) + x1)), F, J) 0 0 (zAft E m_Mo_word cb sb Q 84 [none, none, none] []) 0 [some (.ref a0), some (.int (((zup I a0 3 ((I a0 3) + x1)) a0 3) - (7 : Int32)))] []))) ∧ (¬ x1 ≤ (7 : Int32) → Q (.inl (some (.int ((-1) : Int32)))) (K, n, (zup I a0 3 ((I a0 3) + x1)), F, J)))) ∧ (¬ sx0 = 0 → (((6 : Int32) ≤ x1 → AW E m_Mo_word (K, n, I, F, J) cb sb Q 45 [some (.ref a0), some (.int x1), none] [.int (0 : Int32)]) ∧ (¬ (6 : Int32) ≤ x1 → K a0 = 9 ∧ AW E m_Mo_at (K, n, I, F, J) 0 0 (zAft E m_Mo_word cb sb Q 34 [some (.ref a0), some (.int x1), none] [.int ((27 : Int32) * x2)]) 0 [some (.ref a0), some (.int ((I a0 3) + x1))] []))))) :
    AW E m_Mo_word (K, n, I, F, J) cb sb Q 14 [some (.ref a0), some (.int x1), some (.int x2)] [.int sx0] := by
  refine aw_if_eq (tgt := 52) d_Mo_word_14 (by decide) (fun cc1 => ?_) (fun cc1 => ?_)
  · replace w := w.1 cc1
    refine aw_aload_n (x := a0) d_Mo_word_52 rfl ?_
    refine aw_dup d_Mo_word_53 rfl ?_
    obtain ⟨hk2, w⟩ := w
    refine gf_Mo_121 rfl hk2 d_Mo_word_54 ?_
    refine aw_iload_n (x := x1) d_Mo_word_57 rfl ?_
    refine aw_iadd d_Mo_word_58 ?_
    refine pf_Mo_121 rfl hk2 d_Mo_word_59 ?_
    refine aw_iload_n (x := x1) d_Mo_word_62 rfl ?_
    refine aw_bipush (v := (7 : Int32)) d_Mo_word_63 (by decide) ?_
    refine aw_icmp_le (tgt := 70) d_Mo_word_65 (by decide) (fun cc3 => ?_) (fun cc3 => ?_)
    · replace w := w.1 cc3
      refine aw_iload_n (x := x1) d_Mo_word_70 rfl ?_
      refine aw_bipush (v := (7 : Int32)) d_Mo_word_71 (by decide) ?_
      refine aw_icmp_ne (tgt := 96) d_Mo_word_73 (by decide) (fun cc4 => ?_) (fun cc4 => ?_)
      · replace w := w.1 cc4
        refine aw_iload_n (x := x2) d_Mo_word_96 rfl ?_
        refine aw_ldc (v := 385418) 1001 tb_1001 d_Mo_word_97 ?_
        refine aw_icmp_ne (tgt := 111) d_Mo_word_99 (by decide) (fun cc5 => ?_) (fun cc5 => ?_)
        · replace w := w.1 cc5
          exact aw_weak (lv' := [none, some (.int x1), some (.int x2)]) ⟨rfl, rfl, trivial⟩ w
        · replace w := w.2 cc5
          refine aw_iload_n (x := x1) d_Mo_word_102 rfl ?_
          refine aw_iconst (v := (4 : Int32)) d_Mo_word_103 (by decide) ?_
          refine aw_icmp_ne (tgt := 111) d_Mo_word_104 (by decide) (fun cc6 => ?_) (fun cc6 => ?_)
          · replace w := w.1 cc6
            exact aw_weak (lv' := [none, some (.int x1), some (.int x2)]) ⟨rfl, rfl, trivial⟩ w
          · replace w := w.2 cc6
            refine aw_iconst (v := (0 : Int32)) d_Mo_word_107 (by decide) ?_
            refine aw_goto (tgt := 190) d_Mo_word_108 (by decide) ?_
            exact aw_ireturn .int rfl rfl d_Mo_word_190 w
      · replace w := w.2 cc4
        refine aw_aload_n (x := a0) d_Mo_word_76 rfl ?_
        refine aw_aload_n (x := a0) d_Mo_word_77 rfl ?_
        refine gf_Mo_121 rfl hk2 d_Mo_word_78 ?_
        refine aw_bipush (v := (7 : Int32)) d_Mo_word_81 (by decide) ?_
        refine aw_isub d_Mo_word_83 ?_
        exact aw_room (cb' := 0 + cb) (sb' := 0 + sb) (by omega) (by omega) (aw_weak (lv' := [none, none, none]) trivial (aw_callV (M' := m_Mo_isInclude) (lv0 := [some (.ref a0), some (.int (((zup I a0 3 ((I a0 3) + x1)) a0 3) - (7 : Int32)))]) (As := [.int (((zup I a0 3 ((I a0 3) + x1)) a0 3) - (7 : Int32))]) (rest := []) 8 997 999 1000 rfl (by decide) rfl hk2 tb_997 tb_999 tb_1000 (fun U hU => hU.p 38 rfl) rfl rfl 1 0 rfl rfl ⟨by decide, by decide, by decide +kernel, by decide +kernel, by decide, by decide⟩ (Nat.le_of_ble_eq_true rfl) ⟨rfl, rfl, trivial⟩ rfl d_Mo_word_84 w))
    · replace w := w.2 cc3
      refine aw_iconst (v := ((-1) : Int32)) d_Mo_word_68 (by decide) ?_
      exact aw_ireturn .int rfl rfl d_Mo_word_69 w
  · replace w := w.2 cc1
    refine aw_iload_n (x := x1) d_Mo_word_17 rfl ?_
    refine aw_bipush (v := (6 : Int32)) d_Mo_word_18 (by decide) ?_
    refine aw_icmp_ge (tgt := 44) d_Mo_word_20 (by decide) (fun cc7 => ?_) (fun cc7 => ?_)
    · replace w := w.1 cc7
      refine aw_iconst (v := (0 : Int32)) d_Mo_word_44 (by decide) ?_
      exact aw_weak (lv' := [some (.ref a0), some (.int x1), none]) ⟨rfl, rfl, trivial⟩ w
    · replace w := w.2 cc7
      refine aw_bipush (v := (27 : Int32)) d_Mo_word_23 (by decide) ?_
      refine aw_iload_n (x := x2) d_Mo_word_25 rfl ?_
      refine aw_imul d_Mo_word_26 ?_
      refine aw_aload_n (x := a0) d_Mo_word_27 rfl ?_
      refine aw_aload_n (x := a0) d_Mo_word_28 rfl ?_
      obtain ⟨hk8, w⟩ := w
      refine gf_Mo_121 rfl hk8 d_Mo_word_29 ?_
      refine aw_iload_n (x := x1) d_Mo_word_32 rfl ?_
      refine aw_iadd d_Mo_word_33 ?_
      exact aw_room (cb' := 0 + cb) (sb' := 0 + sb) (by omega) (by omega) (aw_weak (lv' := [some (.ref a0), some (.int x1), none]) ⟨rfl, rfl, trivial⟩ (aw_callV (M' := m_Mo_at) (lv0 := [some (.ref a0), some (.int ((I a0 3) + x1))]) (As := [.int ((I a0 3) + x1)]) (rest := [.int ((27 : Int32) * x2)]) 8 981 983 984 rfl (by decide) rfl hk8 tb_981 tb_983 tb_984 (fun U hU => hU.p 34 rfl) rfl rfl 1 1 rfl rfl ⟨by decide, by decide, by decide +kernel, by decide +kernel, by decide, by decide⟩ (Nat.le_of_ble_eq_true rfl) ⟨rfl, rfl, trivial⟩ rfl d_Mo_word_34 w))
set_option maxRecDepth 20000 in
theorem r_Mo_word_37 {E : zE} {K n : Nat → Nat} {I : Nat → Nat → Int32} {F : Nat → Nat → Option Nat} {J : Nat → Nat → Int64} {cb sb : Nat} {Q : zO → zH → Prop} {a0 : Nat} {x1 : Int32} {sx0 : Int32} {sx1 : Int32}
    (w : AW E m_Mo_word (K, n, I, F, J) cb sb Q 45 [some (.ref a0), some (.int x1), none] [.int ((sx0 + sx1) - (96 : Int32))]) :
    AW E m_Mo_word (K, n, I, F, J) cb sb Q 37 [some (.ref a0), some (.int x1), none] [.int sx1, .int sx0] := by
  refine aw_iadd d_Mo_word_37 ?_
  refine aw_bipush (v := (96 : Int32)) d_Mo_word_38 (by decide) ?_
  refine aw_isub d_Mo_word_40 ?_
  refine aw_goto (tgt := 45) d_Mo_word_41 (by decide) ?_
  exact aw_weak (lv' := [some (.ref a0), some (.int x1), none]) ⟨rfl, rfl, trivial⟩ w
set_option maxRecDepth 20000 in
theorem r_Mo_word_45 {E : zE} {K n : Nat → Nat} {I : Nat → Nat → Int32} {F : Nat → Nat → Option Nat} {J : Nat → Nat → Int64} {cb sb : Nat} {Q : zO → zH → Prop} {a0 : Nat} {x1 : Int32} {sx0 : Int32}
    (w : AW E m_Mo_word (K, n, I, F, J) cb sb Q 4 [some (.ref a0), some (.int (x1 + (1 : Int32))), some (.int sx0)] []) :
    AW E m_Mo_word (K, n, I, F, J) cb sb Q 45 [some (.ref a0), some (.int x1), none] [.int sx0] := by
  refine aw_istore_n d_Mo_word_45 (by decide) ?_
  refine aw_iinc (v := (x1 + (1 : Int32))) d_Mo_word_46 rfl (by rfl) (by decide) ?_
  refine aw_goto (tgt := 4) d_Mo_word_49 (by decide) ?_
  exact aw_weak (lv' := [some (.ref a0), some (.int (x1 + (1 : Int32))), some (.int sx0)]) ⟨rfl, rfl, rfl, trivial⟩ w
set_option maxRecDepth 20000 in
theorem r_Mo_word_87 {E : zE} {K n : Nat → Nat} {I : Nat → Nat → Int32} {F : Nat → Nat → Option Nat} {J : Nat → Nat → Int64} {cb sb : Nat} {Q : zO → zH → Prop} {sx0 : Int32}
    (w : ((sx0 = 0 → AW E m_Mo_word (K, n, I, F, J) cb sb Q 95 [none, none, none] [.int ((-1) : Int32)]) ∧ (¬ sx0 = 0 → AW E m_Mo_word (K, n, I, F, J) cb sb Q 95 [none, none, none] [.int (1 : Int32)]))) :
    AW E m_Mo_word (K, n, I, F, J) cb sb Q 87 [none, none, none] [.int sx0] := by
  refine aw_if_eq (tgt := 94) d_Mo_word_87 (by decide) (fun cc1 => ?_) (fun cc1 => ?_)
  · replace w := w.1 cc1
    refine aw_iconst (v := ((-1) : Int32)) d_Mo_word_94 (by decide) ?_
    exact aw_weak (lv' := [none, none, none]) trivial w
  · replace w := w.2 cc1
    refine aw_iconst (v := (1 : Int32)) d_Mo_word_90 (by decide) ?_
    refine aw_goto (tgt := 95) d_Mo_word_91 (by decide) ?_
    exact aw_weak (lv' := [none, none, none]) trivial w
set_option maxRecDepth 20000 in
theorem r_Mo_word_95 {E : zE} {K n : Nat → Nat} {I : Nat → Nat → Int32} {F : Nat → Nat → Option Nat} {J : Nat → Nat → Int64} {cb sb : Nat} {Q : zO → zH → Prop} {sx0 : Int32}
    (w : Q (.inl (some (.int sx0))) (K, n, I, F, J)) :
    AW E m_Mo_word (K, n, I, F, J) cb sb Q 95 [none, none, none] [.int sx0] := by
  exact aw_ireturn .int rfl rfl d_Mo_word_95 w
set_option maxRecDepth 20000 in
theorem r_Mo_word_111 {E : zE} {K n : Nat → Nat} {I : Nat → Nat → Int32} {F : Nat → Nat → Option Nat} {J : Nat → Nat → Int64} {cb sb : Nat} {Q : zO → zH → Prop} {x1 : Int32} {x2 : Int32}
    (w : ((¬ x2 = (304985 : Int32) → AW E m_Mo_word (K, n, I, F, J) cb sb Q 126 [none, some (.int x1), some (.int x2)] []) ∧ (x2 = (304985 : Int32) → ((¬ x1 = (4 : Int32) → AW E m_Mo_word (K, n, I, F, J) cb sb Q 126 [none, some (.int x1), some (.int x2)] []) ∧ (x1 = (4 : Int32) → Q (.inl (some (.int (2 : Int32)))) (K, n, I, F, J)))))) :
    AW E m_Mo_word (K, n, I, F, J) cb sb Q 111 [none, some (.int x1), some (.int x2)] [] := by
  refine aw_iload_n (x := x2) d_Mo_word_111 rfl ?_
  refine aw_ldc (v := 304985) 1002 tb_1002 d_Mo_word_112 ?_
  refine aw_icmp_ne (tgt := 126) d_Mo_word_114 (by decide) (fun cc1 => ?_) (fun cc1 => ?_)
  · replace w := w.1 cc1
    exact aw_weak (lv' := [none, some (.int x1), some (.int x2)]) ⟨rfl, rfl, trivial⟩ w
  · replace w := w.2 cc1
    refine aw_iload_n (x := x1) d_Mo_word_117 rfl ?_
    refine aw_iconst (v := (4 : Int32)) d_Mo_word_118 (by decide) ?_
    refine aw_icmp_ne (tgt := 126) d_Mo_word_119 (by decide) (fun cc2 => ?_) (fun cc2 => ?_)
    · replace w := w.1 cc2
      exact aw_weak (lv' := [none, some (.int x1), some (.int x2)]) ⟨rfl, rfl, trivial⟩ w
    · replace w := w.2 cc2
      refine aw_iconst (v := (2 : Int32)) d_Mo_word_122 (by decide) ?_
      refine aw_goto (tgt := 190) d_Mo_word_123 (by decide) ?_
      exact aw_ireturn .int rfl rfl d_Mo_word_190 w
set_option maxRecDepth 20000 in
theorem r_Mo_word_126 {E : zE} {K n : Nat → Nat} {I : Nat → Nat → Int32} {F : Nat → Nat → Option Nat} {J : Nat → Nat → Int64} {cb sb : Nat} {Q : zO → zH → Prop} {x1 : Int32} {x2 : Int32}
    (w : ((¬ x2 = (14431 : Int32) → ((¬ x2 = (11522 : Int32) → ((¬ x2 = (382255 : Int32) → ((¬ x2 = (388978 : Int32) → Q (.inl (some (.int ((-1) : Int32)))) (K, n, I, F, J)) ∧ (x2 = (388978 : Int32) → ((¬ x1 = (4 : Int32) → Q (.inl (some (.int ((-1) : Int32)))) (K, n, I, F, J)) ∧ (x1 = (4 : Int32) → Q (.inl (some (.int (6 : Int32)))) (K, n, I, F, J)))))) ∧ (x2 = (382255 : Int32) → ((¬ x1 = (4 : Int32) → ((¬ x2 = (388978 : Int32) → Q (.inl (some (.int ((-1) : Int32)))) (K, n, I, F, J)) ∧ (x2 = (388978 : Int32) → ((¬ x1 = (4 : Int32) → Q (.inl (some (.int ((-1) : Int32)))) (K, n, I, F, J)) ∧ (x1 = (4 : Int32) → Q (.inl (some (.int (6 : Int32)))) (K, n, I, F, J)))))) ∧ (x1 = (4 : Int32) → Q (.inl (some (.int (5 : Int32)))) (K, n, I, F, J)))))) ∧ (x2 = (11522 : Int32) → ((¬ x1 = (3 : Int32) → ((¬ x2 = (382255 : Int32) → ((¬ x2 = (388978 : Int32) → Q (.inl (some (.int ((-1) : Int32)))) (K, n, I, F, J)) ∧ (x2 = (388978 : Int32) → ((¬ x1 = (4 : Int32) → Q (.inl (some (.int ((-1) : Int32)))) (K, n, I, F, J)) ∧ (x1 = (4 : Int32) → Q (.inl (some (.int (6 : Int32)))) (K, n, I, F, J)))))) ∧ (x2 = (382255 : Int32) → ((¬ x1 = (4 : Int32) → ((¬ x2 = (388978 : Int32) → Q (.inl (some (.int ((-1) : Int32)))) (K, n, I, F, J)) ∧ (x2 = (388978 : Int32) → ((¬ x1 = (4 : Int32) → Q (.inl (some (.int ((-1) : Int32)))) (K, n, I, F, J)) ∧ (x1 = (4 : Int32) → Q (.inl (some (.int (6 : Int32)))) (K, n, I, F, J)))))) ∧ (x1 = (4 : Int32) → Q (.inl (some (.int (5 : Int32)))) (K, n, I, F, J)))))) ∧ (x1 = (3 : Int32) → Q (.inl (some (.int (4 : Int32)))) (K, n, I, F, J)))))) ∧ (x2 = (14431 : Int32) → ((¬ x1 = (3 : Int32) → ((¬ x2 = (11522 : Int32) → ((¬ x2 = (382255 : Int32) → ((¬ x2 = (388978 : Int32) → Q (.inl (some (.int ((-1) : Int32)))) (K, n, I, F, J)) ∧ (x2 = (388978 : Int32) → ((¬ x1 = (4 : Int32) → Q (.inl (some (.int ((-1) : Int32)))) (K, n, I, F, J)) ∧ (x1 = (4 : Int32) → Q (.inl (some (.int (6 : Int32)))) (K, n, I, F, J)))))) ∧ (x2 = (382255 : Int32) → ((¬ x1 = (4 : Int32) → ((¬ x2 = (388978 : Int32) → Q (.inl (some (.int ((-1) : Int32)))) (K, n, I, F, J)) ∧ (x2 = (388978 : Int32) → ((¬ x1 = (4 : Int32) → Q (.inl (some (.int ((-1) : Int32)))) (K, n, I, F, J)) ∧ (x1 = (4 : Int32) → Q (.inl (some (.int (6 : Int32)))) (K, n, I, F, J)))))) ∧ (x1 = (4 : Int32) → Q (.inl (some (.int (5 : Int32)))) (K, n, I, F, J)))))) ∧ (x2 = (11522 : Int32) → ((¬ x1 = (3 : Int32) → ((¬ x2 = (382255 : Int32) → ((¬ x2 = (388978 : Int32) → Q (.inl (some (.int ((-1) : Int32)))) (K, n, I, F, J)) ∧ (x2 = (388978 : Int32) → ((¬ x1 = (4 : Int32) → Q (.inl (some (.int ((-1) : Int32)))) (K, n, I, F, J)) ∧ (x1 = (4 : Int32) → Q (.inl (some (.int (6 : Int32)))) (K, n, I, F, J)))))) ∧ (x2 = (382255 : Int32) → ((¬ x1 = (4 : Int32) → ((¬ x2 = (388978 : Int32) → Q (.inl (some (.int ((-1) : Int32)))) (K, n, I, F, J)) ∧ (x2 = (388978 : Int32) → ((¬ x1 = (4 : Int32) → Q (.inl (some (.int ((-1) : Int32)))) (K, n, I, F, J)) ∧ (x1 = (4 : Int32) → Q (.inl (some (.int (6 : Int32)))) (K, n, I, F, J)))))) ∧ (x1 = (4 : Int32) → Q (.inl (some (.int (5 : Int32)))) (K, n, I, F, J)))))) ∧ (x1 = (3 : Int32) → Q (.inl (some (.int (4 : Int32)))) (K, n, I, F, J)))))) ∧ (x1 = (3 : Int32) → Q (.inl (some (.int (3 : Int32)))) (K, n, I, F, J)))))) :
    AW E m_Mo_word (K, n, I, F, J) cb sb Q 126 [none, some (.int x1), some (.int x2)] [] := by
  refine aw_iload_n (x := x2) d_Mo_word_126 rfl ?_
  refine aw_sipush (v := (14431 : Int32)) d_Mo_word_127 (by decide) ?_
  refine aw_icmp_ne (tgt := 142) d_Mo_word_130 (by decide) (fun cc1 => ?_) (fun cc1 => ?_)
  · replace w := w.1 cc1
    refine aw_iload_n (x := x2) d_Mo_word_142 rfl ?_
    refine aw_sipush (v := (11522 : Int32)) d_Mo_word_143 (by decide) ?_
    refine aw_icmp_ne (tgt := 158) d_Mo_word_146 (by decide) (fun cc2 => ?_) (fun cc2 => ?_)
    · replace w := w.1 cc2
      refine aw_iload_n (x := x2) d_Mo_word_158 rfl ?_
      refine aw_ldc (v := 382255) 1003 tb_1003 d_Mo_word_159 ?_
      refine aw_icmp_ne (tgt := 173) d_Mo_word_161 (by decide) (fun cc3 => ?_) (fun cc3 => ?_)
      · replace w := w.1 cc3
        refine aw_iload_n (x := x2) d_Mo_word_173 rfl ?_
        refine aw_ldc (v := 388978) 1004 tb_1004 d_Mo_word_174 ?_
        refine aw_icmp_ne (tgt := 189) d_Mo_word_176 (by decide) (fun cc4 => ?_) (fun cc4 => ?_)
        · replace w := w.1 cc4
          refine aw_iconst (v := ((-1) : Int32)) d_Mo_word_189 (by decide) ?_
          exact aw_ireturn .int rfl rfl d_Mo_word_190 w
        · replace w := w.2 cc4
          refine aw_iload_n (x := x1) d_Mo_word_179 rfl ?_
          refine aw_iconst (v := (4 : Int32)) d_Mo_word_180 (by decide) ?_
          refine aw_icmp_ne (tgt := 189) d_Mo_word_181 (by decide) (fun cc5 => ?_) (fun cc5 => ?_)
          · replace w := w.1 cc5
            refine aw_iconst (v := ((-1) : Int32)) d_Mo_word_189 (by decide) ?_
            exact aw_ireturn .int rfl rfl d_Mo_word_190 w
          · replace w := w.2 cc5
            refine aw_bipush (v := (6 : Int32)) d_Mo_word_184 (by decide) ?_
            refine aw_goto (tgt := 190) d_Mo_word_186 (by decide) ?_
            exact aw_ireturn .int rfl rfl d_Mo_word_190 w
      · replace w := w.2 cc3
        refine aw_iload_n (x := x1) d_Mo_word_164 rfl ?_
        refine aw_iconst (v := (4 : Int32)) d_Mo_word_165 (by decide) ?_
        refine aw_icmp_ne (tgt := 173) d_Mo_word_166 (by decide) (fun cc6 => ?_) (fun cc6 => ?_)
        · replace w := w.1 cc6
          refine aw_iload_n (x := x2) d_Mo_word_173 rfl ?_
          refine aw_ldc (v := 388978) 1004 tb_1004 d_Mo_word_174 ?_
          refine aw_icmp_ne (tgt := 189) d_Mo_word_176 (by decide) (fun cc7 => ?_) (fun cc7 => ?_)
          · replace w := w.1 cc7
            refine aw_iconst (v := ((-1) : Int32)) d_Mo_word_189 (by decide) ?_
            exact aw_ireturn .int rfl rfl d_Mo_word_190 w
          · replace w := w.2 cc7
            refine aw_iload_n (x := x1) d_Mo_word_179 rfl ?_
            refine aw_iconst (v := (4 : Int32)) d_Mo_word_180 (by decide) ?_
            refine aw_icmp_ne (tgt := 189) d_Mo_word_181 (by decide) (fun cc8 => ?_) (fun cc8 => ?_)
            · replace w := w.1 cc8
              refine aw_iconst (v := ((-1) : Int32)) d_Mo_word_189 (by decide) ?_
              exact aw_ireturn .int rfl rfl d_Mo_word_190 w
            · replace w := w.2 cc8
              refine aw_bipush (v := (6 : Int32)) d_Mo_word_184 (by decide) ?_
              refine aw_goto (tgt := 190) d_Mo_word_186 (by decide) ?_
              exact aw_ireturn .int rfl rfl d_Mo_word_190 w
        · replace w := w.2 cc6
          refine aw_iconst (v := (5 : Int32)) d_Mo_word_169 (by decide) ?_
          refine aw_goto (tgt := 190) d_Mo_word_170 (by decide) ?_
          exact aw_ireturn .int rfl rfl d_Mo_word_190 w
    · replace w := w.2 cc2
      refine aw_iload_n (x := x1) d_Mo_word_149 rfl ?_
      refine aw_iconst (v := (3 : Int32)) d_Mo_word_150 (by decide) ?_
      refine aw_icmp_ne (tgt := 158) d_Mo_word_151 (by decide) (fun cc9 => ?_) (fun cc9 => ?_)
      · replace w := w.1 cc9
        refine aw_iload_n (x := x2) d_Mo_word_158 rfl ?_
        refine aw_ldc (v := 382255) 1003 tb_1003 d_Mo_word_159 ?_
        refine aw_icmp_ne (tgt := 173) d_Mo_word_161 (by decide) (fun cc10 => ?_) (fun cc10 => ?_)
        · replace w := w.1 cc10
          refine aw_iload_n (x := x2) d_Mo_word_173 rfl ?_
          refine aw_ldc (v := 388978) 1004 tb_1004 d_Mo_word_174 ?_
          refine aw_icmp_ne (tgt := 189) d_Mo_word_176 (by decide) (fun cc11 => ?_) (fun cc11 => ?_)
          · replace w := w.1 cc11
            refine aw_iconst (v := ((-1) : Int32)) d_Mo_word_189 (by decide) ?_
            exact aw_ireturn .int rfl rfl d_Mo_word_190 w
          · replace w := w.2 cc11
            refine aw_iload_n (x := x1) d_Mo_word_179 rfl ?_
            refine aw_iconst (v := (4 : Int32)) d_Mo_word_180 (by decide) ?_
            refine aw_icmp_ne (tgt := 189) d_Mo_word_181 (by decide) (fun cc12 => ?_) (fun cc12 => ?_)
            · replace w := w.1 cc12
              refine aw_iconst (v := ((-1) : Int32)) d_Mo_word_189 (by decide) ?_
              exact aw_ireturn .int rfl rfl d_Mo_word_190 w
            · replace w := w.2 cc12
              refine aw_bipush (v := (6 : Int32)) d_Mo_word_184 (by decide) ?_
              refine aw_goto (tgt := 190) d_Mo_word_186 (by decide) ?_
              exact aw_ireturn .int rfl rfl d_Mo_word_190 w
        · replace w := w.2 cc10
          refine aw_iload_n (x := x1) d_Mo_word_164 rfl ?_
          refine aw_iconst (v := (4 : Int32)) d_Mo_word_165 (by decide) ?_
          refine aw_icmp_ne (tgt := 173) d_Mo_word_166 (by decide) (fun cc13 => ?_) (fun cc13 => ?_)
          · replace w := w.1 cc13
            refine aw_iload_n (x := x2) d_Mo_word_173 rfl ?_
            refine aw_ldc (v := 388978) 1004 tb_1004 d_Mo_word_174 ?_
            refine aw_icmp_ne (tgt := 189) d_Mo_word_176 (by decide) (fun cc14 => ?_) (fun cc14 => ?_)
            · replace w := w.1 cc14
              refine aw_iconst (v := ((-1) : Int32)) d_Mo_word_189 (by decide) ?_
              exact aw_ireturn .int rfl rfl d_Mo_word_190 w
            · replace w := w.2 cc14
              refine aw_iload_n (x := x1) d_Mo_word_179 rfl ?_
              refine aw_iconst (v := (4 : Int32)) d_Mo_word_180 (by decide) ?_
              refine aw_icmp_ne (tgt := 189) d_Mo_word_181 (by decide) (fun cc15 => ?_) (fun cc15 => ?_)
              · replace w := w.1 cc15
                refine aw_iconst (v := ((-1) : Int32)) d_Mo_word_189 (by decide) ?_
                exact aw_ireturn .int rfl rfl d_Mo_word_190 w
              · replace w := w.2 cc15
                refine aw_bipush (v := (6 : Int32)) d_Mo_word_184 (by decide) ?_
                refine aw_goto (tgt := 190) d_Mo_word_186 (by decide) ?_
                exact aw_ireturn .int rfl rfl d_Mo_word_190 w
          · replace w := w.2 cc13
            refine aw_iconst (v := (5 : Int32)) d_Mo_word_169 (by decide) ?_
            refine aw_goto (tgt := 190) d_Mo_word_170 (by decide) ?_
            exact aw_ireturn .int rfl rfl d_Mo_word_190 w
      · replace w := w.2 cc9
        refine aw_iconst (v := (4 : Int32)) d_Mo_word_154 (by decide) ?_
        refine aw_goto (tgt := 190) d_Mo_word_155 (by decide) ?_
        exact aw_ireturn .int rfl rfl d_Mo_word_190 w
  · replace w := w.2 cc1
    refine aw_iload_n (x := x1) d_Mo_word_133 rfl ?_
    refine aw_iconst (v := (3 : Int32)) d_Mo_word_134 (by decide) ?_
    refine aw_icmp_ne (tgt := 142) d_Mo_word_135 (by decide) (fun cc16 => ?_) (fun cc16 => ?_)
    · replace w := w.1 cc16
      refine aw_iload_n (x := x2) d_Mo_word_142 rfl ?_
      refine aw_sipush (v := (11522 : Int32)) d_Mo_word_143 (by decide) ?_
      refine aw_icmp_ne (tgt := 158) d_Mo_word_146 (by decide) (fun cc17 => ?_) (fun cc17 => ?_)
      · replace w := w.1 cc17
        refine aw_iload_n (x := x2) d_Mo_word_158 rfl ?_
        refine aw_ldc (v := 382255) 1003 tb_1003 d_Mo_word_159 ?_
        refine aw_icmp_ne (tgt := 173) d_Mo_word_161 (by decide) (fun cc18 => ?_) (fun cc18 => ?_)
        · replace w := w.1 cc18
          refine aw_iload_n (x := x2) d_Mo_word_173 rfl ?_
          refine aw_ldc (v := 388978) 1004 tb_1004 d_Mo_word_174 ?_
          refine aw_icmp_ne (tgt := 189) d_Mo_word_176 (by decide) (fun cc19 => ?_) (fun cc19 => ?_)
          · replace w := w.1 cc19
            refine aw_iconst (v := ((-1) : Int32)) d_Mo_word_189 (by decide) ?_
            exact aw_ireturn .int rfl rfl d_Mo_word_190 w
          · replace w := w.2 cc19
            refine aw_iload_n (x := x1) d_Mo_word_179 rfl ?_
            refine aw_iconst (v := (4 : Int32)) d_Mo_word_180 (by decide) ?_
            refine aw_icmp_ne (tgt := 189) d_Mo_word_181 (by decide) (fun cc20 => ?_) (fun cc20 => ?_)
            · replace w := w.1 cc20
              refine aw_iconst (v := ((-1) : Int32)) d_Mo_word_189 (by decide) ?_
              exact aw_ireturn .int rfl rfl d_Mo_word_190 w
            · replace w := w.2 cc20
              refine aw_bipush (v := (6 : Int32)) d_Mo_word_184 (by decide) ?_
              refine aw_goto (tgt := 190) d_Mo_word_186 (by decide) ?_
              exact aw_ireturn .int rfl rfl d_Mo_word_190 w
        · replace w := w.2 cc18
          refine aw_iload_n (x := x1) d_Mo_word_164 rfl ?_
          refine aw_iconst (v := (4 : Int32)) d_Mo_word_165 (by decide) ?_
          refine aw_icmp_ne (tgt := 173) d_Mo_word_166 (by decide) (fun cc21 => ?_) (fun cc21 => ?_)
          · replace w := w.1 cc21
            refine aw_iload_n (x := x2) d_Mo_word_173 rfl ?_
            refine aw_ldc (v := 388978) 1004 tb_1004 d_Mo_word_174 ?_
            refine aw_icmp_ne (tgt := 189) d_Mo_word_176 (by decide) (fun cc22 => ?_) (fun cc22 => ?_)
            · replace w := w.1 cc22
              refine aw_iconst (v := ((-1) : Int32)) d_Mo_word_189 (by decide) ?_
              exact aw_ireturn .int rfl rfl d_Mo_word_190 w
            · replace w := w.2 cc22
              refine aw_iload_n (x := x1) d_Mo_word_179 rfl ?_
              refine aw_iconst (v := (4 : Int32)) d_Mo_word_180 (by decide) ?_
              refine aw_icmp_ne (tgt := 189) d_Mo_word_181 (by decide) (fun cc23 => ?_) (fun cc23 => ?_)
              · replace w := w.1 cc23
                refine aw_iconst (v := ((-1) : Int32)) d_Mo_word_189 (by decide) ?_
                exact aw_ireturn .int rfl rfl d_Mo_word_190 w
              · replace w := w.2 cc23
                refine aw_bipush (v := (6 : Int32)) d_Mo_word_184 (by decide) ?_
                refine aw_goto (tgt := 190) d_Mo_word_186 (by decide) ?_
                exact aw_ireturn .int rfl rfl d_Mo_word_190 w
          · replace w := w.2 cc21
            refine aw_iconst (v := (5 : Int32)) d_Mo_word_169 (by decide) ?_
            refine aw_goto (tgt := 190) d_Mo_word_170 (by decide) ?_
            exact aw_ireturn .int rfl rfl d_Mo_word_190 w
      · replace w := w.2 cc17
        refine aw_iload_n (x := x1) d_Mo_word_149 rfl ?_
        refine aw_iconst (v := (3 : Int32)) d_Mo_word_150 (by decide) ?_
        refine aw_icmp_ne (tgt := 158) d_Mo_word_151 (by decide) (fun cc24 => ?_) (fun cc24 => ?_)
        · replace w := w.1 cc24
          refine aw_iload_n (x := x2) d_Mo_word_158 rfl ?_
          refine aw_ldc (v := 382255) 1003 tb_1003 d_Mo_word_159 ?_
          refine aw_icmp_ne (tgt := 173) d_Mo_word_161 (by decide) (fun cc25 => ?_) (fun cc25 => ?_)
          · replace w := w.1 cc25
            refine aw_iload_n (x := x2) d_Mo_word_173 rfl ?_
            refine aw_ldc (v := 388978) 1004 tb_1004 d_Mo_word_174 ?_
            refine aw_icmp_ne (tgt := 189) d_Mo_word_176 (by decide) (fun cc26 => ?_) (fun cc26 => ?_)
            · replace w := w.1 cc26
              refine aw_iconst (v := ((-1) : Int32)) d_Mo_word_189 (by decide) ?_
              exact aw_ireturn .int rfl rfl d_Mo_word_190 w
            · replace w := w.2 cc26
              refine aw_iload_n (x := x1) d_Mo_word_179 rfl ?_
              refine aw_iconst (v := (4 : Int32)) d_Mo_word_180 (by decide) ?_
              refine aw_icmp_ne (tgt := 189) d_Mo_word_181 (by decide) (fun cc27 => ?_) (fun cc27 => ?_)
              · replace w := w.1 cc27
                refine aw_iconst (v := ((-1) : Int32)) d_Mo_word_189 (by decide) ?_
                exact aw_ireturn .int rfl rfl d_Mo_word_190 w
              · replace w := w.2 cc27
                refine aw_bipush (v := (6 : Int32)) d_Mo_word_184 (by decide) ?_
                refine aw_goto (tgt := 190) d_Mo_word_186 (by decide) ?_
                exact aw_ireturn .int rfl rfl d_Mo_word_190 w
          · replace w := w.2 cc25
            refine aw_iload_n (x := x1) d_Mo_word_164 rfl ?_
            refine aw_iconst (v := (4 : Int32)) d_Mo_word_165 (by decide) ?_
            refine aw_icmp_ne (tgt := 173) d_Mo_word_166 (by decide) (fun cc28 => ?_) (fun cc28 => ?_)
            · replace w := w.1 cc28
              refine aw_iload_n (x := x2) d_Mo_word_173 rfl ?_
              refine aw_ldc (v := 388978) 1004 tb_1004 d_Mo_word_174 ?_
              refine aw_icmp_ne (tgt := 189) d_Mo_word_176 (by decide) (fun cc29 => ?_) (fun cc29 => ?_)
              · replace w := w.1 cc29
                refine aw_iconst (v := ((-1) : Int32)) d_Mo_word_189 (by decide) ?_
                exact aw_ireturn .int rfl rfl d_Mo_word_190 w
              · replace w := w.2 cc29
                refine aw_iload_n (x := x1) d_Mo_word_179 rfl ?_
                refine aw_iconst (v := (4 : Int32)) d_Mo_word_180 (by decide) ?_
                refine aw_icmp_ne (tgt := 189) d_Mo_word_181 (by decide) (fun cc30 => ?_) (fun cc30 => ?_)
                · replace w := w.1 cc30
                  refine aw_iconst (v := ((-1) : Int32)) d_Mo_word_189 (by decide) ?_
                  exact aw_ireturn .int rfl rfl d_Mo_word_190 w
                · replace w := w.2 cc30
                  refine aw_bipush (v := (6 : Int32)) d_Mo_word_184 (by decide) ?_
                  refine aw_goto (tgt := 190) d_Mo_word_186 (by decide) ?_
                  exact aw_ireturn .int rfl rfl d_Mo_word_190 w
            · replace w := w.2 cc28
              refine aw_iconst (v := (5 : Int32)) d_Mo_word_169 (by decide) ?_
              refine aw_goto (tgt := 190) d_Mo_word_170 (by decide) ?_
              exact aw_ireturn .int rfl rfl d_Mo_word_190 w
        · replace w := w.2 cc24
          refine aw_iconst (v := (4 : Int32)) d_Mo_word_154 (by decide) ?_
          refine aw_goto (tgt := 190) d_Mo_word_155 (by decide) ?_
          exact aw_ireturn .int rfl rfl d_Mo_word_190 w
    · replace w := w.2 cc16
      refine aw_iconst (v := (3 : Int32)) d_Mo_word_138 (by decide) ?_
      refine aw_goto (tgt := 190) d_Mo_word_139 (by decide) ?_
      exact aw_ireturn .int rfl rfl d_Mo_word_190 w
set_option maxRecDepth 20000 in
theorem r_Mo_isInclude_0 {E : zE} {K n : Nat → Nat} {I : Nat → Nat → Int32} {F : Nat → Nat → Option Nat} {J : Nat → Nat → Int64} {cb sb : Nat} {Q : zO → zH → Prop} {a0 : Nat} {x1 : Int32}
    (w : K a0 = 9 ∧ AW E m_Mo_at (K, n, I, F, J) 0 0 (zAft E m_Mo_isInclude cb sb Q 2 [some (.ref a0), some (.int x1)] []) 0 [some (.ref a0), some (.int x1)] []) :
    AW E m_Mo_isInclude (K, n, I, F, J) cb sb Q 0 [some (.ref a0), some (.int x1)] [] := by
  refine aw_aload_n (x := a0) d_Mo_isInclude_0 rfl ?_
  refine aw_iload_n (x := x1) d_Mo_isInclude_1 rfl ?_
  obtain ⟨hk1, w⟩ := w
  exact aw_room (cb' := 0 + cb) (sb' := 0 + sb) (by omega) (by omega) (aw_weak (lv' := [some (.ref a0), some (.int x1)]) ⟨rfl, rfl, trivial⟩ (aw_callV (M' := m_Mo_at) (lv0 := [some (.ref a0), some (.int x1)]) (As := [.int x1]) (rest := []) 8 981 983 984 rfl (by decide) rfl hk1 tb_981 tb_983 tb_984 (fun U hU => hU.p 34 rfl) rfl rfl 1 0 rfl rfl ⟨by decide, by decide, by decide +kernel, by decide +kernel, by decide, by decide⟩ (Nat.le_of_ble_eq_true rfl) ⟨rfl, rfl, trivial⟩ rfl d_Mo_isInclude_2 w))
set_option maxRecDepth 20000 in
theorem r_Mo_isInclude_5 {E : zE} {K n : Nat → Nat} {I : Nat → Nat → Int32} {F : Nat → Nat → Option Nat} {J : Nat → Nat → Int64} {cb sb : Nat} {Q : zO → zH → Prop} {a0 : Nat} {x1 : Int32} {sx0 : Int32}
    (w : ((¬ sx0 = (105 : Int32) → Q (.inl (some (.int (0 : Int32)))) (K, n, I, F, J)) ∧ (sx0 = (105 : Int32) → K a0 = 9 ∧ AW E m_Mo_at (K, n, I, F, J) 0 0 (zAft E m_Mo_isInclude cb sb Q 14 [some (.ref a0), some (.int x1)] []) 0 [some (.ref a0), some (.int (x1 + (1 : Int32)))] []))) :
    AW E m_Mo_isInclude (K, n, I, F, J) cb sb Q 5 [some (.ref a0), some (.int x1)] [.int sx0] := by
  refine aw_bipush (v := (105 : Int32)) d_Mo_isInclude_5 (by decide) ?_
  refine aw_icmp_ne (tgt := 87) d_Mo_isInclude_7 (by decide) (fun cc1 => ?_) (fun cc1 => ?_)
  · replace w := w.1 cc1
    refine aw_iconst (v := (0 : Int32)) d_Mo_isInclude_87 (by decide) ?_
    exact aw_ireturn .boolean rfl rfl d_Mo_isInclude_88 w
  · replace w := w.2 cc1
    refine aw_aload_n (x := a0) d_Mo_isInclude_10 rfl ?_
    refine aw_iload_n (x := x1) d_Mo_isInclude_11 rfl ?_
    refine aw_iconst (v := (1 : Int32)) d_Mo_isInclude_12 (by decide) ?_
    refine aw_iadd d_Mo_isInclude_13 ?_
    obtain ⟨hk2, w⟩ := w
    exact aw_room (cb' := 0 + cb) (sb' := 0 + sb) (by omega) (by omega) (aw_weak (lv' := [some (.ref a0), some (.int x1)]) ⟨rfl, rfl, trivial⟩ (aw_callV (M' := m_Mo_at) (lv0 := [some (.ref a0), some (.int (x1 + (1 : Int32)))]) (As := [.int (x1 + (1 : Int32))]) (rest := []) 8 981 983 984 rfl (by decide) rfl hk2 tb_981 tb_983 tb_984 (fun U hU => hU.p 34 rfl) rfl rfl 1 0 rfl rfl ⟨by decide, by decide, by decide +kernel, by decide +kernel, by decide, by decide⟩ (Nat.le_of_ble_eq_true rfl) ⟨rfl, rfl, trivial⟩ rfl d_Mo_isInclude_14 w))
set_option maxRecDepth 20000 in
theorem r_Mo_isInclude_17 {E : zE} {K n : Nat → Nat} {I : Nat → Nat → Int32} {F : Nat → Nat → Option Nat} {J : Nat → Nat → Int64} {cb sb : Nat} {Q : zO → zH → Prop} {a0 : Nat} {x1 : Int32} {sx0 : Int32}
    (w : ((¬ sx0 = (110 : Int32) → Q (.inl (some (.int (0 : Int32)))) (K, n, I, F, J)) ∧ (sx0 = (110 : Int32) → K a0 = 9 ∧ AW E m_Mo_at (K, n, I, F, J) 0 0 (zAft E m_Mo_isInclude cb sb Q 26 [some (.ref a0), some (.int x1)] []) 0 [some (.ref a0), some (.int (x1 + (2 : Int32)))] []))) :
    AW E m_Mo_isInclude (K, n, I, F, J) cb sb Q 17 [some (.ref a0), some (.int x1)] [.int sx0] := by
  refine aw_bipush (v := (110 : Int32)) d_Mo_isInclude_17 (by decide) ?_
  refine aw_icmp_ne (tgt := 87) d_Mo_isInclude_19 (by decide) (fun cc1 => ?_) (fun cc1 => ?_)
  · replace w := w.1 cc1
    refine aw_iconst (v := (0 : Int32)) d_Mo_isInclude_87 (by decide) ?_
    exact aw_ireturn .boolean rfl rfl d_Mo_isInclude_88 w
  · replace w := w.2 cc1
    refine aw_aload_n (x := a0) d_Mo_isInclude_22 rfl ?_
    refine aw_iload_n (x := x1) d_Mo_isInclude_23 rfl ?_
    refine aw_iconst (v := (2 : Int32)) d_Mo_isInclude_24 (by decide) ?_
    refine aw_iadd d_Mo_isInclude_25 ?_
    obtain ⟨hk2, w⟩ := w
    exact aw_room (cb' := 0 + cb) (sb' := 0 + sb) (by omega) (by omega) (aw_weak (lv' := [some (.ref a0), some (.int x1)]) ⟨rfl, rfl, trivial⟩ (aw_callV (M' := m_Mo_at) (lv0 := [some (.ref a0), some (.int (x1 + (2 : Int32)))]) (As := [.int (x1 + (2 : Int32))]) (rest := []) 8 981 983 984 rfl (by decide) rfl hk2 tb_981 tb_983 tb_984 (fun U hU => hU.p 34 rfl) rfl rfl 1 0 rfl rfl ⟨by decide, by decide, by decide +kernel, by decide +kernel, by decide, by decide⟩ (Nat.le_of_ble_eq_true rfl) ⟨rfl, rfl, trivial⟩ rfl d_Mo_isInclude_26 w))
set_option maxRecDepth 20000 in
theorem r_Mo_isInclude_29 {E : zE} {K n : Nat → Nat} {I : Nat → Nat → Int32} {F : Nat → Nat → Option Nat} {J : Nat → Nat → Int64} {cb sb : Nat} {Q : zO → zH → Prop} {a0 : Nat} {x1 : Int32} {sx0 : Int32}
    (w : ((¬ sx0 = (99 : Int32) → Q (.inl (some (.int (0 : Int32)))) (K, n, I, F, J)) ∧ (sx0 = (99 : Int32) → K a0 = 9 ∧ AW E m_Mo_at (K, n, I, F, J) 0 0 (zAft E m_Mo_isInclude cb sb Q 38 [some (.ref a0), some (.int x1)] []) 0 [some (.ref a0), some (.int (x1 + (3 : Int32)))] []))) :
    AW E m_Mo_isInclude (K, n, I, F, J) cb sb Q 29 [some (.ref a0), some (.int x1)] [.int sx0] := by
  refine aw_bipush (v := (99 : Int32)) d_Mo_isInclude_29 (by decide) ?_
  refine aw_icmp_ne (tgt := 87) d_Mo_isInclude_31 (by decide) (fun cc1 => ?_) (fun cc1 => ?_)
  · replace w := w.1 cc1
    refine aw_iconst (v := (0 : Int32)) d_Mo_isInclude_87 (by decide) ?_
    exact aw_ireturn .boolean rfl rfl d_Mo_isInclude_88 w
  · replace w := w.2 cc1
    refine aw_aload_n (x := a0) d_Mo_isInclude_34 rfl ?_
    refine aw_iload_n (x := x1) d_Mo_isInclude_35 rfl ?_
    refine aw_iconst (v := (3 : Int32)) d_Mo_isInclude_36 (by decide) ?_
    refine aw_iadd d_Mo_isInclude_37 ?_
    obtain ⟨hk2, w⟩ := w
    exact aw_room (cb' := 0 + cb) (sb' := 0 + sb) (by omega) (by omega) (aw_weak (lv' := [some (.ref a0), some (.int x1)]) ⟨rfl, rfl, trivial⟩ (aw_callV (M' := m_Mo_at) (lv0 := [some (.ref a0), some (.int (x1 + (3 : Int32)))]) (As := [.int (x1 + (3 : Int32))]) (rest := []) 8 981 983 984 rfl (by decide) rfl hk2 tb_981 tb_983 tb_984 (fun U hU => hU.p 34 rfl) rfl rfl 1 0 rfl rfl ⟨by decide, by decide, by decide +kernel, by decide +kernel, by decide, by decide⟩ (Nat.le_of_ble_eq_true rfl) ⟨rfl, rfl, trivial⟩ rfl d_Mo_isInclude_38 w))
set_option maxRecDepth 20000 in
theorem r_Mo_isInclude_41 {E : zE} {K n : Nat → Nat} {I : Nat → Nat → Int32} {F : Nat → Nat → Option Nat} {J : Nat → Nat → Int64} {cb sb : Nat} {Q : zO → zH → Prop} {a0 : Nat} {x1 : Int32} {sx0 : Int32}
    (w : ((¬ sx0 = (108 : Int32) → Q (.inl (some (.int (0 : Int32)))) (K, n, I, F, J)) ∧ (sx0 = (108 : Int32) → K a0 = 9 ∧ AW E m_Mo_at (K, n, I, F, J) 0 0 (zAft E m_Mo_isInclude cb sb Q 50 [some (.ref a0), some (.int x1)] []) 0 [some (.ref a0), some (.int (x1 + (4 : Int32)))] []))) :
    AW E m_Mo_isInclude (K, n, I, F, J) cb sb Q 41 [some (.ref a0), some (.int x1)] [.int sx0] := by
  refine aw_bipush (v := (108 : Int32)) d_Mo_isInclude_41 (by decide) ?_
  refine aw_icmp_ne (tgt := 87) d_Mo_isInclude_43 (by decide) (fun cc1 => ?_) (fun cc1 => ?_)
  · replace w := w.1 cc1
    refine aw_iconst (v := (0 : Int32)) d_Mo_isInclude_87 (by decide) ?_
    exact aw_ireturn .boolean rfl rfl d_Mo_isInclude_88 w
  · replace w := w.2 cc1
    refine aw_aload_n (x := a0) d_Mo_isInclude_46 rfl ?_
    refine aw_iload_n (x := x1) d_Mo_isInclude_47 rfl ?_
    refine aw_iconst (v := (4 : Int32)) d_Mo_isInclude_48 (by decide) ?_
    refine aw_iadd d_Mo_isInclude_49 ?_
    obtain ⟨hk2, w⟩ := w
    exact aw_room (cb' := 0 + cb) (sb' := 0 + sb) (by omega) (by omega) (aw_weak (lv' := [some (.ref a0), some (.int x1)]) ⟨rfl, rfl, trivial⟩ (aw_callV (M' := m_Mo_at) (lv0 := [some (.ref a0), some (.int (x1 + (4 : Int32)))]) (As := [.int (x1 + (4 : Int32))]) (rest := []) 8 981 983 984 rfl (by decide) rfl hk2 tb_981 tb_983 tb_984 (fun U hU => hU.p 34 rfl) rfl rfl 1 0 rfl rfl ⟨by decide, by decide, by decide +kernel, by decide +kernel, by decide, by decide⟩ (Nat.le_of_ble_eq_true rfl) ⟨rfl, rfl, trivial⟩ rfl d_Mo_isInclude_50 w))
set_option maxRecDepth 20000 in
theorem r_Mo_isInclude_53 {E : zE} {K n : Nat → Nat} {I : Nat → Nat → Int32} {F : Nat → Nat → Option Nat} {J : Nat → Nat → Int64} {cb sb : Nat} {Q : zO → zH → Prop} {a0 : Nat} {x1 : Int32} {sx0 : Int32}
    (w : ((¬ sx0 = (117 : Int32) → Q (.inl (some (.int (0 : Int32)))) (K, n, I, F, J)) ∧ (sx0 = (117 : Int32) → K a0 = 9 ∧ AW E m_Mo_at (K, n, I, F, J) 0 0 (zAft E m_Mo_isInclude cb sb Q 62 [some (.ref a0), some (.int x1)] []) 0 [some (.ref a0), some (.int (x1 + (5 : Int32)))] []))) :
    AW E m_Mo_isInclude (K, n, I, F, J) cb sb Q 53 [some (.ref a0), some (.int x1)] [.int sx0] := by
  refine aw_bipush (v := (117 : Int32)) d_Mo_isInclude_53 (by decide) ?_
  refine aw_icmp_ne (tgt := 87) d_Mo_isInclude_55 (by decide) (fun cc1 => ?_) (fun cc1 => ?_)
  · replace w := w.1 cc1
    refine aw_iconst (v := (0 : Int32)) d_Mo_isInclude_87 (by decide) ?_
    exact aw_ireturn .boolean rfl rfl d_Mo_isInclude_88 w
  · replace w := w.2 cc1
    refine aw_aload_n (x := a0) d_Mo_isInclude_58 rfl ?_
    refine aw_iload_n (x := x1) d_Mo_isInclude_59 rfl ?_
    refine aw_iconst (v := (5 : Int32)) d_Mo_isInclude_60 (by decide) ?_
    refine aw_iadd d_Mo_isInclude_61 ?_
    obtain ⟨hk2, w⟩ := w
    exact aw_room (cb' := 0 + cb) (sb' := 0 + sb) (by omega) (by omega) (aw_weak (lv' := [some (.ref a0), some (.int x1)]) ⟨rfl, rfl, trivial⟩ (aw_callV (M' := m_Mo_at) (lv0 := [some (.ref a0), some (.int (x1 + (5 : Int32)))]) (As := [.int (x1 + (5 : Int32))]) (rest := []) 8 981 983 984 rfl (by decide) rfl hk2 tb_981 tb_983 tb_984 (fun U hU => hU.p 34 rfl) rfl rfl 1 0 rfl rfl ⟨by decide, by decide, by decide +kernel, by decide +kernel, by decide, by decide⟩ (Nat.le_of_ble_eq_true rfl) ⟨rfl, rfl, trivial⟩ rfl d_Mo_isInclude_62 w))
set_option maxRecDepth 20000 in
theorem r_Mo_isInclude_65 {E : zE} {K n : Nat → Nat} {I : Nat → Nat → Int32} {F : Nat → Nat → Option Nat} {J : Nat → Nat → Int64} {cb sb : Nat} {Q : zO → zH → Prop} {a0 : Nat} {x1 : Int32} {sx0 : Int32}
    (w : ((¬ sx0 = (100 : Int32) → Q (.inl (some (.int (0 : Int32)))) (K, n, I, F, J)) ∧ (sx0 = (100 : Int32) → K a0 = 9 ∧ AW E m_Mo_at (K, n, I, F, J) 0 0 (zAft E m_Mo_isInclude cb sb Q 75 [none, none] []) 0 [some (.ref a0), some (.int (x1 + (6 : Int32)))] []))) :
    AW E m_Mo_isInclude (K, n, I, F, J) cb sb Q 65 [some (.ref a0), some (.int x1)] [.int sx0] := by
  refine aw_bipush (v := (100 : Int32)) d_Mo_isInclude_65 (by decide) ?_
  refine aw_icmp_ne (tgt := 87) d_Mo_isInclude_67 (by decide) (fun cc1 => ?_) (fun cc1 => ?_)
  · replace w := w.1 cc1
    refine aw_iconst (v := (0 : Int32)) d_Mo_isInclude_87 (by decide) ?_
    exact aw_ireturn .boolean rfl rfl d_Mo_isInclude_88 w
  · replace w := w.2 cc1
    refine aw_aload_n (x := a0) d_Mo_isInclude_70 rfl ?_
    refine aw_iload_n (x := x1) d_Mo_isInclude_71 rfl ?_
    refine aw_bipush (v := (6 : Int32)) d_Mo_isInclude_72 (by decide) ?_
    refine aw_iadd d_Mo_isInclude_74 ?_
    obtain ⟨hk2, w⟩ := w
    exact aw_room (cb' := 0 + cb) (sb' := 0 + sb) (by omega) (by omega) (aw_weak (lv' := [none, none]) trivial (aw_callV (M' := m_Mo_at) (lv0 := [some (.ref a0), some (.int (x1 + (6 : Int32)))]) (As := [.int (x1 + (6 : Int32))]) (rest := []) 8 981 983 984 rfl (by decide) rfl hk2 tb_981 tb_983 tb_984 (fun U hU => hU.p 34 rfl) rfl rfl 1 0 rfl rfl ⟨by decide, by decide, by decide +kernel, by decide +kernel, by decide, by decide⟩ (Nat.le_of_ble_eq_true rfl) ⟨rfl, rfl, trivial⟩ rfl d_Mo_isInclude_75 w))
set_option maxRecDepth 20000 in
theorem r_Mo_isInclude_78 {E : zE} {K n : Nat → Nat} {I : Nat → Nat → Int32} {F : Nat → Nat → Option Nat} {J : Nat → Nat → Int64} {cb sb : Nat} {Q : zO → zH → Prop} {sx0 : Int32}
    (w : ((¬ sx0 = (101 : Int32) → Q (.inl (some (.int (0 : Int32)))) (K, n, I, F, J)) ∧ (sx0 = (101 : Int32) → Q (.inl (some (.int (1 : Int32)))) (K, n, I, F, J)))) :
    AW E m_Mo_isInclude (K, n, I, F, J) cb sb Q 78 [none, none] [.int sx0] := by
  refine aw_bipush (v := (101 : Int32)) d_Mo_isInclude_78 (by decide) ?_
  refine aw_icmp_ne (tgt := 87) d_Mo_isInclude_80 (by decide) (fun cc1 => ?_) (fun cc1 => ?_)
  · replace w := w.1 cc1
    refine aw_iconst (v := (0 : Int32)) d_Mo_isInclude_87 (by decide) ?_
    exact aw_ireturn .boolean rfl rfl d_Mo_isInclude_88 w
  · replace w := w.2 cc1
    refine aw_iconst (v := (1 : Int32)) d_Mo_isInclude_83 (by decide) ?_
    refine aw_goto (tgt := 88) d_Mo_isInclude_84 (by decide) ?_
    exact aw_ireturn .boolean rfl rfl d_Mo_isInclude_88 w
