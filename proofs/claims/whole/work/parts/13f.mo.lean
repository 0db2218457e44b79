set_option maxRecDepth 20000 in
theorem r_Mo_run_0 {E : zE} {K n : Nat → Nat} {I : Nat → Nat → Int32} {F : Nat → Nat → Option Nat} {J : Nat → Nat → Int64} {cb sb : Nat} {Q : zO → zH → Prop} {a0 : Nat}
    (w : K a0 = 9 ∧ (∃ b2 : Nat, F a0 26 = some b2 ∧ K b2 = 21 ∧ (∃ j4 : Nat, (0 : Int32) = nI j4 ∧ j4 < n b2 ∧ j4 < 2147483648 ∧ (∃ j5 : Nat, (1 : Int32) = nI j5 ∧ j5 < n b2 ∧ j5 < 2147483648 ∧ AW E m_Mo_run (K, n, (zup (zup (zup (zup I a0 0 (0 : Int32)) a0 17 (0 : Int32)) b2 j4 (0 : Int32)) b2 j5 (0 : Int32)), F, J) cb sb Q 30 [some (.ref a0), some (.int (0 : Int32)), some (.int (0 : Int32)), some (.int (0 : Int32)), none, none, none, none] [])))) :
    AW E m_Mo_run (K, n, I, F, J) cb sb Q 0 [some (.ref a0), none, none, none, none, none, none, none] [] := by
  refine aw_aload_n (x := a0) d_Mo_run_0 rfl ?_
  refine aw_iconst (v := (0 : Int32)) d_Mo_run_1 (by decide) ?_
  obtain ⟨hk1, w⟩ := w
  refine pf_Mo_114 rfl hk1 d_Mo_run_2 ?_
  refine aw_aload_n (x := a0) d_Mo_run_5 rfl ?_
  refine aw_iconst (v := (0 : Int32)) d_Mo_run_6 (by decide) ?_
  refine pf_Mo_225 rfl hk1 d_Mo_run_7 ?_
  refine aw_aload_n (x := a0) d_Mo_run_10 rfl ?_
  obtain ⟨b2, hb2, w⟩ := w
  refine gs_Mo_68 rfl hk1 hb2 d_Mo_run_11 ?_
  refine aw_iconst (v := (0 : Int32)) d_Mo_run_14 (by decide) ?_
  refine aw_iconst (v := (0 : Int32)) d_Mo_run_15 (by decide) ?_
  obtain ⟨hk3, w⟩ := w
  obtain ⟨j4, hj4a, hj4b, hj4c, w⟩ := w
  refine aw_iastore j4 hk3 hj4a hj4b hj4c d_Mo_run_16 ?_
  refine aw_aload_n (x := a0) d_Mo_run_17 rfl ?_
  refine gs_Mo_68 rfl hk1 hb2 d_Mo_run_18 ?_
  refine aw_iconst (v := (1 : Int32)) d_Mo_run_21 (by decide) ?_
  refine aw_iconst (v := (0 : Int32)) d_Mo_run_22 (by decide) ?_
  obtain ⟨j5, hj5a, hj5b, hj5c, w⟩ := w
  refine aw_iastore j5 hk3 hj5a hj5b hj5c d_Mo_run_23 ?_
  refine aw_iconst (v := (0 : Int32)) d_Mo_run_24 (by decide) ?_
  refine aw_istore_n d_Mo_run_25 (by decide) ?_
  refine aw_iconst (v := (0 : Int32)) d_Mo_run_26 (by decide) ?_
  refine aw_istore_n d_Mo_run_27 (by decide) ?_
  refine aw_iconst (v := (0 : Int32)) d_Mo_run_28 (by decide) ?_
  refine aw_istore_n d_Mo_run_29 (by decide) ?_
  exact aw_weak (lv' := [some (.ref a0), some (.int (0 : Int32)), some (.int (0 : Int32)), some (.int (0 : Int32)), none, none, none, none]) ⟨rfl, rfl, rfl, rfl, trivial⟩ w
set_option maxRecDepth 20000 in
theorem r_Mo_run_30 {E : zE} {K n : Nat → Nat} {I : Nat → Nat → Int32} {F : Nat → Nat → Option Nat} {J : Nat → Nat → Int64} {cb sb : Nat} {Q : zO → zH → Prop} {a0 : Nat} {x1 : Int32} {x2 : Int32} {x3 : Int32}
    (w : K a0 = 9 ∧ (((I a0 15) ≤ x3 → AW E m_Mo_run (K, n, I, F, J) cb sb Q 324 [some (.ref a0), some (.int x1), none, some (.int (0 : Int32)), some (.int (0 : Int32)), none, none, none] []) ∧ (¬ (I a0 15) ≤ x3 → (∃ b3 : Nat, F a0 14 = some b3 ∧ K b3 = 21 ∧ (∃ j5 : Nat, x3 = nI j5 ∧ j5 < n b3 ∧ j5 < 2147483648 ∧ (((I b3 j5) = 0 → (∃ b7 : Nat, F a0 4 = some b7 ∧ K b7 = 21 ∧ (∃ j9 : Nat, (5 : Int32) = nI j9 ∧ j9 < n b7 ∧ j9 < 2147483648 ∧ (((I b7 j9) ≤ 0 → ((((x2 + (1 : Int32)) - (0 : Int32)) < (1 : Int32) → AW E m_Mo_run (K, n, I, F, J) cb sb Q 30 [some (.ref a0), some (.int x1), some (.int (x2 + (1 : Int32))), some (.int (x3 + (1 : Int32))), none, none, none, none] []) ∧ (¬ ((x2 + (1 : Int32)) - (0 : Int32)) < (1 : Int32) → (∃ j12 : Nat, (6 : Int32) = nI j12 ∧ j12 < n b7 ∧ j12 < 2147483648 ∧ (((I b7 j12) ≤ 0 → AW E m_Mo_comes (K, n, I, F, J) 0 0 (zAft E m_Mo_run cb sb Q 108 [some (.ref a0), some (.int x1), some (.int (x2 + (1 : Int32))), some (.int x3), none, none, none, none] []) 0 [some (.ref a0), some (.int x3), none, none] []) ∧ (¬ (I b7 j12) ≤ 0 → (∃ b14 : Nat, F a0 6 = some b14 ∧ K b14 = 21 ∧ (∃ j16 : Nat, (1 : Int32) = nI j16 ∧ j16 < n b14 ∧ j16 < 2147483648 ∧ ((((x2 + (1 : Int32)) - (0 : Int32)) ≤ (I b14 j16) → AW E m_Mo_comes (K, n, I, F, J) 0 0 (zAft E m_Mo_run cb sb Q 108 [some (.ref a0), some (.int x1), some (.int (x2 + (1 : Int32))), some (.int x3), none, none, none, none] []) 0 [some (.ref a0), some (.int x3), none, none] []) ∧ (¬ ((x2 + (1 : Int32)) - (0 : Int32)) ≤ (I b14 j16) → AW E m_Mo_run (K, n, I, F, J) cb sb Q 30 [some (.ref a0), some (.int x1), some (.int (x2 + (1 : Int32))), some (.int (x3 + (1 : Int32))), none, none, none, none] [])))))))))) ∧ (¬ (I b7 j9) ≤ 0 → (∃ b18 : Nat, F a0 6 = some b18 ∧ K b18 = 21 ∧ (∃ j20 : Nat, (0 : Int32) = nI j20 ∧ j20 < n b18 ∧ j20 < 2147483648 ∧ ((((x2 + (1 : Int32)) - (I b18 j20)) < (1 : Int32) → AW E m_Mo_run (K, n, I, F, J) cb sb Q 30 [some (.ref a0), some (.int x1), some (.int (x2 + (1 : Int32))), some (.int (x3 + (1 : Int32))), none, none, none, none] []) ∧ (¬ ((x2 + (1 : Int32)) - (I b18 j20)) < (1 : Int32) → (∃ j22 : Nat, (6 : Int32) = nI j22 ∧ j22 < n b7 ∧ j22 < 2147483648 ∧ (((I b7 j22) ≤ 0 → AW E m_Mo_comes (K, n, I, F, J) 0 0 (zAft E m_Mo_run cb sb Q 108 [some (.ref a0), some (.int x1), some (.int (x2 + (1 : Int32))), some (.int x3), none, none, none, none] []) 0 [some (.ref a0), some (.int x3), none, none] []) ∧ (¬ (I b7 j22) ≤ 0 → (∃ j24 : Nat, (1 : Int32) = nI j24 ∧ j24 < n b18 ∧ j24 < 2147483648 ∧ ((((x2 + (1 : Int32)) - (I b18 j20)) ≤ (I b18 j24) → AW E m_Mo_comes (K, n, I, F, J) 0 0 (zAft E m_Mo_run cb sb Q 108 [some (.ref a0), some (.int x1), some (.int (x2 + (1 : Int32))), some (.int x3), none, none, none, none] []) 0 [some (.ref a0), some (.int x3), none, none] []) ∧ (¬ ((x2 + (1 : Int32)) - (I b18 j20)) ≤ (I b18 j24) → AW E m_Mo_run (K, n, I, F, J) cb sb Q 30 [some (.ref a0), some (.int x1), some (.int (x2 + (1 : Int32))), some (.int (x3 + (1 : Int32))), none, none, none, none] []))))))))))))))) ∧ (¬ (I b3 j5) = 0 → AW E m_Mo_run (K, n, I, F, J) cb sb Q 30 [some (.ref a0), some (.int x1), some (.int x2), some (.int (x3 + (1 : Int32))), none, none, none, none] []))))))) :
    AW E m_Mo_run (K, n, I, F, J) cb sb Q 30 [some (.ref a0), some (.int x1), some (.int x2), some (.int x3), none, none, none, none] [] := by
  refine aw_iload_n (x := x3) d_Mo_run_30 rfl ?_
  refine aw_aload_n (x := a0) d_Mo_run_31 rfl ?_
  obtain ⟨hk1, w⟩ := w
  refine gf_Mo_191 rfl hk1 d_Mo_run_32 ?_
  refine aw_icmp_ge (tgt := 319) d_Mo_run_35 (by decide) (fun cc2 => ?_) (fun cc2 => ?_)
  · replace w := w.1 cc2
    refine aw_iconst (v := (0 : Int32)) d_Mo_run_319 (by decide) ?_
    refine aw_istore_n d_Mo_run_320 (by decide) ?_
    refine aw_iconst (v := (0 : Int32)) d_Mo_run_321 (by decide) ?_
    refine aw_istore d_Mo_run_322 (by decide) ?_
    exact aw_weak (lv' := [some (.ref a0), some (.int x1), none, some (.int (0 : Int32)), some (.int (0 : Int32)), none, none, none]) ⟨rfl, rfl, rfl, rfl, trivial⟩ w
  · replace w := w.2 cc2
    refine aw_aload_n (x := a0) d_Mo_run_38 rfl ?_
    obtain ⟨b3, hb3, w⟩ := w
    refine gs_Mo_43 rfl hk1 hb3 d_Mo_run_39 ?_
    refine aw_iload_n (x := x3) d_Mo_run_42 rfl ?_
    obtain ⟨hk4, w⟩ := w
    obtain ⟨j5, hj5a, hj5b, hj5c, w⟩ := w
    refine aw_iaload j5 hk4 hj5a hj5b hj5c d_Mo_run_43 ?_
    refine aw_if_eq (tgt := 50) d_Mo_run_44 (by decide) (fun cc6 => ?_) (fun cc6 => ?_)
    · replace w := w.1 cc6
      refine aw_iinc (v := (x2 + (1 : Int32))) d_Mo_run_50 rfl (by rfl) (by decide) ?_
      refine aw_iload_n (x := (x2 + (1 : Int32))) d_Mo_run_53 rfl ?_
      refine aw_aload_n (x := a0) d_Mo_run_54 rfl ?_
      obtain ⟨b7, hb7, w⟩ := w
      refine gs_Mo_13 rfl hk1 hb7 d_Mo_run_55 ?_
      refine aw_iconst (v := (5 : Int32)) d_Mo_run_58 (by decide) ?_
      obtain ⟨hk8, w⟩ := w
      obtain ⟨j9, hj9a, hj9b, hj9c, w⟩ := w
      refine aw_iaload j9 hk8 hj9a hj9b hj9c d_Mo_run_59 ?_
      refine aw_if_le (tgt := 72) d_Mo_run_60 (by decide) (fun cc10 => ?_) (fun cc10 => ?_)
      · replace w := w.1 cc10
        refine aw_iconst (v := (0 : Int32)) d_Mo_run_72 (by decide) ?_
        refine aw_isub d_Mo_run_73 ?_
        refine aw_istore d_Mo_run_74 (by decide) ?_
        refine aw_iload (x := ((x2 + (1 : Int32)) - (0 : Int32))) d_Mo_run_76 rfl ?_
        refine aw_iconst (v := (1 : Int32)) d_Mo_run_78 (by decide) ?_
        refine aw_icmp_lt (tgt := 313) d_Mo_run_79 (by decide) (fun cc11 => ?_) (fun cc11 => ?_)
        · replace w := w.1 cc11
          refine aw_iinc (v := (x3 + (1 : Int32))) d_Mo_run_313 rfl (by rfl) (by decide) ?_
          refine aw_goto (tgt := 30) d_Mo_run_316 (by decide) ?_
          exact aw_weak (lv' := [some (.ref a0), some (.int x1), some (.int (x2 + (1 : Int32))), some (.int (x3 + (1 : Int32))), none, none, none, none]) ⟨rfl, rfl, rfl, rfl, trivial⟩ w
        · replace w := w.2 cc11
          refine aw_aload_n (x := a0) d_Mo_run_82 rfl ?_
          refine gs_Mo_13 rfl hk1 hb7 d_Mo_run_83 ?_
          refine aw_bipush (v := (6 : Int32)) d_Mo_run_86 (by decide) ?_
          obtain ⟨j12, hj12a, hj12b, hj12c, w⟩ := w
          refine aw_iaload j12 hk8 hj12a hj12b hj12c d_Mo_run_88 ?_
          refine aw_if_le (tgt := 106) d_Mo_run_89 (by decide) (fun cc13 => ?_) (fun cc13 => ?_)
          · replace w := w.1 cc13
            refine aw_aload_n (x := a0) d_Mo_run_106 rfl ?_
            refine aw_iload_n (x := x3) d_Mo_run_107 rfl ?_
            exact aw_room (cb' := 0 + cb) (sb' := 0 + sb) (by omega) (by omega) (aw_weak (lv' := [some (.ref a0), some (.int x1), some (.int (x2 + (1 : Int32))), some (.int x3), none, none, none, none]) ⟨rfl, rfl, rfl, rfl, trivial⟩ (aw_callV (M' := m_Mo_comes) (lv0 := [some (.ref a0), some (.int x3), none, none]) (As := [.int x3]) (rest := []) 8 1061 1063 1064 rfl (by decide) rfl hk1 tb_1061 tb_1063 tb_1064 (fun U hU => hU.p 50 rfl) rfl rfl 1 0 rfl rfl ⟨by decide, by decide, by decide +kernel, by decide +kernel, by decide, by decide⟩ (Nat.le_of_ble_eq_true rfl) ⟨rfl, rfl, trivial⟩ rfl d_Mo_run_108 w))
          · replace w := w.2 cc13
            refine aw_iload (x := ((x2 + (1 : Int32)) - (0 : Int32))) d_Mo_run_92 rfl ?_
            refine aw_aload_n (x := a0) d_Mo_run_94 rfl ?_
            obtain ⟨b14, hb14, w⟩ := w
            refine gs_Mo_19 rfl hk1 hb14 d_Mo_run_95 ?_
            refine aw_iconst (v := (1 : Int32)) d_Mo_run_98 (by decide) ?_
            obtain ⟨hk15, w⟩ := w
            obtain ⟨j16, hj16a, hj16b, hj16c, w⟩ := w
            refine aw_iaload j16 hk15 hj16a hj16b hj16c d_Mo_run_99 ?_
            refine aw_icmp_le (tgt := 106) d_Mo_run_100 (by decide) (fun cc17 => ?_) (fun cc17 => ?_)
            · replace w := w.1 cc17
              refine aw_aload_n (x := a0) d_Mo_run_106 rfl ?_
              refine aw_iload_n (x := x3) d_Mo_run_107 rfl ?_
              exact aw_room (cb' := 0 + cb) (sb' := 0 + sb) (by omega) (by omega) (aw_weak (lv' := [some (.ref a0), some (.int x1), some (.int (x2 + (1 : Int32))), some (.int x3), none, none, none, none]) ⟨rfl, rfl, rfl, rfl, trivial⟩ (aw_callV (M' := m_Mo_comes) (lv0 := [some (.ref a0), some (.int x3), none, none]) (As := [.int x3]) (rest := []) 8 1061 1063 1064 rfl (by decide) rfl hk1 tb_1061 tb_1063 tb_1064 (fun U hU => hU.p 50 rfl) rfl rfl 1 0 rfl rfl ⟨by decide, by decide, by decide +kernel, by decide +kernel, by decide, by decide⟩ (Nat.le_of_ble_eq_true rfl) ⟨rfl, rfl, trivial⟩ rfl d_Mo_run_108 w))
            · replace w := w.2 cc17
              refine aw_goto (tgt := 313) d_Mo_run_103 (by decide) ?_
              refine aw_iinc (v := (x3 + (1 : Int32))) d_Mo_run_313 rfl (by rfl) (by decide) ?_
              refine aw_goto (tgt := 30) d_Mo_run_316 (by decide) ?_
              exact aw_weak (lv' := [some (.ref a0), some (.int x1), some (.int (x2 + (1 : Int32))), some (.int (x3 + (1 : Int32))), none, none, none, none]) ⟨rfl, rfl, rfl, rfl, trivial⟩ w
      · replace w := w.2 cc10
        refine aw_aload_n (x := a0) d_Mo_run_63 rfl ?_
        obtain ⟨b18, hb18, w⟩ := w
        refine gs_Mo_19 rfl hk1 hb18 d_Mo_run_64 ?_
        refine aw_iconst (v := (0 : Int32)) d_Mo_run_67 (by decide) ?_
        obtain ⟨hk19, w⟩ := w
        obtain ⟨j20, hj20a, hj20b, hj20c, w⟩ := w
        refine aw_iaload j20 hk19 hj20a hj20b hj20c d_Mo_run_68 ?_
        refine aw_goto (tgt := 73) d_Mo_run_69 (by decide) ?_
        refine aw_isub d_Mo_run_73 ?_
        refine aw_istore d_Mo_run_74 (by decide) ?_
        refine aw_iload (x := ((x2 + (1 : Int32)) - (I b18 j20))) d_Mo_run_76 rfl ?_
        refine aw_iconst (v := (1 : Int32)) d_Mo_run_78 (by decide) ?_
        refine aw_icmp_lt (tgt := 313) d_Mo_run_79 (by decide) (fun cc21 => ?_) (fun cc21 => ?_)
        · replace w := w.1 cc21
          refine aw_iinc (v := (x3 + (1 : Int32))) d_Mo_run_313 rfl (by rfl) (by decide) ?_
          refine aw_goto (tgt := 30) d_Mo_run_316 (by decide) ?_
          exact aw_weak (lv' := [some (.ref a0), some (.int x1), some (.int (x2 + (1 : Int32))), some (.int (x3 + (1 : Int32))), none, none, none, none]) ⟨rfl, rfl, rfl, rfl, trivial⟩ w
        · replace w := w.2 cc21
          refine aw_aload_n (x := a0) d_Mo_run_82 rfl ?_
          refine gs_Mo_13 rfl hk1 hb7 d_Mo_run_83 ?_
          refine aw_bipush (v := (6 : Int32)) d_Mo_run_86 (by decide) ?_
          obtain ⟨j22, hj22a, hj22b, hj22c, w⟩ := w
          refine aw_iaload j22 hk8 hj22a hj22b hj22c d_Mo_run_88 ?_
          refine aw_if_le (tgt := 106) d_Mo_run_89 (by decide) (fun cc23 => ?_) (fun cc23 => ?_)
          · replace w := w.1 cc23
            refine aw_aload_n (x := a0) d_Mo_run_106 rfl ?_
            refine aw_iload_n (x := x3) d_Mo_run_107 rfl ?_
            exact aw_room (cb' := 0 + cb) (sb' := 0 + sb) (by omega) (by omega) (aw_weak (lv' := [some (.ref a0), some (.int x1), some (.int (x2 + (1 : Int32))), some (.int x3), none, none, none, none]) ⟨rfl, rfl, rfl, rfl, trivial⟩ (aw_callV (M' := m_Mo_comes) (lv0 := [some (.ref a0), some (.int x3), none, none]) (As := [.int x3]) (rest := []) 8 1061 1063 1064 rfl (by decide) rfl hk1 tb_1061 tb_1063 tb_1064 (fun U hU => hU.p 50 rfl) rfl rfl 1 0 rfl rfl ⟨by decide, by decide, by decide +kernel, by decide +kernel, by decide, by decide⟩ (Nat.le_of_ble_eq_true rfl) ⟨rfl, rfl, trivial⟩ rfl d_Mo_run_108 w))
          · replace w := w.2 cc23
            refine aw_iload (x := ((x2 + (1 : Int32)) - (I b18 j20))) d_Mo_run_92 rfl ?_
            refine aw_aload_n (x := a0) d_Mo_run_94 rfl ?_
            refine gs_Mo_19 rfl hk1 hb18 d_Mo_run_95 ?_
            refine aw_iconst (v := (1 : Int32)) d_Mo_run_98 (by decide) ?_
            obtain ⟨j24, hj24a, hj24b, hj24c, w⟩ := w
            refine aw_iaload j24 hk19 hj24a hj24b hj24c d_Mo_run_99 ?_
            refine aw_icmp_le (tgt := 106) d_Mo_run_100 (by decide) (fun cc25 => ?_) (fun cc25 => ?_)
            · replace w := w.1 cc25
              refine aw_aload_n (x := a0) d_Mo_run_106 rfl ?_
              refine aw_iload_n (x := x3) d_Mo_run_107 rfl ?_
              exact aw_room (cb' := 0 + cb) (sb' := 0 + sb) (by omega) (by omega) (aw_weak (lv' := [some (.ref a0), some (.int x1), some (.int (x2 + (1 : Int32))), some (.int x3), none, none, none, none]) ⟨rfl, rfl, rfl, rfl, trivial⟩ (aw_callV (M' := m_Mo_comes) (lv0 := [some (.ref a0), some (.int x3), none, none]) (As := [.int x3]) (rest := []) 8 1061 1063 1064 rfl (by decide) rfl hk1 tb_1061 tb_1063 tb_1064 (fun U hU => hU.p 50 rfl) rfl rfl 1 0 rfl rfl ⟨by decide, by decide, by decide +kernel, by decide +kernel, by decide, by decide⟩ (Nat.le_of_ble_eq_true rfl) ⟨rfl, rfl, trivial⟩ rfl d_Mo_run_108 w))
            · replace w := w.2 cc25
              refine aw_goto (tgt := 313) d_Mo_run_103 (by decide) ?_
              refine aw_iinc (v := (x3 + (1 : Int32))) d_Mo_run_313 rfl (by rfl) (by decide) ?_
              refine aw_goto (tgt := 30) d_Mo_run_316 (by decide) ?_
              exact aw_weak (lv' := [some (.ref a0), some (.int x1), some (.int (x2 + (1 : Int32))), some (.int (x3 + (1 : Int32))), none, none, none, none]) ⟨rfl, rfl, rfl, rfl, trivial⟩ w
    · replace w := w.2 cc6
      refine aw_goto (tgt := 313) d_Mo_run_47 (by decide) ?_
      refine aw_iinc (v := (x3 + (1 : Int32))) d_Mo_run_313 rfl (by rfl) (by decide) ?_
      refine aw_goto (tgt := 30) d_Mo_run_316 (by decide) ?_
      exact aw_weak (lv' := [some (.ref a0), some (.int x1), some (.int x2), some (.int (x3 + (1 : Int32))), none, none, none, none]) ⟨rfl, rfl, rfl, rfl, trivial⟩ w
set_option maxRecDepth 20000 in
theorem r_Mo_run_111 {E : zE} {K n : Nat → Nat} {I : Nat → Nat → Int32} {F : Nat → Nat → Option Nat} {J : Nat → Nat → Int64} {cb sb : Nat} {Q : zO → zH → Prop} {a0 : Nat} {x1 : Int32} {x2 : Int32} {x3 : Int32} {sx0 : Int32}
    (w : ((¬ sx0 = 0 → AW E m_Mo_run (K, n, I, F, J) cb sb Q 172 [some (.ref a0), some (.int x1), some (.int x2), some (.int x3), none, some (.int (0 : Int32)), none, none] []) ∧ (sx0 = 0 → K a0 = 9 ∧ AW E m_Mo_begin (K, n, I, F, J) 0 0 (zAft E m_Mo_run cb sb Q 116 [some (.ref a0), some (.int x1), some (.int x2), some (.int x3), none, none, none, none] []) 0 [some (.ref a0), some (.int (1 : Int32))] []))) :
    AW E m_Mo_run (K, n, I, F, J) cb sb Q 111 [some (.ref a0), some (.int x1), some (.int x2), some (.int x3), none, none, none, none] [.int sx0] := by
  refine aw_if_ne (tgt := 169) d_Mo_run_111 (by decide) (fun cc1 => ?_) (fun cc1 => ?_)
  · replace w := w.1 cc1
    refine aw_iconst (v := (0 : Int32)) d_Mo_run_169 (by decide) ?_
    refine aw_istore d_Mo_run_170 (by decide) ?_
    exact aw_weak (lv' := [some (.ref a0), some (.int x1), some (.int x2), some (.int x3), none, some (.int (0 : Int32)), none, none]) ⟨rfl, rfl, rfl, rfl, rfl, trivial⟩ w
  · replace w := w.2 cc1
    refine aw_aload_n (x := a0) d_Mo_run_114 rfl ?_
    refine aw_iconst (v := (1 : Int32)) d_Mo_run_115 (by decide) ?_
    obtain ⟨hk2, w⟩ := w
    exact aw_room (cb' := 0 + cb) (sb' := 0 + sb) (by omega) (by omega) (aw_weak (lv' := [some (.ref a0), some (.int x1), some (.int x2), some (.int x3), none, none, none, none]) ⟨rfl, rfl, rfl, rfl, trivial⟩ (aw_callV (M' := m_Mo_begin) (lv0 := [some (.ref a0), some (.int (1 : Int32))]) (As := [.int (1 : Int32)]) (rest := []) 8 1072 1074 1075 rfl (by decide) rfl hk2 tb_1072 tb_1074 tb_1075 (fun U hU => hU.p 52 rfl) rfl rfl 1 0 rfl rfl ⟨by decide, by decide, by decide +kernel, by decide +kernel, by decide, by decide⟩ (Nat.le_of_ble_eq_true rfl) ⟨rfl, rfl, trivial⟩ rfl d_Mo_run_116 w))
set_option maxRecDepth 20000 in
theorem r_Mo_run_119 {E : zE} {K n : Nat → Nat} {I : Nat → Nat → Int32} {F : Nat → Nat → Option Nat} {J : Nat → Nat → Int64} {cb sb : Nat} {Q : zO → zH → Prop} {a0 : Nat} {x1 : Int32} {x2 : Int32} {x3 : Int32}
    (w : AW E m_Mo_run (K, n, I, F, J) cb sb Q 122 [some (.ref a0), some (.int x1), some (.int x2), some (.int x3), none, some (.int (0 : Int32)), none, none] []) :
    AW E m_Mo_run (K, n, I, F, J) cb sb Q 119 [some (.ref a0), some (.int x1), some (.int x2), some (.int x3), none, none, none, none] [] := by
  refine aw_iconst (v := (0 : Int32)) d_Mo_run_119 (by decide) ?_
  refine aw_istore d_Mo_run_120 (by decide) ?_
  exact aw_weak (lv' := [some (.ref a0), some (.int x1), some (.int x2), some (.int x3), none, some (.int (0 : Int32)), none, none]) ⟨rfl, rfl, rfl, rfl, rfl, trivial⟩ w
set_option maxRecDepth 20000 in
theorem r_Mo_run_122 {E : zE} {K n : Nat → Nat} {I : Nat → Nat → Int32} {F : Nat → Nat → Option Nat} {J : Nat → Nat → Int64} {cb sb : Nat} {Q : zO → zH → Prop} {a0 : Nat} {x1 : Int32} {x2 : Int32} {x3 : Int32} {x5 : Int32}
    (w : K a0 = 9 ∧ (∃ b2 : Nat, F a0 13 = some b2 ∧ K b2 = 21 ∧ (∃ j4 : Nat, x3 = nI j4 ∧ j4 < n b2 ∧ j4 < 2147483648 ∧ (((I b2 j4) ≤ x5 → (∃ b6 : Nat, F a0 26 = some b6 ∧ K b6 = 21 ∧ (∃ j8 : Nat, (1 : Int32) = nI j8 ∧ j8 < n b6 ∧ j8 < 2147483648 ∧ AW E m_Mo_run (K, n, (zup I b6 j8 ((I b6 j8) + (1 : Int32))), F, J) cb sb Q 30 [some (.ref a0), some (.int x1), some (.int x2), some (.int (x3 + (1 : Int32))), none, none, none, none] []))) ∧ (¬ (I b2 j4) ≤ x5 → (∃ b9 : Nat, F a0 12 = some b9 ∧ K b9 = 21 ∧ (∃ j11 : Nat, (((100 : Int32) * x3) + x5) = nI j11 ∧ j11 < n b9 ∧ j11 < 2147483648 ∧ AW E m_Mo_put (K, n, I, F, J) 0 0 (zAft E m_Mo_run cb sb Q 147 [some (.ref a0), some (.int x1), some (.int x2), some (.int x3), none, some (.int x5), none, none] []) 0 [some (.ref a0), some (.int (1 : Int32)), some (.int (I b9 j11)), none, none] []))))))) :
    AW E m_Mo_run (K, n, I, F, J) cb sb Q 122 [some (.ref a0), some (.int x1), some (.int x2), some (.int x3), none, some (.int x5), none, none] [] := by
  refine aw_iload (x := x5) d_Mo_run_122 rfl ?_
  refine aw_aload_n (x := a0) d_Mo_run_124 rfl ?_
  obtain ⟨hk1, w⟩ := w
  obtain ⟨b2, hb2, w⟩ := w
  refine gs_Mo_40 rfl hk1 hb2 d_Mo_run_125 ?_
  refine aw_iload_n (x := x3) d_Mo_run_128 rfl ?_
  obtain ⟨hk3, w⟩ := w
  obtain ⟨j4, hj4a, hj4b, hj4c, w⟩ := w
  refine aw_iaload j4 hk3 hj4a hj4b hj4c d_Mo_run_129 ?_
  refine aw_icmp_ge (tgt := 156) d_Mo_run_130 (by decide) (fun cc5 => ?_) (fun cc5 => ?_)
  · replace w := w.1 cc5
    refine aw_aload_n (x := a0) d_Mo_run_156 rfl ?_
    obtain ⟨b6, hb6, w⟩ := w
    refine gs_Mo_68 rfl hk1 hb6 d_Mo_run_157 ?_
    refine aw_iconst (v := (1 : Int32)) d_Mo_run_160 (by decide) ?_
    refine aw_dup2 d_Mo_run_161 rfl rfl ?_
    obtain ⟨hk7, w⟩ := w
    obtain ⟨j8, hj8a, hj8b, hj8c, w⟩ := w
    refine aw_iaload j8 hk7 hj8a hj8b hj8c d_Mo_run_162 ?_
    refine aw_iconst (v := (1 : Int32)) d_Mo_run_163 (by decide) ?_
    refine aw_iadd d_Mo_run_164 ?_
    refine aw_iastore j8 hk7 hj8a hj8b hj8c d_Mo_run_165 ?_
    refine aw_goto (tgt := 313) d_Mo_run_166 (by decide) ?_
    refine aw_iinc (v := (x3 + (1 : Int32))) d_Mo_run_313 rfl (by rfl) (by decide) ?_
    refine aw_goto (tgt := 30) d_Mo_run_316 (by decide) ?_
    exact aw_weak (lv' := [some (.ref a0), some (.int x1), some (.int x2), some (.int (x3 + (1 : Int32))), none, none, none, none]) ⟨rfl, rfl, rfl, rfl, trivial⟩ w
  · replace w := w.2 cc5
    refine aw_aload_n (x := a0) d_Mo_run_133 rfl ?_
    refine aw_iconst (v := (1 : Int32)) d_Mo_run_134 (by decide) ?_
    refine aw_aload_n (x := a0) d_Mo_run_135 rfl ?_
    obtain ⟨b9, hb9, w⟩ := w
    refine gs_Mo_37 rfl hk1 hb9 d_Mo_run_136 ?_
    refine aw_bipush (v := (100 : Int32)) d_Mo_run_139 (by decide) ?_
    refine aw_iload_n (x := x3) d_Mo_run_141 rfl ?_
    refine aw_imul d_Mo_run_142 ?_
    refine aw_iload (x := x5) d_Mo_run_143 rfl ?_
    refine aw_iadd d_Mo_run_145 ?_
    obtain ⟨hk10, w⟩ := w
    obtain ⟨j11, hj11a, hj11b, hj11c, w⟩ := w
    refine aw_iaload j11 hk10 hj11a hj11b hj11c d_Mo_run_146 ?_
    exact aw_room (cb' := 0 + cb) (sb' := 0 + sb) (by omega) (by omega) (aw_weak (lv' := [some (.ref a0), some (.int x1), some (.int x2), some (.int x3), none, some (.int x5), none, none]) ⟨rfl, rfl, rfl, rfl, rfl, trivial⟩ (aw_callV (M' := m_Mo_put) (lv0 := [some (.ref a0), some (.int (1 : Int32)), some (.int (I b9 j11)), none, none]) (As := [.int (1 : Int32), .int (I b9 j11)]) (rest := []) 8 1076 1078 1079 rfl (by decide) rfl hk1 tb_1076 tb_1078 tb_1079 (fun U hU => hU.p 53 rfl) rfl rfl 2 0 rfl rfl ⟨by decide, by decide, by decide +kernel, by decide +kernel, by decide, by decide⟩ (Nat.le_of_ble_eq_true rfl) ⟨rfl, rfl, rfl, trivial⟩ rfl d_Mo_run_147 w))
set_option maxRecDepth 20000 in
theorem r_Mo_run_150 {E : zE} {K n : Nat → Nat} {I : Nat → Nat → Int32} {F : Nat → Nat → Option Nat} {J : Nat → Nat → Int64} {cb sb : Nat} {Q : zO → zH → Prop} {a0 : Nat} {x1 : Int32} {x2 : Int32} {x3 : Int32} {x5 : Int32}
    (w : AW E m_Mo_run (K, n, I, F, J) cb sb Q 122 [some (.ref a0), some (.int x1), some (.int x2), some (.int x3), none, some (.int (x5 + (1 : Int32))), none, none] []) :
    AW E m_Mo_run (K, n, I, F, J) cb sb Q 150 [some (.ref a0), some (.int x1), some (.int x2), some (.int x3), none, some (.int x5), none, none] [] := by
  refine aw_iinc (v := (x5 + (1 : Int32))) d_Mo_run_150 rfl (by rfl) (by decide) ?_
  refine aw_goto (tgt := 122) d_Mo_run_153 (by decide) ?_
  exact aw_weak (lv' := [some (.ref a0), some (.int x1), some (.int x2), some (.int x3), none, some (.int (x5 + (1 : Int32))), none, none]) ⟨rfl, rfl, rfl, rfl, rfl, trivial⟩ w
set_option maxRecDepth 20000 in
theorem r_Mo_run_172 {E : zE} {K n : Nat → Nat} {I : Nat → Nat → Int32} {F : Nat → Nat → Option Nat} {J : Nat → Nat → Int64} {cb sb : Nat} {Q : zO → zH → Prop} {a0 : Nat} {x1 : Int32} {x2 : Int32} {x3 : Int32} {x5 : Int32}
    (w : K a0 = 9 ∧ (∃ b2 : Nat, F a0 13 = some b2 ∧ K b2 = 21 ∧ (∃ j4 : Nat, x3 = nI j4 ∧ j4 < n b2 ∧ j4 < 2147483648 ∧ (((I b2 j4) ≤ x5 → (∃ b6 : Nat, F a0 20 = some b6 ∧ K b6 = 21 ∧ (∃ j8 : Nat, x1 = nI j8 ∧ j8 < n b6 ∧ j8 < 2147483648 ∧ (∃ b9 : Nat, F a0 21 = some b9 ∧ K b9 = 21 ∧ (∃ j11 : Nat, x1 = nI j11 ∧ j11 < n b9 ∧ j11 < 2147483648 ∧ (∃ b12 : Nat, F a0 22 = some b12 ∧ K b12 = 21 ∧ (∃ j14 : Nat, x1 = nI j14 ∧ j14 < n b12 ∧ j14 < 2147483648 ∧ AW E m_Mo_run (K, n, (zup (zup (zup I b6 j8 (I b2 j4)) b9 j11 (1 : Int32)) b12 j14 x3), F, J) cb sb Q 242 [some (.ref a0), some (.int x1), some (.int x2), some (.int x3), none, some (.int x1), none, none] []))))))) ∧ (¬ (I b2 j4) ≤ x5 → (∃ b15 : Nat, F a0 19 = some b15 ∧ (∃ b16 : Nat, F a0 12 = some b16 ∧ K b16 = 21 ∧ (∃ j18 : Nat, (((100 : Int32) * x3) + x5) = nI j18 ∧ j18 < n b16 ∧ j18 < 2147483648 ∧ K b15 = 21 ∧ (∃ j20 : Nat, (((100 : Int32) * x1) + x5) = nI j20 ∧ j20 < n b15 ∧ j20 < 2147483648 ∧ AW E m_Mo_run (K, n, (zup I b15 j20 (I b16 j18)), F, J) cb sb Q 172 [some (.ref a0), some (.int x1), some (.int x2), some (.int x3), none, some (.int (x5 + (1 : Int32))), none, none] []))))))))) :
    AW E m_Mo_run (K, n, I, F, J) cb sb Q 172 [some (.ref a0), some (.int x1), some (.int x2), some (.int x3), none, some (.int x5), none, none] [] := by
  refine aw_iload (x := x5) d_Mo_run_172 rfl ?_
  refine aw_aload_n (x := a0) d_Mo_run_174 rfl ?_
  obtain ⟨hk1, w⟩ := w
  obtain ⟨b2, hb2, w⟩ := w
  refine gs_Mo_40 rfl hk1 hb2 d_Mo_run_175 ?_
  refine aw_iload_n (x := x3) d_Mo_run_178 rfl ?_
  obtain ⟨hk3, w⟩ := w
  obtain ⟨j4, hj4a, hj4b, hj4c, w⟩ := w
  refine aw_iaload j4 hk3 hj4a hj4b hj4c d_Mo_run_179 ?_
  refine aw_icmp_ge (tgt := 213) d_Mo_run_180 (by decide) (fun cc5 => ?_) (fun cc5 => ?_)
  · replace w := w.1 cc5
    refine aw_aload_n (x := a0) d_Mo_run_213 rfl ?_
    obtain ⟨b6, hb6, w⟩ := w
    refine gs_Mo_49 rfl hk1 hb6 d_Mo_run_214 ?_
    refine aw_iload_n (x := x1) d_Mo_run_217 rfl ?_
    refine aw_aload_n (x := a0) d_Mo_run_218 rfl ?_
    refine gs_Mo_40 rfl hk1 hb2 d_Mo_run_219 ?_
    refine aw_iload_n (x := x3) d_Mo_run_222 rfl ?_
    refine aw_iaload j4 hk3 hj4a hj4b hj4c d_Mo_run_223 ?_
    obtain ⟨hk7, w⟩ := w
    obtain ⟨j8, hj8a, hj8b, hj8c, w⟩ := w
    refine aw_iastore j8 hk7 hj8a hj8b hj8c d_Mo_run_224 ?_
    refine aw_aload_n (x := a0) d_Mo_run_225 rfl ?_
    obtain ⟨b9, hb9, w⟩ := w
    refine gs_Mo_52 rfl hk1 hb9 d_Mo_run_226 ?_
    refine aw_iload_n (x := x1) d_Mo_run_229 rfl ?_
    refine aw_iconst (v := (1 : Int32)) d_Mo_run_230 (by decide) ?_
    obtain ⟨hk10, w⟩ := w
    obtain ⟨j11, hj11a, hj11b, hj11c, w⟩ := w
    refine aw_iastore j11 hk10 hj11a hj11b hj11c d_Mo_run_231 ?_
    refine aw_aload_n (x := a0) d_Mo_run_232 rfl ?_
    obtain ⟨b12, hb12, w⟩ := w
    refine gs_Mo_55 rfl hk1 hb12 d_Mo_run_233 ?_
    refine aw_iload_n (x := x1) d_Mo_run_236 rfl ?_
    refine aw_iload_n (x := x3) d_Mo_run_237 rfl ?_
    obtain ⟨hk13, w⟩ := w
    obtain ⟨j14, hj14a, hj14b, hj14c, w⟩ := w
    refine aw_iastore j14 hk13 hj14a hj14b hj14c d_Mo_run_238 ?_
    refine aw_iload_n (x := x1) d_Mo_run_239 rfl ?_
    refine aw_istore d_Mo_run_240 (by decide) ?_
    exact aw_weak (lv' := [some (.ref a0), some (.int x1), some (.int x2), some (.int x3), none, some (.int x1), none, none]) ⟨rfl, rfl, rfl, rfl, rfl, trivial⟩ w
  · replace w := w.2 cc5
    refine aw_aload_n (x := a0) d_Mo_run_183 rfl ?_
    obtain ⟨b15, hb15, w⟩ := w
    refine gs_Mo_46 rfl hk1 hb15 d_Mo_run_184 ?_
    refine aw_bipush (v := (100 : Int32)) d_Mo_run_187 (by decide) ?_
    refine aw_iload_n (x := x1) d_Mo_run_189 rfl ?_
    refine aw_imul d_Mo_run_190 ?_
    refine aw_iload (x := x5) d_Mo_run_191 rfl ?_
    refine aw_iadd d_Mo_run_193 ?_
    refine aw_aload_n (x := a0) d_Mo_run_194 rfl ?_
    obtain ⟨b16, hb16, w⟩ := w
    refine gs_Mo_37 rfl hk1 hb16 d_Mo_run_195 ?_
    refine aw_bipush (v := (100 : Int32)) d_Mo_run_198 (by decide) ?_
    refine aw_iload_n (x := x3) d_Mo_run_200 rfl ?_
    refine aw_imul d_Mo_run_201 ?_
    refine aw_iload (x := x5) d_Mo_run_202 rfl ?_
    refine aw_iadd d_Mo_run_204 ?_
    obtain ⟨hk17, w⟩ := w
    obtain ⟨j18, hj18a, hj18b, hj18c, w⟩ := w
    refine aw_iaload j18 hk17 hj18a hj18b hj18c d_Mo_run_205 ?_
    obtain ⟨hk19, w⟩ := w
    obtain ⟨j20, hj20a, hj20b, hj20c, w⟩ := w
    refine aw_iastore j20 hk19 hj20a hj20b hj20c d_Mo_run_206 ?_
    refine aw_iinc (v := (x5 + (1 : Int32))) d_Mo_run_207 rfl (by rfl) (by decide) ?_
    refine aw_goto (tgt := 172) d_Mo_run_210 (by decide) ?_
    exact aw_weak (lv' := [some (.ref a0), some (.int x1), some (.int x2), some (.int x3), none, some (.int (x5 + (1 : Int32))), none, none]) ⟨rfl, rfl, rfl, rfl, rfl, trivial⟩ w
set_option maxRecDepth 20000 in
theorem r_Mo_run_242 {E : zE} {K n : Nat → Nat} {I : Nat → Nat → Int32} {F : Nat → Nat → Option Nat} {J : Nat → Nat → Int64} {cb sb : Nat} {Q : zO → zH → Prop} {a0 : Nat} {x1 : Int32} {x2 : Int32} {x3 : Int32} {x5 : Int32}
    (w : ((x5 ≤ 0 → K a0 = 9 ∧ (∃ b3 : Nat, F a0 23 = some b3 ∧ K b3 = 21 ∧ (∃ j5 : Nat, x5 = nI j5 ∧ j5 < n b3 ∧ j5 < 2147483648 ∧ AW E m_Mo_run (K, n, (zup I b3 j5 x1), F, J) cb sb Q 30 [some (.ref a0), some (.int (x1 + (1 : Int32))), some (.int x2), some (.int (x3 + (1 : Int32))), none, none, none, none] []))) ∧ (¬ x5 ≤ 0 → K a0 = 9 ∧ (∃ b7 : Nat, F a0 19 = some b7 ∧ (∃ b8 : Nat, F a0 20 = some b8 ∧ (∃ b9 : Nat, F a0 23 = some b9 ∧ K b9 = 21 ∧ (∃ j11 : Nat, (x5 - (1 : Int32)) = nI j11 ∧ j11 < n b9 ∧ j11 < 2147483648 ∧ AW E m_Mo_byKeys (K, n, I, F, J) 0 0 (zAft E m_Mo_run cb sb Q 274 [some (.ref a0), some (.int x1), some (.int x2), some (.int x3), none, some (.int x5), none, none] []) 0 [some (.ref a0), some (.ref b7), some (.ref b8), some (.int (I b9 j11)), some (.ref b7), some (.ref b8), some (.int x1), none, none] []))))))) :
    AW E m_Mo_run (K, n, I, F, J) cb sb Q 242 [some (.ref a0), some (.int x1), some (.int x2), some (.int x3), none, some (.int x5), none, none] [] := by
  refine aw_iload (x := x5) d_Mo_run_242 rfl ?_
  refine aw_if_le (tgt := 302) d_Mo_run_244 (by decide) (fun cc1 => ?_) (fun cc1 => ?_)
  · replace w := w.1 cc1
    refine aw_aload_n (x := a0) d_Mo_run_302 rfl ?_
    obtain ⟨hk2, w⟩ := w
    obtain ⟨b3, hb3, w⟩ := w
    refine gs_Mo_58 rfl hk2 hb3 d_Mo_run_303 ?_
    refine aw_iload (x := x5) d_Mo_run_306 rfl ?_
    refine aw_iload_n (x := x1) d_Mo_run_308 rfl ?_
    obtain ⟨hk4, w⟩ := w
    obtain ⟨j5, hj5a, hj5b, hj5c, w⟩ := w
    refine aw_iastore j5 hk4 hj5a hj5b hj5c d_Mo_run_309 ?_
    refine aw_iinc (v := (x1 + (1 : Int32))) d_Mo_run_310 rfl (by rfl) (by decide) ?_
    refine aw_iinc (v := (x3 + (1 : Int32))) d_Mo_run_313 rfl (by rfl) (by decide) ?_
    refine aw_goto (tgt := 30) d_Mo_run_316 (by decide) ?_
    exact aw_weak (lv' := [some (.ref a0), some (.int (x1 + (1 : Int32))), some (.int x2), some (.int (x3 + (1 : Int32))), none, none, none, none]) ⟨rfl, rfl, rfl, rfl, trivial⟩ w
  · replace w := w.2 cc1
    refine aw_aload_n (x := a0) d_Mo_run_247 rfl ?_
    refine aw_aload_n (x := a0) d_Mo_run_248 rfl ?_
    obtain ⟨hk6, w⟩ := w
    obtain ⟨b7, hb7, w⟩ := w
    refine gs_Mo_46 rfl hk6 hb7 d_Mo_run_249 ?_
    refine aw_aload_n (x := a0) d_Mo_run_252 rfl ?_
    obtain ⟨b8, hb8, w⟩ := w
    refine gs_Mo_49 rfl hk6 hb8 d_Mo_run_253 ?_
    refine aw_aload_n (x := a0) d_Mo_run_256 rfl ?_
    obtain ⟨b9, hb9, w⟩ := w
    refine gs_Mo_58 rfl hk6 hb9 d_Mo_run_257 ?_
    refine aw_iload (x := x5) d_Mo_run_260 rfl ?_
    refine aw_iconst (v := (1 : Int32)) d_Mo_run_262 (by decide) ?_
    refine aw_isub d_Mo_run_263 ?_
    obtain ⟨hk10, w⟩ := w
    obtain ⟨j11, hj11a, hj11b, hj11c, w⟩ := w
    refine aw_iaload j11 hk10 hj11a hj11b hj11c d_Mo_run_264 ?_
    refine aw_aload_n (x := a0) d_Mo_run_265 rfl ?_
    refine gs_Mo_46 rfl hk6 hb7 d_Mo_run_266 ?_
    refine aw_aload_n (x := a0) d_Mo_run_269 rfl ?_
    refine gs_Mo_49 rfl hk6 hb8 d_Mo_run_270 ?_
    refine aw_iload_n (x := x1) d_Mo_run_273 rfl ?_
    exact aw_room (cb' := 0 + cb) (sb' := 0 + sb) (by omega) (by omega) (aw_weak (lv' := [some (.ref a0), some (.int x1), some (.int x2), some (.int x3), none, some (.int x5), none, none]) ⟨rfl, rfl, rfl, rfl, rfl, trivial⟩ (aw_callV (M' := m_Mo_byKeys) (lv0 := [some (.ref a0), some (.ref b7), some (.ref b8), some (.int (I b9 j11)), some (.ref b7), some (.ref b8), some (.int x1), none, none]) (As := [.ref b7, .ref b8, .int (I b9 j11), .ref b7, .ref b8, .int x1]) (rest := []) 8 1080 1082 1083 rfl (by decide) rfl hk6 tb_1080 tb_1082 tb_1083 (fun U hU => hU.p 54 rfl) rfl rfl 6 0 rfl rfl ⟨by decide, by decide, by decide +kernel, by decide +kernel, by decide, by decide⟩ (Nat.le_of_ble_eq_true rfl) ⟨rfl, rfl, rfl, rfl, rfl, rfl, rfl, trivial⟩ rfl d_Mo_run_274 w))
set_option maxRecDepth 20000 in
theorem r_Mo_run_277 {E : zE} {K n : Nat → Nat} {I : Nat → Nat → Int32} {F : Nat → Nat → Option Nat} {J : Nat → Nat → Int64} {cb sb : Nat} {Q : zO → zH → Prop} {a0 : Nat} {x1 : Int32} {x2 : Int32} {x3 : Int32} {x5 : Int32} {sx0 : Int32}
    (w : ((sx0 ≤ 0 → K a0 = 9 ∧ (∃ b3 : Nat, F a0 23 = some b3 ∧ K b3 = 21 ∧ (∃ j5 : Nat, x5 = nI j5 ∧ j5 < n b3 ∧ j5 < 2147483648 ∧ AW E m_Mo_run (K, n, (zup I b3 j5 x1), F, J) cb sb Q 30 [some (.ref a0), some (.int (x1 + (1 : Int32))), some (.int x2), some (.int (x3 + (1 : Int32))), none, none, none, none] []))) ∧ (¬ sx0 ≤ 0 → K a0 = 9 ∧ (∃ b7 : Nat, F a0 23 = some b7 ∧ K b7 = 21 ∧ (∃ j9 : Nat, (x5 - (1 : Int32)) = nI j9 ∧ j9 < n b7 ∧ j9 < 2147483648 ∧ (∃ j10 : Nat, x5 = nI j10 ∧ j10 < n b7 ∧ j10 < 2147483648 ∧ AW E m_Mo_run (K, n, (zup I b7 j10 (I b7 j9)), F, J) cb sb Q 242 [some (.ref a0), some (.int x1), some (.int x2), some (.int x3), none, some (.int (x5 + ((-1) : Int32))), none, none] [])))))) :
    AW E m_Mo_run (K, n, I, F, J) cb sb Q 277 [some (.ref a0), some (.int x1), some (.int x2), some (.int x3), none, some (.int x5), none, none] [.int sx0] := by
  refine aw_if_le (tgt := 302) d_Mo_run_277 (by decide) (fun cc1 => ?_) (fun cc1 => ?_)
  · replace w := w.1 cc1
    refine aw_aload_n (x := a0) d_Mo_run_302 rfl ?_
    obtain ⟨hk2, w⟩ := w
    obtain ⟨b3, hb3, w⟩ := w
    refine gs_Mo_58 rfl hk2 hb3 d_Mo_run_303 ?_
    refine aw_iload (x := x5) d_Mo_run_306 rfl ?_
    refine aw_iload_n (x := x1) d_Mo_run_308 rfl ?_
    obtain ⟨hk4, w⟩ := w
    obtain ⟨j5, hj5a, hj5b, hj5c, w⟩ := w
    refine aw_iastore j5 hk4 hj5a hj5b hj5c d_Mo_run_309 ?_
    refine aw_iinc (v := (x1 + (1 : Int32))) d_Mo_run_310 rfl (by rfl) (by decide) ?_
    refine aw_iinc (v := (x3 + (1 : Int32))) d_Mo_run_313 rfl (by rfl) (by decide) ?_
    refine aw_goto (tgt := 30) d_Mo_run_316 (by decide) ?_
    exact aw_weak (lv' := [some (.ref a0), some (.int (x1 + (1 : Int32))), some (.int x2), some (.int (x3 + (1 : Int32))), none, none, none, none]) ⟨rfl, rfl, rfl, rfl, trivial⟩ w
  · replace w := w.2 cc1
    refine aw_aload_n (x := a0) d_Mo_run_280 rfl ?_
    obtain ⟨hk6, w⟩ := w
    obtain ⟨b7, hb7, w⟩ := w
    refine gs_Mo_58 rfl hk6 hb7 d_Mo_run_281 ?_
    refine aw_iload (x := x5) d_Mo_run_284 rfl ?_
    refine aw_aload_n (x := a0) d_Mo_run_286 rfl ?_
    refine gs_Mo_58 rfl hk6 hb7 d_Mo_run_287 ?_
    refine aw_iload (x := x5) d_Mo_run_290 rfl ?_
    refine aw_iconst (v := (1 : Int32)) d_Mo_run_292 (by decide) ?_
    refine aw_isub d_Mo_run_293 ?_
    obtain ⟨hk8, w⟩ := w
    obtain ⟨j9, hj9a, hj9b, hj9c, w⟩ := w
    refine aw_iaload j9 hk8 hj9a hj9b hj9c d_Mo_run_294 ?_
    obtain ⟨j10, hj10a, hj10b, hj10c, w⟩ := w
    refine aw_iastore j10 hk8 hj10a hj10b hj10c d_Mo_run_295 ?_
    refine aw_iinc (v := (x5 + ((-1) : Int32))) d_Mo_run_296 rfl (by rfl) (by decide) ?_
    refine aw_goto (tgt := 242) d_Mo_run_299 (by decide) ?_
    exact aw_weak (lv' := [some (.ref a0), some (.int x1), some (.int x2), some (.int x3), none, some (.int (x5 + ((-1) : Int32))), none, none]) ⟨rfl, rfl, rfl, rfl, rfl, trivial⟩ w
set_option maxRecDepth 20000 in
theorem r_Mo_run_324 {E : zE} {K n : Nat → Nat} {I : Nat → Nat → Int32} {F : Nat → Nat → Option Nat} {J : Nat → Nat → Int64} {cb sb : Nat} {Q : zO → zH → Prop} {a0 : Nat} {x1 : Int32} {x3 : Int32} {x4 : Int32}
    (w : ((x1 ≤ x4 → AW E m_Mo_run (K, n, I, F, J) cb sb Q 384 [some (.ref a0), none, none, some (.int x3), some (.int (0 : Int32)), none, none, none] []) ∧ (¬ x1 ≤ x4 → ((x3 ≤ 0 → K a0 = 9 ∧ (∃ b4 : Nat, F a0 23 = some b4 ∧ K b4 = 21 ∧ (∃ j6 : Nat, x4 = nI j6 ∧ j6 < n b4 ∧ j6 < 2147483648 ∧ (∃ j7 : Nat, x3 = nI j7 ∧ j7 < n b4 ∧ j7 < 2147483648 ∧ AW E m_Mo_run (K, n, (zup I b4 j7 (I b4 j6)), F, J) cb sb Q 324 [some (.ref a0), some (.int x1), none, some (.int (x3 + (1 : Int32))), some (.int (x4 + (1 : Int32))), none, none, none] [])))) ∧ (¬ x3 ≤ 0 → K a0 = 9 ∧ (∃ b9 : Nat, F a0 23 = some b9 ∧ K b9 = 21 ∧ (∃ j11 : Nat, (x3 - (1 : Int32)) = nI j11 ∧ j11 < n b9 ∧ j11 < 2147483648 ∧ (∃ j12 : Nat, x4 = nI j12 ∧ j12 < n b9 ∧ j12 < 2147483648 ∧ AW E m_Mo_takesUp (K, n, I, F, J) 0 0 (zAft E m_Mo_run cb sb Q 350 [some (.ref a0), some (.int x1), none, some (.int x3), some (.int x4), none, none, none] []) 0 [some (.ref a0), some (.int (I b9 j11)), some (.int (I b9 j12)), none, none, none, none, none, none, none] [])))))))) :
    AW E m_Mo_run (K, n, I, F, J) cb sb Q 324 [some (.ref a0), some (.int x1), none, some (.int x3), some (.int x4), none, none, none] [] := by
  refine aw_iload (x := x4) d_Mo_run_324 rfl ?_
  refine aw_iload_n (x := x1) d_Mo_run_326 rfl ?_
  refine aw_icmp_ge (tgt := 381) d_Mo_run_327 (by decide) (fun cc1 => ?_) (fun cc1 => ?_)
  · replace w := w.1 cc1
    refine aw_iconst (v := (0 : Int32)) d_Mo_run_381 (by decide) ?_
    refine aw_istore d_Mo_run_382 (by decide) ?_
    exact aw_weak (lv' := [some (.ref a0), none, none, some (.int x3), some (.int (0 : Int32)), none, none, none]) ⟨rfl, rfl, rfl, trivial⟩ w
  · replace w := w.2 cc1
    refine aw_iload_n (x := x3) d_Mo_run_330 rfl ?_
    refine aw_if_le (tgt := 359) d_Mo_run_331 (by decide) (fun cc2 => ?_) (fun cc2 => ?_)
    · replace w := w.1 cc2
      refine aw_aload_n (x := a0) d_Mo_run_359 rfl ?_
      obtain ⟨hk3, w⟩ := w
      obtain ⟨b4, hb4, w⟩ := w
      refine gs_Mo_58 rfl hk3 hb4 d_Mo_run_360 ?_
      refine aw_iload_n (x := x3) d_Mo_run_363 rfl ?_
      refine aw_aload_n (x := a0) d_Mo_run_364 rfl ?_
      refine gs_Mo_58 rfl hk3 hb4 d_Mo_run_365 ?_
      refine aw_iload (x := x4) d_Mo_run_368 rfl ?_
      obtain ⟨hk5, w⟩ := w
      obtain ⟨j6, hj6a, hj6b, hj6c, w⟩ := w
      refine aw_iaload j6 hk5 hj6a hj6b hj6c d_Mo_run_370 ?_
      obtain ⟨j7, hj7a, hj7b, hj7c, w⟩ := w
      refine aw_iastore j7 hk5 hj7a hj7b hj7c d_Mo_run_371 ?_
      refine aw_iinc (v := (x3 + (1 : Int32))) d_Mo_run_372 rfl (by rfl) (by decide) ?_
      refine aw_iinc (v := (x4 + (1 : Int32))) d_Mo_run_375 rfl (by rfl) (by decide) ?_
      refine aw_goto (tgt := 324) d_Mo_run_378 (by decide) ?_
      exact aw_weak (lv' := [some (.ref a0), some (.int x1), none, some (.int (x3 + (1 : Int32))), some (.int (x4 + (1 : Int32))), none, none, none]) ⟨rfl, rfl, rfl, rfl, trivial⟩ w
    · replace w := w.2 cc2
      refine aw_aload_n (x := a0) d_Mo_run_334 rfl ?_
      refine aw_aload_n (x := a0) d_Mo_run_335 rfl ?_
      obtain ⟨hk8, w⟩ := w
      obtain ⟨b9, hb9, w⟩ := w
      refine gs_Mo_58 rfl hk8 hb9 d_Mo_run_336 ?_
      refine aw_iload_n (x := x3) d_Mo_run_339 rfl ?_
      refine aw_iconst (v := (1 : Int32)) d_Mo_run_340 (by decide) ?_
      refine aw_isub d_Mo_run_341 ?_
      obtain ⟨hk10, w⟩ := w
      obtain ⟨j11, hj11a, hj11b, hj11c, w⟩ := w
      refine aw_iaload j11 hk10 hj11a hj11b hj11c d_Mo_run_342 ?_
      refine aw_aload_n (x := a0) d_Mo_run_343 rfl ?_
      refine gs_Mo_58 rfl hk8 hb9 d_Mo_run_344 ?_
      refine aw_iload (x := x4) d_Mo_run_347 rfl ?_
      obtain ⟨j12, hj12a, hj12b, hj12c, w⟩ := w
      refine aw_iaload j12 hk10 hj12a hj12b hj12c d_Mo_run_349 ?_
      exact aw_room (cb' := 0 + cb) (sb' := 0 + sb) (by omega) (by omega) (aw_weak (lv' := [some (.ref a0), some (.int x1), none, some (.int x3), some (.int x4), none, none, none]) ⟨rfl, rfl, rfl, rfl, trivial⟩ (aw_callV (M' := m_Mo_takesUp) (lv0 := [some (.ref a0), some (.int (I b9 j11)), some (.int (I b9 j12)), none, none, none, none, none, none, none]) (As := [.int (I b9 j11), .int (I b9 j12)]) (rest := []) 8 1091 1093 1094 rfl (by decide) rfl hk8 tb_1091 tb_1093 tb_1094 (fun U hU => hU.p 56 rfl) rfl rfl 2 0 rfl rfl ⟨by decide, by decide, by decide +kernel, by decide +kernel, by decide, by decide⟩ (Nat.le_of_ble_eq_true rfl) ⟨rfl, rfl, rfl, trivial⟩ rfl d_Mo_run_350 w))
set_option maxRecDepth 20000 in
theorem r_Mo_run_353 {E : zE} {K n : Nat → Nat} {I : Nat → Nat → Int32} {F : Nat → Nat → Option Nat} {J : Nat → Nat → Int64} {cb sb : Nat} {Q : zO → zH → Prop} {a0 : Nat} {x1 : Int32} {x3 : Int32} {x4 : Int32} {sx0 : Int32}
    (w : ((sx0 = 0 → K a0 = 9 ∧ (∃ b3 : Nat, F a0 23 = some b3 ∧ K b3 = 21 ∧ (∃ j5 : Nat, x4 = nI j5 ∧ j5 < n b3 ∧ j5 < 2147483648 ∧ (∃ j6 : Nat, x3 = nI j6 ∧ j6 < n b3 ∧ j6 < 2147483648 ∧ AW E m_Mo_run (K, n, (zup I b3 j6 (I b3 j5)), F, J) cb sb Q 324 [some (.ref a0), some (.int x1), none, some (.int (x3 + (1 : Int32))), some (.int (x4 + (1 : Int32))), none, none, none] [])))) ∧ (¬ sx0 = 0 → AW E m_Mo_run (K, n, I, F, J) cb sb Q 324 [some (.ref a0), some (.int x1), none, some (.int x3), some (.int (x4 + (1 : Int32))), none, none, none] []))) :
    AW E m_Mo_run (K, n, I, F, J) cb sb Q 353 [some (.ref a0), some (.int x1), none, some (.int x3), some (.int x4), none, none, none] [.int sx0] := by
  refine aw_if_eq (tgt := 359) d_Mo_run_353 (by decide) (fun cc1 => ?_) (fun cc1 => ?_)
  · replace w := w.1 cc1
    refine aw_aload_n (x := a0) d_Mo_run_359 rfl ?_
    obtain ⟨hk2, w⟩ := w
    obtain ⟨b3, hb3, w⟩ := w
    refine gs_Mo_58 rfl hk2 hb3 d_Mo_run_360 ?_
    refine aw_iload_n (x := x3) d_Mo_run_363 rfl ?_
    refine aw_aload_n (x := a0) d_Mo_run_364 rfl ?_
    refine gs_Mo_58 rfl hk2 hb3 d_Mo_run_365 ?_
    refine aw_iload (x := x4) d_Mo_run_368 rfl ?_
    obtain ⟨hk4, w⟩ := w
    obtain ⟨j5, hj5a, hj5b, hj5c, w⟩ := w
    refine aw_iaload j5 hk4 hj5a hj5b hj5c d_Mo_run_370 ?_
    obtain ⟨j6, hj6a, hj6b, hj6c, w⟩ := w
    refine aw_iastore j6 hk4 hj6a hj6b hj6c d_Mo_run_371 ?_
    refine aw_iinc (v := (x3 + (1 : Int32))) d_Mo_run_372 rfl (by rfl) (by decide) ?_
    refine aw_iinc (v := (x4 + (1 : Int32))) d_Mo_run_375 rfl (by rfl) (by decide) ?_
    refine aw_goto (tgt := 324) d_Mo_run_378 (by decide) ?_
    exact aw_weak (lv' := [some (.ref a0), some (.int x1), none, some (.int (x3 + (1 : Int32))), some (.int (x4 + (1 : Int32))), none, none, none]) ⟨rfl, rfl, rfl, rfl, trivial⟩ w
  · replace w := w.2 cc1
    refine aw_goto (tgt := 375) d_Mo_run_356 (by decide) ?_
    refine aw_iinc (v := (x4 + (1 : Int32))) d_Mo_run_375 rfl (by rfl) (by decide) ?_
    refine aw_goto (tgt := 324) d_Mo_run_378 (by decide) ?_
    exact aw_weak (lv' := [some (.ref a0), some (.int x1), none, some (.int x3), some (.int (x4 + (1 : Int32))), none, none, none]) ⟨rfl, rfl, rfl, rfl, trivial⟩ w
set_option maxRecDepth 20000 in
theorem r_Mo_run_384 {E : zE} {K n : Nat → Nat} {I : Nat → Nat → Int32} {F : Nat → Nat → Option Nat} {J : Nat → Nat → Int64} {cb sb : Nat} {Q : zO → zH → Prop} {a0 : Nat} {x3 : Int32} {x4 : Int32}
    (w : ((x3 ≤ x4 → K a0 = 9 ∧ (∃ b3 : Nat, F a0 26 = some b3 ∧ K b3 = 21 ∧ (∃ j5 : Nat, (0 : Int32) = nI j5 ∧ j5 < n b3 ∧ j5 < 2147483648 ∧ Q (.inl (some (.int (I b3 j5)))) (K, n, I, F, J)))) ∧ (¬ x3 ≤ x4 → K a0 = 9 ∧ (∃ b7 : Nat, F a0 23 = some b7 ∧ K b7 = 21 ∧ (∃ j9 : Nat, x4 = nI j9 ∧ j9 < n b7 ∧ j9 < 2147483648 ∧ (((I a0 18) = 0 → ((¬ (I a0 16) = (1 : Int32) → AW E m_Mo_run (K, n, I, F, J) cb sb Q 459 [some (.ref a0), none, none, some (.int x3), some (.int x4), some (.int (I b7 j9)), some (.int (0 : Int32)), none] []) ∧ ((I a0 16) = (1 : Int32) → (∃ b12 : Nat, F a0 19 = some b12 ∧ (∃ b13 : Nat, F a0 20 = some b13 ∧ AW E m_Mo_byteOf (K, n, I, F, J) 0 0 (zAft E m_Mo_run cb sb Q 444 [some (.ref a0), none, none, some (.int x3), some (.int x4), some (.int (I b7 j9)), none, none] []) 0 [some (.ref b12), some (.ref b13), some (.int (I b7 j9)), some (.int (0 : Int32))] []))))) ∧ (¬ (I a0 18) = 0 → ((¬ x4 = (2 : Int32) → ((¬ (I a0 16) = (1 : Int32) → AW E m_Mo_run (K, n, I, F, J) cb sb Q 459 [some (.ref a0), none, none, some (.int x3), some (.int x4), some (.int (I b7 j9)), some (.int (0 : Int32)), none] []) ∧ ((I a0 16) = (1 : Int32) → (∃ b16 : Nat, F a0 19 = some b16 ∧ (∃ b17 : Nat, F a0 20 = some b17 ∧ AW E m_Mo_byteOf (K, n, I, F, J) 0 0 (zAft E m_Mo_run cb sb Q 444 [some (.ref a0), none, none, some (.int x3), some (.int x4), some (.int (I b7 j9)), none, none] []) 0 [some (.ref b16), some (.ref b17), some (.int (I b7 j9)), some (.int (0 : Int32))] []))))) ∧ (x4 = (2 : Int32) → (∃ b18 : Nat, F a0 26 = some b18 ∧ K b18 = 21 ∧ (∃ j20 : Nat, (0 : Int32) = nI j20 ∧ j20 < n b18 ∧ j20 < 2147483648 ∧ Q (.inl (some (.int ((zup I a0 17 (16 : Int32)) b18 j20)))) (K, n, (zup I a0 17 (16 : Int32)), F, J)))))))))))) :
    AW E m_Mo_run (K, n, I, F, J) cb sb Q 384 [some (.ref a0), none, none, some (.int x3), some (.int x4), none, none, none] [] := by
  refine aw_iload (x := x4) d_Mo_run_384 rfl ?_
  refine aw_iload_n (x := x3) d_Mo_run_386 rfl ?_
  refine aw_icmp_ge (tgt := 549) d_Mo_run_387 (by decide) (fun cc1 => ?_) (fun cc1 => ?_)
  · replace w := w.1 cc1
    refine aw_aload_n (x := a0) d_Mo_run_549 rfl ?_
    obtain ⟨hk2, w⟩ := w
    obtain ⟨b3, hb3, w⟩ := w
    refine gs_Mo_68 rfl hk2 hb3 d_Mo_run_550 ?_
    refine aw_iconst (v := (0 : Int32)) d_Mo_run_553 (by decide) ?_
    obtain ⟨hk4, w⟩ := w
    obtain ⟨j5, hj5a, hj5b, hj5c, w⟩ := w
    refine aw_iaload j5 hk4 hj5a hj5b hj5c d_Mo_run_554 ?_
    exact aw_ireturn .int rfl rfl d_Mo_run_555 w
  · replace w := w.2 cc1
    refine aw_aload_n (x := a0) d_Mo_run_390 rfl ?_
    obtain ⟨hk6, w⟩ := w
    obtain ⟨b7, hb7, w⟩ := w
    refine gs_Mo_58 rfl hk6 hb7 d_Mo_run_391 ?_
    refine aw_iload (x := x4) d_Mo_run_394 rfl ?_
    obtain ⟨hk8, w⟩ := w
    obtain ⟨j9, hj9a, hj9b, hj9c, w⟩ := w
    refine aw_iaload j9 hk8 hj9a hj9b hj9c d_Mo_run_396 ?_
    refine aw_istore d_Mo_run_397 (by decide) ?_
    refine aw_aload_n (x := a0) d_Mo_run_399 rfl ?_
    refine gf_Mo_242 rfl hk6 d_Mo_run_400 ?_
    refine aw_if_eq (tgt := 425) d_Mo_run_403 (by decide) (fun cc10 => ?_) (fun cc10 => ?_)
    · replace w := w.1 cc10
      refine aw_aload_n (x := a0) d_Mo_run_425 rfl ?_
      refine gf_Mo_246 rfl hk6 d_Mo_run_426 ?_
      refine aw_iconst (v := (1 : Int32)) d_Mo_run_429 (by decide) ?_
      refine aw_icmp_ne (tgt := 456) d_Mo_run_430 (by decide) (fun cc11 => ?_) (fun cc11 => ?_)
      · replace w := w.1 cc11
        refine aw_iconst (v := (0 : Int32)) d_Mo_run_456 (by decide) ?_
        refine aw_istore d_Mo_run_457 (by decide) ?_
        exact aw_weak (lv' := [some (.ref a0), none, none, some (.int x3), some (.int x4), some (.int (I b7 j9)), some (.int (0 : Int32)), none]) ⟨rfl, rfl, rfl, rfl, rfl, trivial⟩ w
      · replace w := w.2 cc11
        refine aw_aload_n (x := a0) d_Mo_run_433 rfl ?_
        obtain ⟨b12, hb12, w⟩ := w
        refine gs_Mo_46 rfl hk6 hb12 d_Mo_run_434 ?_
        refine aw_aload_n (x := a0) d_Mo_run_437 rfl ?_
        obtain ⟨b13, hb13, w⟩ := w
        refine gs_Mo_49 rfl hk6 hb13 d_Mo_run_438 ?_
        refine aw_iload (x := (I b7 j9)) d_Mo_run_441 rfl ?_
        refine aw_iconst (v := (0 : Int32)) d_Mo_run_443 (by decide) ?_
        exact aw_room (cb' := 0 + cb) (sb' := 0 + sb) (by omega) (by omega) (aw_weak (lv' := [some (.ref a0), none, none, some (.int x3), some (.int x4), some (.int (I b7 j9)), none, none]) ⟨rfl, rfl, rfl, rfl, trivial⟩ (aw_callS (M' := m_Mo_byteOf) (lv0 := [some (.ref b12), some (.ref b13), some (.int (I b7 j9)), some (.int (0 : Int32))]) (As := [.ref b12, .ref b13, .int (I b7 j9), .int (0 : Int32)]) (rest := []) 1069 1070 1071 8 tb_1069 tb_1070 tb_1071 tb_8 rfl rfl 4 0 rfl rfl ⟨by decide, by decide, by decide +kernel, by decide +kernel, by decide, by decide⟩ (Nat.le_of_ble_eq_true rfl) ⟨rfl, rfl, rfl, rfl, trivial⟩ rfl d_Mo_run_444 w))
    · replace w := w.2 cc10
      refine aw_iload (x := x4) d_Mo_run_406 rfl ?_
      refine aw_iconst (v := (2 : Int32)) d_Mo_run_408 (by decide) ?_
      refine aw_icmp_ne (tgt := 425) d_Mo_run_409 (by decide) (fun cc14 => ?_) (fun cc14 => ?_)
      · replace w := w.1 cc14
        refine aw_aload_n (x := a0) d_Mo_run_425 rfl ?_
        refine gf_Mo_246 rfl hk6 d_Mo_run_426 ?_
        refine aw_iconst (v := (1 : Int32)) d_Mo_run_429 (by decide) ?_
        refine aw_icmp_ne (tgt := 456) d_Mo_run_430 (by decide) (fun cc15 => ?_) (fun cc15 => ?_)
        · replace w := w.1 cc15
          refine aw_iconst (v := (0 : Int32)) d_Mo_run_456 (by decide) ?_
          refine aw_istore d_Mo_run_457 (by decide) ?_
          exact aw_weak (lv' := [some (.ref a0), none, none, some (.int x3), some (.int x4), some (.int (I b7 j9)), some (.int (0 : Int32)), none]) ⟨rfl, rfl, rfl, rfl, rfl, trivial⟩ w
        · replace w := w.2 cc15
          refine aw_aload_n (x := a0) d_Mo_run_433 rfl ?_
          obtain ⟨b16, hb16, w⟩ := w
          refine gs_Mo_46 rfl hk6 hb16 d_Mo_run_434 ?_
          refine aw_aload_n (x := a0) d_Mo_run_437 rfl ?_
          obtain ⟨b17, hb17, w⟩ := w
          refine gs_Mo_49 rfl hk6 hb17 d_Mo_run_438 ?_
          refine aw_iload (x := (I b7 j9)) d_Mo_run_441 rfl ?_
          refine aw_iconst (v := (0 : Int32)) d_Mo_run_443 (by decide) ?_
          exact aw_room (cb' := 0 + cb) (sb' := 0 + sb) (by omega) (by omega) (aw_weak (lv' := [some (.ref a0), none, none, some (.int x3), some (.int x4), some (.int (I b7 j9)), none, none]) ⟨rfl, rfl, rfl, rfl, trivial⟩ (aw_callS (M' := m_Mo_byteOf) (lv0 := [some (.ref b16), some (.ref b17), some (.int (I b7 j9)), some (.int (0 : Int32))]) (As := [.ref b16, .ref b17, .int (I b7 j9), .int (0 : Int32)]) (rest := []) 1069 1070 1071 8 tb_1069 tb_1070 tb_1071 tb_8 rfl rfl 4 0 rfl rfl ⟨by decide, by decide, by decide +kernel, by decide +kernel, by decide, by decide⟩ (Nat.le_of_ble_eq_true rfl) ⟨rfl, rfl, rfl, rfl, trivial⟩ rfl d_Mo_run_444 w))
      · replace w := w.2 cc14
        refine aw_aload_n (x := a0) d_Mo_run_412 rfl ?_
        refine aw_bipush (v := (16 : Int32)) d_Mo_run_413 (by decide) ?_
        refine pf_Mo_225 rfl hk6 d_Mo_run_415 ?_
        refine aw_aload_n (x := a0) d_Mo_run_418 rfl ?_
        obtain ⟨b18, hb18, w⟩ := w
        refine gs_Mo_68 rfl hk6 hb18 d_Mo_run_419 ?_
        refine aw_iconst (v := (0 : Int32)) d_Mo_run_422 (by decide) ?_
        obtain ⟨hk19, w⟩ := w
        obtain ⟨j20, hj20a, hj20b, hj20c, w⟩ := w
        refine aw_iaload j20 hk19 hj20a hj20b hj20c d_Mo_run_423 ?_
        exact aw_ireturn .int rfl rfl d_Mo_run_424 w
set_option maxRecDepth 20000 in
theorem r_Mo_run_447 {E : zE} {K n : Nat → Nat} {I : Nat → Nat → Int32} {F : Nat → Nat → Option Nat} {J : Nat → Nat → Int64} {cb sb : Nat} {Q : zO → zH → Prop} {a0 : Nat} {x3 : Int32} {x4 : Int32} {x5 : Int32} {sx0 : Int32}
    (w : ((¬ (sx0 - sx0 / (2 : Int32) * (2 : Int32)) = (1 : Int32) → AW E m_Mo_run (K, n, I, F, J) cb sb Q 459 [some (.ref a0), none, none, some (.int x3), some (.int x4), some (.int x5), some (.int (0 : Int32)), none] []) ∧ ((sx0 - sx0 / (2 : Int32) * (2 : Int32)) = (1 : Int32) → AW E m_Mo_run (K, n, I, F, J) cb sb Q 543 [some (.ref a0), none, none, some (.int x3), some (.int x4), none, none, none] []))) :
    AW E m_Mo_run (K, n, I, F, J) cb sb Q 447 [some (.ref a0), none, none, some (.int x3), some (.int x4), some (.int x5), none, none] [.int sx0] := by
  refine aw_iconst (v := (2 : Int32)) d_Mo_run_447 (by decide) ?_
  refine aw_irem d_Mo_run_448 (by decide) ?_
  refine aw_iconst (v := (1 : Int32)) d_Mo_run_449 (by decide) ?_
  refine aw_icmp_ne (tgt := 456) d_Mo_run_450 (by decide) (fun cc1 => ?_) (fun cc1 => ?_)
  · replace w := w.1 cc1
    refine aw_iconst (v := (0 : Int32)) d_Mo_run_456 (by decide) ?_
    refine aw_istore d_Mo_run_457 (by decide) ?_
    exact aw_weak (lv' := [some (.ref a0), none, none, some (.int x3), some (.int x4), some (.int x5), some (.int (0 : Int32)), none]) ⟨rfl, rfl, rfl, rfl, rfl, trivial⟩ w
  · replace w := w.2 cc1
    refine aw_goto (tgt := 543) d_Mo_run_453 (by decide) ?_
    exact aw_weak (lv' := [some (.ref a0), none, none, some (.int x3), some (.int x4), none, none, none]) ⟨rfl, rfl, rfl, trivial⟩ w
set_option maxRecDepth 20000 in
theorem r_Mo_run_459 {E : zE} {K n : Nat → Nat} {I : Nat → Nat → Int32} {F : Nat → Nat → Option Nat} {J : Nat → Nat → Int64} {cb sb : Nat} {Q : zO → zH → Prop} {a0 : Nat} {x3 : Int32} {x4 : Int32} {x5 : Int32} {x6 : Int32}
    (w : K a0 = 9 ∧ (∃ b2 : Nat, F a0 20 = some b2 ∧ K b2 = 21 ∧ (∃ j4 : Nat, x5 = nI j4 ∧ j4 < n b2 ∧ j4 < 2147483648 ∧ (((I b2 j4) ≤ x6 → AW E m_Mo_lay (K, n, I, F, J) 0 0 (zAft E m_Mo_run cb sb Q 540 [some (.ref a0), none, none, some (.int x3), some (.int x4), none, none, none] []) 0 [some (.ref a0), some (.int x5), none, none, none] []) ∧ (¬ (I b2 j4) ≤ x6 → ((¬ (I a0 16) = (2 : Int32) → AW E m_Mo_lay (K, n, I, F, J) 0 0 (zAft E m_Mo_run cb sb Q 540 [some (.ref a0), none, none, some (.int x3), some (.int x4), none, none, none] []) 0 [some (.ref a0), some (.int x5), none, none, none] []) ∧ ((I a0 16) = (2 : Int32) → (∃ b7 : Nat, F a0 19 = some b7 ∧ K b7 = 21 ∧ (∃ j9 : Nat, (((100 : Int32) * x5) + x6) = nI j9 ∧ j9 < n b7 ∧ j9 < 2147483648 ∧ (((I b7 j9) ≤ (96 : Int32) → AW E m_Mo_run (K, n, (zup I b7 j9 (I b7 j9)), F, J) cb sb Q 459 [some (.ref a0), none, none, some (.int x3), some (.int x4), some (.int x5), some (.int (x6 + (1 : Int32))), none] []) ∧ (¬ (I b7 j9) ≤ (96 : Int32) → (((123 : Int32) ≤ (I b7 j9) → AW E m_Mo_run (K, n, (zup I b7 j9 (I b7 j9)), F, J) cb sb Q 459 [some (.ref a0), none, none, some (.int x3), some (.int x4), some (.int x5), some (.int (x6 + (1 : Int32))), none] []) ∧ (¬ (123 : Int32) ≤ (I b7 j9) → AW E m_Mo_run (K, n, (zup I b7 j9 ((I b7 j9) - (32 : Int32))), F, J) cb sb Q 459 [some (.ref a0), none, none, some (.int x3), some (.int x4), some (.int x5), some (.int (x6 + (1 : Int32))), none] []))))))))))))) :
    AW E m_Mo_run (K, n, I, F, J) cb sb Q 459 [some (.ref a0), none, none, some (.int x3), some (.int x4), some (.int x5), some (.int x6), none] [] := by
  refine aw_iload (x := x6) d_Mo_run_459 rfl ?_
  refine aw_aload_n (x := a0) d_Mo_run_461 rfl ?_
  obtain ⟨hk1, w⟩ := w
  obtain ⟨b2, hb2, w⟩ := w
  refine gs_Mo_49 rfl hk1 hb2 d_Mo_run_462 ?_
  refine aw_iload (x := x5) d_Mo_run_465 rfl ?_
  obtain ⟨hk3, w⟩ := w
  obtain ⟨j4, hj4a, hj4b, hj4c, w⟩ := w
  refine aw_iaload j4 hk3 hj4a hj4b hj4c d_Mo_run_467 ?_
  refine aw_icmp_ge (tgt := 537) d_Mo_run_468 (by decide) (fun cc5 => ?_) (fun cc5 => ?_)
  · replace w := w.1 cc5
    refine aw_aload_n (x := a0) d_Mo_run_537 rfl ?_
    refine aw_iload (x := x5) d_Mo_run_538 rfl ?_
    exact aw_room (cb' := 0 + cb) (sb' := 0 + sb) (by omega) (by omega) (aw_weak (lv' := [some (.ref a0), none, none, some (.int x3), some (.int x4), none, none, none]) ⟨rfl, rfl, rfl, trivial⟩ (aw_callV (M' := m_Mo_lay) (lv0 := [some (.ref a0), some (.int x5), none, none, none]) (As := [.int x5]) (rest := []) 8 1104 1106 1107 rfl (by decide) rfl hk1 tb_1104 tb_1106 tb_1107 (fun U hU => hU.p 58 rfl) rfl rfl 1 0 rfl rfl ⟨by decide, by decide, by decide +kernel, by decide +kernel, by decide, by decide⟩ (Nat.le_of_ble_eq_true rfl) ⟨rfl, rfl, trivial⟩ rfl d_Mo_run_540 w))
  · replace w := w.2 cc5
    refine aw_aload_n (x := a0) d_Mo_run_471 rfl ?_
    refine gf_Mo_246 rfl hk1 d_Mo_run_472 ?_
    refine aw_iconst (v := (2 : Int32)) d_Mo_run_475 (by decide) ?_
    refine aw_icmp_ne (tgt := 537) d_Mo_run_476 (by decide) (fun cc6 => ?_) (fun cc6 => ?_)
    · replace w := w.1 cc6
      refine aw_aload_n (x := a0) d_Mo_run_537 rfl ?_
      refine aw_iload (x := x5) d_Mo_run_538 rfl ?_
      exact aw_room (cb' := 0 + cb) (sb' := 0 + sb) (by omega) (by omega) (aw_weak (lv' := [some (.ref a0), none, none, some (.int x3), some (.int x4), none, none, none]) ⟨rfl, rfl, rfl, trivial⟩ (aw_callV (M' := m_Mo_lay) (lv0 := [some (.ref a0), some (.int x5), none, none, none]) (As := [.int x5]) (rest := []) 8 1104 1106 1107 rfl (by decide) rfl hk1 tb_1104 tb_1106 tb_1107 (fun U hU => hU.p 58 rfl) rfl rfl 1 0 rfl rfl ⟨by decide, by decide, by decide +kernel, by decide +kernel, by decide, by decide⟩ (Nat.le_of_ble_eq_true rfl) ⟨rfl, rfl, trivial⟩ rfl d_Mo_run_540 w))
    · replace w := w.2 cc6
      refine aw_aload_n (x := a0) d_Mo_run_479 rfl ?_
      obtain ⟨b7, hb7, w⟩ := w
      refine gs_Mo_46 rfl hk1 hb7 d_Mo_run_480 ?_
      refine aw_bipush (v := (100 : Int32)) d_Mo_run_483 (by decide) ?_
      refine aw_iload (x := x5) d_Mo_run_485 rfl ?_
      refine aw_imul d_Mo_run_487 ?_
      refine aw_iload (x := x6) d_Mo_run_488 rfl ?_
      refine aw_iadd d_Mo_run_490 ?_
      obtain ⟨hk8, w⟩ := w
      obtain ⟨j9, hj9a, hj9b, hj9c, w⟩ := w
      refine aw_iaload j9 hk8 hj9a hj9b hj9c d_Mo_run_491 ?_
      refine aw_istore d_Mo_run_492 (by decide) ?_
      refine aw_aload_n (x := a0) d_Mo_run_494 rfl ?_
      refine gs_Mo_46 rfl hk1 hb7 d_Mo_run_495 ?_
      refine aw_bipush (v := (100 : Int32)) d_Mo_run_498 (by decide) ?_
      refine aw_iload (x := x5) d_Mo_run_500 rfl ?_
      refine aw_imul d_Mo_run_502 ?_
      refine aw_iload (x := x6) d_Mo_run_503 rfl ?_
      refine aw_iadd d_Mo_run_505 ?_
      refine aw_iload (x := (I b7 j9)) d_Mo_run_506 rfl ?_
      refine aw_bipush (v := (96 : Int32)) d_Mo_run_508 (by decide) ?_
      refine aw_icmp_le (tgt := 528) d_Mo_run_510 (by decide) (fun cc10 => ?_) (fun cc10 => ?_)
      · replace w := w.1 cc10
        refine aw_iload (x := (I b7 j9)) d_Mo_run_528 rfl ?_
        refine aw_iastore j9 hk8 hj9a hj9b hj9c d_Mo_run_530 ?_
        refine aw_iinc (v := (x6 + (1 : Int32))) d_Mo_run_531 rfl (by rfl) (by decide) ?_
        refine aw_goto (tgt := 459) d_Mo_run_534 (by decide) ?_
        exact aw_weak (lv' := [some (.ref a0), none, none, some (.int x3), some (.int x4), some (.int x5), some (.int (x6 + (1 : Int32))), none]) ⟨rfl, rfl, rfl, rfl, rfl, trivial⟩ w
      · replace w := w.2 cc10
        refine aw_iload (x := (I b7 j9)) d_Mo_run_513 rfl ?_
        refine aw_bipush (v := (123 : Int32)) d_Mo_run_515 (by decide) ?_
        refine aw_icmp_ge (tgt := 528) d_Mo_run_517 (by decide) (fun cc11 => ?_) (fun cc11 => ?_)
        · replace w := w.1 cc11
          refine aw_iload (x := (I b7 j9)) d_Mo_run_528 rfl ?_
          refine aw_iastore j9 hk8 hj9a hj9b hj9c d_Mo_run_530 ?_
          refine aw_iinc (v := (x6 + (1 : Int32))) d_Mo_run_531 rfl (by rfl) (by decide) ?_
          refine aw_goto (tgt := 459) d_Mo_run_534 (by decide) ?_
          exact aw_weak (lv' := [some (.ref a0), none, none, some (.int x3), some (.int x4), some (.int x5), some (.int (x6 + (1 : Int32))), none]) ⟨rfl, rfl, rfl, rfl, rfl, trivial⟩ w
        · replace w := w.2 cc11
          refine aw_iload (x := (I b7 j9)) d_Mo_run_520 rfl ?_
          refine aw_bipush (v := (32 : Int32)) d_Mo_run_522 (by decide) ?_
          refine aw_isub d_Mo_run_524 ?_
          refine aw_goto (tgt := 530) d_Mo_run_525 (by decide) ?_
          refine aw_iastore j9 hk8 hj9a hj9b hj9c d_Mo_run_530 ?_
          refine aw_iinc (v := (x6 + (1 : Int32))) d_Mo_run_531 rfl (by rfl) (by decide) ?_
          refine aw_goto (tgt := 459) d_Mo_run_534 (by decide) ?_
          exact aw_weak (lv' := [some (.ref a0), none, none, some (.int x3), some (.int x4), some (.int x5), some (.int (x6 + (1 : Int32))), none]) ⟨rfl, rfl, rfl, rfl, rfl, trivial⟩ w
set_option maxRecDepth 20000 in
theorem r_Mo_run_543 {E : zE} {K n : Nat → Nat} {I : Nat → Nat → Int32} {F : Nat → Nat → Option Nat} {J : Nat → Nat → Int64} {cb sb : Nat} {Q : zO → zH → Prop} {a0 : Nat} {x3 : Int32} {x4 : Int32}
    (w : AW E m_Mo_run (K, n, I, F, J) cb sb Q 384 [some (.ref a0), none, none, some (.int x3), some (.int (x4 + (1 : Int32))), none, none, none] []) :
    AW E m_Mo_run (K, n, I, F, J) cb sb Q 543 [some (.ref a0), none, none, some (.int x3), some (.int x4), none, none, none] [] := by
  refine aw_iinc (v := (x4 + (1 : Int32))) d_Mo_run_543 rfl (by rfl) (by decide) ?_
  refine aw_goto (tgt := 384) d_Mo_run_546 (by decide) ?_
  exact aw_weak (lv' := [some (.ref a0), none, none, some (.int x3), some (.int (x4 + (1 : Int32))), none, none, none]) ⟨rfl, rfl, rfl, trivial⟩ w
set_option maxRecDepth 20000 in
theorem r_Mo_join_0 {E : zE} {K n : Nat → Nat} {I : Nat → Nat → Int32} {F : Nat → Nat → Option Nat} {J : Nat → Nat → Int64} {cb sb : Nat} {Q : zO → zH → Prop} {a0 : Nat} {x1 : Int32} {x2 : Int32}
    (w : K a0 = 9 ∧ (∃ b2 : Nat, F a0 5 = some b2 ∧ K b2 = 21 ∧ (∃ j4 : Nat, (1 : Int32) = nI j4 ∧ j4 < n b2 ∧ j4 < 2147483648 ∧ ((((zup I a0 0 (0 : Int32)) b2 j4) = 0 → Q (.inl (some (.int ((-1) : Int32)))) (K, n, (zup I a0 0 (0 : Int32)), F, J)) ∧ (¬ ((zup I a0 0 (0 : Int32)) b2 j4) = 0 → ((x1 < 0 → Q (.inl (some (.int ((-1) : Int32)))) (K, n, (zup I a0 0 (0 : Int32)), F, J)) ∧ (¬ x1 < 0 → (((2 : Int32) < x1 → Q (.inl (some (.int ((-1) : Int32)))) (K, n, (zup I a0 0 (0 : Int32)), F, J)) ∧ (¬ (2 : Int32) < x1 → ((x2 < 0 → Q (.inl (some (.int ((-1) : Int32)))) (K, n, (zup I a0 0 (0 : Int32)), F, J)) ∧ (¬ x2 < 0 → (((2 : Int32) < x2 → Q (.inl (some (.int ((-1) : Int32)))) (K, n, (zup I a0 0 (0 : Int32)), F, J)) ∧ (¬ (2 : Int32) < x2 → ((¬ x1 = x2 → AW E m_Mo_join (K, n, (zup I a0 0 (0 : Int32)), F, J) cb sb Q 44 [some (.ref a0), some (.int x1), some (.int x2), some (.int (0 : Int32)), some (.int (0 : Int32)), none, none, none] []) ∧ (x1 = x2 → Q (.inl (some (.int ((-1) : Int32)))) (K, n, (zup I a0 0 (0 : Int32)), F, J)))))))))))))))) :
    AW E m_Mo_join (K, n, I, F, J) cb sb Q 0 [some (.ref a0), some (.int x1), some (.int x2), none, none, none, none, none] [] := by
  refine aw_aload_n (x := a0) d_Mo_join_0 rfl ?_
  refine aw_iconst (v := (0 : Int32)) d_Mo_join_1 (by decide) ?_
  obtain ⟨hk1, w⟩ := w
  refine pf_Mo_114 rfl hk1 d_Mo_join_2 ?_
  refine aw_aload_n (x := a0) d_Mo_join_5 rfl ?_
  obtain ⟨b2, hb2, w⟩ := w
  refine gs_Mo_16 rfl hk1 hb2 d_Mo_join_6 ?_
  refine aw_iconst (v := (1 : Int32)) d_Mo_join_9 (by decide) ?_
  obtain ⟨hk3, w⟩ := w
  obtain ⟨j4, hj4a, hj4b, hj4c, w⟩ := w
  refine aw_iaload j4 hk3 hj4a hj4b hj4c d_Mo_join_10 ?_
  refine aw_if_eq (tgt := 37) d_Mo_join_11 (by decide) (fun cc5 => ?_) (fun cc5 => ?_)
  · replace w := w.1 cc5
    refine aw_iconst (v := ((-1) : Int32)) d_Mo_join_37 (by decide) ?_
    exact aw_ireturn .int rfl rfl d_Mo_join_38 w
  · replace w := w.2 cc5
    refine aw_iload_n (x := x1) d_Mo_join_14 rfl ?_
    refine aw_if_lt (tgt := 37) d_Mo_join_15 (by decide) (fun cc6 => ?_) (fun cc6 => ?_)
    · replace w := w.1 cc6
      refine aw_iconst (v := ((-1) : Int32)) d_Mo_join_37 (by decide) ?_
      exact aw_ireturn .int rfl rfl d_Mo_join_38 w
    · replace w := w.2 cc6
      refine aw_iload_n (x := x1) d_Mo_join_18 rfl ?_
      refine aw_iconst (v := (2 : Int32)) d_Mo_join_19 (by decide) ?_
      refine aw_icmp_gt (tgt := 37) d_Mo_join_20 (by decide) (fun cc7 => ?_) (fun cc7 => ?_)
      · replace w := w.1 cc7
        refine aw_iconst (v := ((-1) : Int32)) d_Mo_join_37 (by decide) ?_
        exact aw_ireturn .int rfl rfl d_Mo_join_38 w
      · replace w := w.2 cc7
        refine aw_iload_n (x := x2) d_Mo_join_23 rfl ?_
        refine aw_if_lt (tgt := 37) d_Mo_join_24 (by decide) (fun cc8 => ?_) (fun cc8 => ?_)
        · replace w := w.1 cc8
          refine aw_iconst (v := ((-1) : Int32)) d_Mo_join_37 (by decide) ?_
          exact aw_ireturn .int rfl rfl d_Mo_join_38 w
        · replace w := w.2 cc8
          refine aw_iload_n (x := x2) d_Mo_join_27 rfl ?_
          refine aw_iconst (v := (2 : Int32)) d_Mo_join_28 (by decide) ?_
          refine aw_icmp_gt (tgt := 37) d_Mo_join_29 (by decide) (fun cc9 => ?_) (fun cc9 => ?_)
          · replace w := w.1 cc9
            refine aw_iconst (v := ((-1) : Int32)) d_Mo_join_37 (by decide) ?_
            exact aw_ireturn .int rfl rfl d_Mo_join_38 w
          · replace w := w.2 cc9
            refine aw_iload_n (x := x1) d_Mo_join_32 rfl ?_
            refine aw_iload_n (x := x2) d_Mo_join_33 rfl ?_
            refine aw_icmp_ne (tgt := 39) d_Mo_join_34 (by decide) (fun cc10 => ?_) (fun cc10 => ?_)
            · replace w := w.1 cc10
              refine aw_iconst (v := (0 : Int32)) d_Mo_join_39 (by decide) ?_
              refine aw_istore_n d_Mo_join_40 (by decide) ?_
              refine aw_iconst (v := (0 : Int32)) d_Mo_join_41 (by decide) ?_
              refine aw_istore d_Mo_join_42 (by decide) ?_
              exact aw_weak (lv' := [some (.ref a0), some (.int x1), some (.int x2), some (.int (0 : Int32)), some (.int (0 : Int32)), none, none, none]) ⟨rfl, rfl, rfl, rfl, rfl, trivial⟩ w
            · replace w := w.2 cc10
              refine aw_iconst (v := ((-1) : Int32)) d_Mo_join_37 (by decide) ?_
              exact aw_ireturn .int rfl rfl d_Mo_join_38 w
set_option maxRecDepth 20000 in
theorem r_Mo_join_44 {E : zE} {K n : Nat → Nat} {I : Nat → Nat → Int32} {F : Nat → Nat → Option Nat} {J : Nat → Nat → Int64} {cb sb : Nat} {Q : zO → zH → Prop} {a0 : Nat} {x1 : Int32} {x2 : Int32} {x3 : Int32} {x4 : Int32}
    (w : K a0 = 9 ∧ (((I a0 15) ≤ x4 → (∃ b3 : Nat, F a0 26 = some b3 ∧ K b3 = 21 ∧ (∃ j5 : Nat, (2 : Int32) = nI j5 ∧ j5 < n b3 ∧ j5 < 2147483648 ∧ AW E m_Mo_join (K, n, (zup (zup I b3 j5 (0 : Int32)) a0 30 (0 : Int32)), F, J) cb sb Q 108 [some (.ref a0), some (.int x1), some (.int x2), some (.int x3), some (.int (0 : Int32)), none, none, none] []))) ∧ (¬ (I a0 15) ≤ x4 → (∃ b6 : Nat, F a0 14 = some b6 ∧ K b6 = 21 ∧ (∃ j8 : Nat, x4 = nI j8 ∧ j8 < n b6 ∧ j8 < 2147483648 ∧ ((¬ (I b6 j8) = x1 → AW E m_Mo_join (K, n, I, F, J) cb sb Q 44 [some (.ref a0), some (.int x1), some (.int x2), some (.int x3), some (.int (x4 + (1 : Int32))), none, none, none] []) ∧ ((I b6 j8) = x1 → (∃ b10 : Nat, F a0 13 = some b10 ∧ K b10 = 21 ∧ (∃ j12 : Nat, x4 = nI j12 ∧ j12 < n b10 ∧ j12 < 2147483648 ∧ (((I b10 j12) ≤ x3 → AW E m_Mo_join (K, n, I, F, J) cb sb Q 44 [some (.ref a0), some (.int x1), some (.int x2), some (.int x3), some (.int (x4 + (1 : Int32))), none, none, none] []) ∧ (¬ (I b10 j12) ≤ x3 → AW E m_Mo_join (K, n, I, F, J) cb sb Q 44 [some (.ref a0), some (.int x1), some (.int x2), some (.int (I b10 j12)), some (.int (x4 + (1 : Int32))), none, none, none] []))))))))))) :
    AW E m_Mo_join (K, n, I, F, J) cb sb Q 44 [some (.ref a0), some (.int x1), some (.int x2), some (.int x3), some (.int x4), none, none, none] [] := by
  refine aw_iload (x := x4) d_Mo_join_44 rfl ?_
  refine aw_aload_n (x := a0) d_Mo_join_46 rfl ?_
  obtain ⟨hk1, w⟩ := w
  refine gf_Mo_191 rfl hk1 d_Mo_join_47 ?_
  refine aw_icmp_ge (tgt := 93) d_Mo_join_50 (by decide) (fun cc2 => ?_) (fun cc2 => ?_)
  · replace w := w.1 cc2
    refine aw_aload_n (x := a0) d_Mo_join_93 rfl ?_
    obtain ⟨b3, hb3, w⟩ := w
    refine gs_Mo_68 rfl hk1 hb3 d_Mo_join_94 ?_
    refine aw_iconst (v := (2 : Int32)) d_Mo_join_97 (by decide) ?_
    refine aw_iconst (v := (0 : Int32)) d_Mo_join_98 (by decide) ?_
    obtain ⟨hk4, w⟩ := w
    obtain ⟨j5, hj5a, hj5b, hj5c, w⟩ := w
    refine aw_iastore j5 hk4 hj5a hj5b hj5c d_Mo_join_99 ?_
    refine aw_aload_n (x := a0) d_Mo_join_100 rfl ?_
    refine aw_iconst (v := (0 : Int32)) d_Mo_join_101 (by decide) ?_
    refine pf_Mo_252 rfl hk1 d_Mo_join_102 ?_
    refine aw_iconst (v := (0 : Int32)) d_Mo_join_105 (by decide) ?_
    refine aw_istore d_Mo_join_106 (by decide) ?_
    exact aw_weak (lv' := [some (.ref a0), some (.int x1), some (.int x2), some (.int x3), some (.int (0 : Int32)), none, none, none]) ⟨rfl, rfl, rfl, rfl, rfl, trivial⟩ w
  · replace w := w.2 cc2
    refine aw_aload_n (x := a0) d_Mo_join_53 rfl ?_
    obtain ⟨b6, hb6, w⟩ := w
    refine gs_Mo_43 rfl hk1 hb6 d_Mo_join_54 ?_
    refine aw_iload (x := x4) d_Mo_join_57 rfl ?_
    obtain ⟨hk7, w⟩ := w
    obtain ⟨j8, hj8a, hj8b, hj8c, w⟩ := w
    refine aw_iaload j8 hk7 hj8a hj8b hj8c d_Mo_join_59 ?_
    refine aw_iload_n (x := x1) d_Mo_join_60 rfl ?_
    refine aw_icmp_ne (tgt := 85) d_Mo_join_61 (by decide) (fun cc9 => ?_) (fun cc9 => ?_)
    · replace w := w.1 cc9
      refine aw_iload_n (x := x3) d_Mo_join_85 rfl ?_
      refine aw_istore_n d_Mo_join_86 (by decide) ?_
      refine aw_iinc (v := (x4 + (1 : Int32))) d_Mo_join_87 rfl (by rfl) (by decide) ?_
      refine aw_goto (tgt := 44) d_Mo_join_90 (by decide) ?_
      exact aw_weak (lv' := [some (.ref a0), some (.int x1), some (.int x2), some (.int x3), some (.int (x4 + (1 : Int32))), none, none, none]) ⟨rfl, rfl, rfl, rfl, rfl, trivial⟩ w
    · replace w := w.2 cc9
      refine aw_aload_n (x := a0) d_Mo_join_64 rfl ?_
      obtain ⟨b10, hb10, w⟩ := w
      refine gs_Mo_40 rfl hk1 hb10 d_Mo_join_65 ?_
      refine aw_iload (x := x4) d_Mo_join_68 rfl ?_
      obtain ⟨hk11, w⟩ := w
      obtain ⟨j12, hj12a, hj12b, hj12c, w⟩ := w
      refine aw_iaload j12 hk11 hj12a hj12b hj12c d_Mo_join_70 ?_
      refine aw_iload_n (x := x3) d_Mo_join_71 rfl ?_
      refine aw_icmp_le (tgt := 85) d_Mo_join_72 (by decide) (fun cc13 => ?_) (fun cc13 => ?_)
      · replace w := w.1 cc13
        refine aw_iload_n (x := x3) d_Mo_join_85 rfl ?_
        refine aw_istore_n d_Mo_join_86 (by decide) ?_
        refine aw_iinc (v := (x4 + (1 : Int32))) d_Mo_join_87 rfl (by rfl) (by decide) ?_
        refine aw_goto (tgt := 44) d_Mo_join_90 (by decide) ?_
        exact aw_weak (lv' := [some (.ref a0), some (.int x1), some (.int x2), some (.int x3), some (.int (x4 + (1 : Int32))), none, none, none]) ⟨rfl, rfl, rfl, rfl, rfl, trivial⟩ w
      · replace w := w.2 cc13
        refine aw_aload_n (x := a0) d_Mo_join_75 rfl ?_
        refine gs_Mo_40 rfl hk1 hb10 d_Mo_join_76 ?_
        refine aw_iload (x := x4) d_Mo_join_79 rfl ?_
        refine aw_iaload j12 hk11 hj12a hj12b hj12c d_Mo_join_81 ?_
        refine aw_goto (tgt := 86) d_Mo_join_82 (by decide) ?_
        refine aw_istore_n d_Mo_join_86 (by decide) ?_
        refine aw_iinc (v := (x4 + (1 : Int32))) d_Mo_join_87 rfl (by rfl) (by decide) ?_
        refine aw_goto (tgt := 44) d_Mo_join_90 (by decide) ?_
        exact aw_weak (lv' := [some (.ref a0), some (.int x1), some (.int x2), some (.int (I b10 j12)), some (.int (x4 + (1 : Int32))), none, none, none]) ⟨rfl, rfl, rfl, rfl, rfl, trivial⟩ w
set_option maxRecDepth 20000 in
theorem r_Mo_join_108 {E : zE} {K n : Nat → Nat} {I : Nat → Nat → Int32} {F : Nat → Nat → Option Nat} {J : Nat → Nat → Int64} {cb sb : Nat} {Q : zO → zH → Prop} {a0 : Nat} {x1 : Int32} {x2 : Int32} {x3 : Int32} {x4 : Int32}
    (w : K a0 = 9 ∧ (((I a0 15) ≤ x4 → (∃ b3 : Nat, F a0 26 = some b3 ∧ K b3 = 21 ∧ (∃ j5 : Nat, (2 : Int32) = nI j5 ∧ j5 < n b3 ∧ j5 < 2147483648 ∧ Q (.inl (some (.int (I b3 j5)))) (K, n, I, F, J)))) ∧ (¬ (I a0 15) ≤ x4 → (∃ b6 : Nat, F a0 14 = some b6 ∧ K b6 = 21 ∧ (∃ j8 : Nat, x4 = nI j8 ∧ j8 < n b6 ∧ j8 < 2147483648 ∧ (((I b6 j8) = x1 → AW E m_Mo_join (K, n, I, F, J) cb sb Q 137 [some (.ref a0), some (.int x1), some (.int x2), some (.int x3), some (.int x4), some (.int (1 : Int32)), some (.int (0 : Int32)), none] []) ∧ (¬ (I b6 j8) = x1 → AW E m_Mo_join (K, n, I, F, J) cb sb Q 108 [some (.ref a0), some (.int x1), some (.int x2), some (.int x3), some (.int (x4 + (1 : Int32))), none, none, none] []))))))) :
    AW E m_Mo_join (K, n, I, F, J) cb sb Q 108 [some (.ref a0), some (.int x1), some (.int x2), some (.int x3), some (.int x4), none, none, none] [] := by
  refine aw_iload (x := x4) d_Mo_join_108 rfl ?_
  refine aw_aload_n (x := a0) d_Mo_join_110 rfl ?_
  obtain ⟨hk1, w⟩ := w
  refine gf_Mo_191 rfl hk1 d_Mo_join_111 ?_
  refine aw_icmp_ge (tgt := 336) d_Mo_join_114 (by decide) (fun cc2 => ?_) (fun cc2 => ?_)
  · replace w := w.1 cc2
    refine aw_aload_n (x := a0) d_Mo_join_336 rfl ?_
    obtain ⟨b3, hb3, w⟩ := w
    refine gs_Mo_68 rfl hk1 hb3 d_Mo_join_337 ?_
    refine aw_iconst (v := (2 : Int32)) d_Mo_join_340 (by decide) ?_
    obtain ⟨hk4, w⟩ := w
    obtain ⟨j5, hj5a, hj5b, hj5c, w⟩ := w
    refine aw_iaload j5 hk4 hj5a hj5b hj5c d_Mo_join_341 ?_
    exact aw_ireturn .int rfl rfl d_Mo_join_342 w
  · replace w := w.2 cc2
    refine aw_aload_n (x := a0) d_Mo_join_117 rfl ?_
    obtain ⟨b6, hb6, w⟩ := w
    refine gs_Mo_43 rfl hk1 hb6 d_Mo_join_118 ?_
    refine aw_iload (x := x4) d_Mo_join_121 rfl ?_
    obtain ⟨hk7, w⟩ := w
    obtain ⟨j8, hj8a, hj8b, hj8c, w⟩ := w
    refine aw_iaload j8 hk7 hj8a hj8b hj8c d_Mo_join_123 ?_
    refine aw_iload_n (x := x1) d_Mo_join_124 rfl ?_
    refine aw_icmp_eq (tgt := 131) d_Mo_join_125 (by decide) (fun cc9 => ?_) (fun cc9 => ?_)
    · replace w := w.1 cc9
      refine aw_iconst (v := (1 : Int32)) d_Mo_join_131 (by decide) ?_
      refine aw_istore d_Mo_join_132 (by decide) ?_
      refine aw_iconst (v := (0 : Int32)) d_Mo_join_134 (by decide) ?_
      refine aw_istore d_Mo_join_135 (by decide) ?_
      exact aw_weak (lv' := [some (.ref a0), some (.int x1), some (.int x2), some (.int x3), some (.int x4), some (.int (1 : Int32)), some (.int (0 : Int32)), none]) ⟨rfl, rfl, rfl, rfl, rfl, rfl, rfl, trivial⟩ w
    · replace w := w.2 cc9
      refine aw_goto (tgt := 330) d_Mo_join_128 (by decide) ?_
      refine aw_iinc (v := (x4 + (1 : Int32))) d_Mo_join_330 rfl (by rfl) (by decide) ?_
      refine aw_goto (tgt := 108) d_Mo_join_333 (by decide) ?_
      exact aw_weak (lv' := [some (.ref a0), some (.int x1), some (.int x2), some (.int x3), some (.int (x4 + (1 : Int32))), none, none, none]) ⟨rfl, rfl, rfl, rfl, rfl, trivial⟩ w
set_option maxRecDepth 20000 in
theorem r_Mo_join_137 {E : zE} {K n : Nat → Nat} {I : Nat → Nat → Int32} {F : Nat → Nat → Option Nat} {J : Nat → Nat → Int64} {cb sb : Nat} {Q : zO → zH → Prop} {a0 : Nat} {x1 : Int32} {x2 : Int32} {x3 : Int32} {x4 : Int32} {x5 : Int32} {x6 : Int32}
    (w : K a0 = 9 ∧ (((I a0 15) ≤ x6 → ((¬ x5 = 0 → (∃ b4 : Nat, F a0 29 = some b4 ∧ K b4 = 21 ∧ (∃ j6 : Nat, (I a0 30) = nI j6 ∧ j6 < n b4 ∧ j6 < 2147483648 ∧ AW E m_Mo_join (K, n, (zup (zup I b4 j6 x4) a0 30 (((zup I b4 j6 x4) a0 30) + (1 : Int32))), F, J) cb sb Q 108 [some (.ref a0), some (.int x1), some (.int x2), some (.int x3), some (.int (x4 + (1 : Int32))), none, none, none] []))) ∧ (x5 = 0 → AW E m_Mo_join (K, n, I, F, J) cb sb Q 108 [some (.ref a0), some (.int x1), some (.int x2), some (.int x3), some (.int (x4 + (1 : Int32))), none, none, none] []))) ∧ (¬ (I a0 15) ≤ x6 → (∃ b7 : Nat, F a0 14 = some b7 ∧ K b7 = 21 ∧ (∃ j9 : Nat, x6 = nI j9 ∧ j9 < n b7 ∧ j9 < 2147483648 ∧ ((¬ (I b7 j9) = x2 → AW E m_Mo_join (K, n, I, F, J) cb sb Q 137 [some (.ref a0), some (.int x1), some (.int x2), some (.int x3), some (.int x4), some (.int x5), some (.int (x6 + (1 : Int32))), none] []) ∧ ((I b7 j9) = x2 → (∃ b11 : Nat, F a0 12 = some b11 ∧ (∃ b12 : Nat, F a0 13 = some b12 ∧ AW E m_Mo_byKey (K, n, I, F, J) 0 0 (zAft E m_Mo_join cb sb Q 179 [some (.ref a0), some (.int x1), some (.int x2), some (.int x3), some (.int x4), some (.int x5), some (.int x6), none] []) 0 [some (.ref a0), some (.int (0 : Int32)), some (.ref b11), some (.ref b12), some (.int x4), some (.ref b11), some (.ref b12), some (.int x6), none, none, none, none, none] []))))))))) :
    AW E m_Mo_join (K, n, I, F, J) cb sb Q 137 [some (.ref a0), some (.int x1), some (.int x2), some (.int x3), some (.int x4), some (.int x5), some (.int x6), none] [] := by
  refine aw_iload (x := x6) d_Mo_join_137 rfl ?_
  refine aw_aload_n (x := a0) d_Mo_join_139 rfl ?_
  obtain ⟨hk1, w⟩ := w
  refine gf_Mo_191 rfl hk1 d_Mo_join_140 ?_
  refine aw_icmp_ge (tgt := 301) d_Mo_join_143 (by decide) (fun cc2 => ?_) (fun cc2 => ?_)
  · replace w := w.1 cc2
    refine aw_iload (x := x5) d_Mo_join_301 rfl ?_
    refine aw_if_ne (tgt := 309) d_Mo_join_303 (by decide) (fun cc3 => ?_) (fun cc3 => ?_)
    · replace w := w.1 cc3
      refine aw_aload_n (x := a0) d_Mo_join_309 rfl ?_
      obtain ⟨b4, hb4, w⟩ := w
      refine gs_Mo_77 rfl hk1 hb4 d_Mo_join_310 ?_
      refine aw_aload_n (x := a0) d_Mo_join_313 rfl ?_
      refine gf_Mo_252 rfl hk1 d_Mo_join_314 ?_
      refine aw_iload (x := x4) d_Mo_join_317 rfl ?_
      obtain ⟨hk5, w⟩ := w
      obtain ⟨j6, hj6a, hj6b, hj6c, w⟩ := w
      refine aw_iastore j6 hk5 hj6a hj6b hj6c d_Mo_join_319 ?_
      refine aw_aload_n (x := a0) d_Mo_join_320 rfl ?_
      refine aw_dup d_Mo_join_321 rfl ?_
      refine gf_Mo_252 rfl hk1 d_Mo_join_322 ?_
      refine aw_iconst (v := (1 : Int32)) d_Mo_join_325 (by decide) ?_
      refine aw_iadd d_Mo_join_326 ?_
      refine pf_Mo_252 rfl hk1 d_Mo_join_327 ?_
      refine aw_iinc (v := (x4 + (1 : Int32))) d_Mo_join_330 rfl (by rfl) (by decide) ?_
      refine aw_goto (tgt := 108) d_Mo_join_333 (by decide) ?_
      exact aw_weak (lv' := [some (.ref a0), some (.int x1), some (.int x2), some (.int x3), some (.int (x4 + (1 : Int32))), none, none, none]) ⟨rfl, rfl, rfl, rfl, rfl, trivial⟩ w
    · replace w := w.2 cc3
      refine aw_goto (tgt := 330) d_Mo_join_306 (by decide) ?_
      refine aw_iinc (v := (x4 + (1 : Int32))) d_Mo_join_330 rfl (by rfl) (by decide) ?_
      refine aw_goto (tgt := 108) d_Mo_join_333 (by decide) ?_
      exact aw_weak (lv' := [some (.ref a0), some (.int x1), some (.int x2), some (.int x3), some (.int (x4 + (1 : Int32))), none, none, none]) ⟨rfl, rfl, rfl, rfl, rfl, trivial⟩ w
  · replace w := w.2 cc2
    refine aw_aload_n (x := a0) d_Mo_join_146 rfl ?_
    obtain ⟨b7, hb7, w⟩ := w
    refine gs_Mo_43 rfl hk1 hb7 d_Mo_join_147 ?_
    refine aw_iload (x := x6) d_Mo_join_150 rfl ?_
    obtain ⟨hk8, w⟩ := w
    obtain ⟨j9, hj9a, hj9b, hj9c, w⟩ := w
    refine aw_iaload j9 hk8 hj9a hj9b hj9c d_Mo_join_152 ?_
    refine aw_iload_n (x := x2) d_Mo_join_153 rfl ?_
    refine aw_icmp_ne (tgt := 295) d_Mo_join_154 (by decide) (fun cc10 => ?_) (fun cc10 => ?_)
    · replace w := w.1 cc10
      refine aw_iinc (v := (x6 + (1 : Int32))) d_Mo_join_295 rfl (by rfl) (by decide) ?_
      refine aw_goto (tgt := 137) d_Mo_join_298 (by decide) ?_
      exact aw_weak (lv' := [some (.ref a0), some (.int x1), some (.int x2), some (.int x3), some (.int x4), some (.int x5), some (.int (x6 + (1 : Int32))), none]) ⟨rfl, rfl, rfl, rfl, rfl, rfl, rfl, trivial⟩ w
    · replace w := w.2 cc10
      refine aw_aload_n (x := a0) d_Mo_join_157 rfl ?_
      refine aw_iconst (v := (0 : Int32)) d_Mo_join_158 (by decide) ?_
      refine aw_aload_n (x := a0) d_Mo_join_159 rfl ?_
      obtain ⟨b11, hb11, w⟩ := w
      refine gs_Mo_37 rfl hk1 hb11 d_Mo_join_160 ?_
      refine aw_aload_n (x := a0) d_Mo_join_163 rfl ?_
      obtain ⟨b12, hb12, w⟩ := w
      refine gs_Mo_40 rfl hk1 hb12 d_Mo_join_164 ?_
      refine aw_iload (x := x4) d_Mo_join_167 rfl ?_
      refine aw_aload_n (x := a0) d_Mo_join_169 rfl ?_
      refine gs_Mo_37 rfl hk1 hb11 d_Mo_join_170 ?_
      refine aw_aload_n (x := a0) d_Mo_join_173 rfl ?_
      refine gs_Mo_40 rfl hk1 hb12 d_Mo_join_174 ?_
      refine aw_iload (x := x6) d_Mo_join_177 rfl ?_
      exact aw_room (cb' := 0 + cb) (sb' := 0 + sb) (by omega) (by omega) (aw_weak (lv' := [some (.ref a0), some (.int x1), some (.int x2), some (.int x3), some (.int x4), some (.int x5), some (.int x6), none]) ⟨rfl, rfl, rfl, rfl, rfl, rfl, rfl, trivial⟩ (aw_callV (M' := m_Mo_byKey) (lv0 := [some (.ref a0), some (.int (0 : Int32)), some (.ref b11), some (.ref b12), some (.int x4), some (.ref b11), some (.ref b12), some (.int x6), none, none, none, none, none]) (As := [.int (0 : Int32), .ref b11, .ref b12, .int x4, .ref b11, .ref b12, .int x6]) (rest := []) 8 1084 1086 1087 rfl (by decide) rfl hk1 tb_1084 tb_1086 tb_1087 (fun U hU => hU.p 55 rfl) rfl rfl 7 0 rfl rfl ⟨by decide, by decide, by decide +kernel, by decide +kernel, by decide, by decide⟩ (Nat.le_of_ble_eq_true rfl) ⟨rfl, rfl, rfl, rfl, rfl, rfl, rfl, rfl, trivial⟩ rfl d_Mo_join_179 w))
set_option maxRecDepth 20000 in
theorem r_Mo_join_182 {E : zE} {K n : Nat → Nat} {I : Nat → Nat → Int32} {F : Nat → Nat → Option Nat} {J : Nat → Nat → Int64} {cb sb : Nat} {Q : zO → zH → Prop} {a0 : Nat} {x1 : Int32} {x2 : Int32} {x3 : Int32} {x4 : Int32} {x5 : Int32} {x6 : Int32} {sx0 : Int32}
    (w : ((sx0 = 0 → K a0 = 9 ∧ (∃ b3 : Nat, F a0 26 = some b3 ∧ K b3 = 21 ∧ (∃ j5 : Nat, (2 : Int32) = nI j5 ∧ j5 < n b3 ∧ j5 < 2147483648 ∧ ((¬ (I b3 j5) = (150 : Int32) → AW E m_Mo_begin (K, n, I, F, J) 0 0 (zAft E m_Mo_join cb sb Q 208 [some (.ref a0), some (.int x1), some (.int x2), some (.int x3), some (.int x4), some (.int (0 : Int32)), some (.int x6), none] []) 0 [some (.ref a0), some (.int (2 : Int32))] []) ∧ ((I b3 j5) = (150 : Int32) → AW E m_Mo_join (K, n, I, F, J) cb sb Q 137 [some (.ref a0), some (.int x1), some (.int x2), some (.int x3), some (.int x4), some (.int (0 : Int32)), some (.int (x6 + (1 : Int32))), none] []))))) ∧ (¬ sx0 = 0 → AW E m_Mo_join (K, n, I, F, J) cb sb Q 137 [some (.ref a0), some (.int x1), some (.int x2), some (.int x3), some (.int x4), some (.int x5), some (.int (x6 + (1 : Int32))), none] []))) :
    AW E m_Mo_join (K, n, I, F, J) cb sb Q 182 [some (.ref a0), some (.int x1), some (.int x2), some (.int x3), some (.int x4), some (.int x5), some (.int x6), none] [.int sx0] := by
  refine aw_if_eq (tgt := 188) d_Mo_join_182 (by decide) (fun cc1 => ?_) (fun cc1 => ?_)
  · replace w := w.1 cc1
    refine aw_iconst (v := (0 : Int32)) d_Mo_join_188 (by decide) ?_
    refine aw_istore d_Mo_join_189 (by decide) ?_
    refine aw_aload_n (x := a0) d_Mo_join_191 rfl ?_
    obtain ⟨hk2, w⟩ := w
    obtain ⟨b3, hb3, w⟩ := w
    refine gs_Mo_68 rfl hk2 hb3 d_Mo_join_192 ?_
    refine aw_iconst (v := (2 : Int32)) d_Mo_join_195 (by decide) ?_
    obtain ⟨hk4, w⟩ := w
    obtain ⟨j5, hj5a, hj5b, hj5c, w⟩ := w
    refine aw_iaload j5 hk4 hj5a hj5b hj5c d_Mo_join_196 ?_
    refine aw_sipush (v := (150 : Int32)) d_Mo_join_197 (by decide) ?_
    refine aw_icmp_ne (tgt := 206) d_Mo_join_200 (by decide) (fun cc6 => ?_) (fun cc6 => ?_)
    · replace w := w.1 cc6
      refine aw_aload_n (x := a0) d_Mo_join_206 rfl ?_
      refine aw_iconst (v := (2 : Int32)) d_Mo_join_207 (by decide) ?_
      exact aw_room (cb' := 0 + cb) (sb' := 0 + sb) (by omega) (by omega) (aw_weak (lv' := [some (.ref a0), some (.int x1), some (.int x2), some (.int x3), some (.int x4), some (.int (0 : Int32)), some (.int x6), none]) ⟨rfl, rfl, rfl, rfl, rfl, rfl, rfl, trivial⟩ (aw_callV (M' := m_Mo_begin) (lv0 := [some (.ref a0), some (.int (2 : Int32))]) (As := [.int (2 : Int32)]) (rest := []) 8 1072 1074 1075 rfl (by decide) rfl hk2 tb_1072 tb_1074 tb_1075 (fun U hU => hU.p 52 rfl) rfl rfl 1 0 rfl rfl ⟨by decide, by decide, by decide +kernel, by decide +kernel, by decide, by decide⟩ (Nat.le_of_ble_eq_true rfl) ⟨rfl, rfl, trivial⟩ rfl d_Mo_join_208 w))
    · replace w := w.2 cc6
      refine aw_goto (tgt := 295) d_Mo_join_203 (by decide) ?_
      refine aw_iinc (v := (x6 + (1 : Int32))) d_Mo_join_295 rfl (by rfl) (by decide) ?_
      refine aw_goto (tgt := 137) d_Mo_join_298 (by decide) ?_
      exact aw_weak (lv' := [some (.ref a0), some (.int x1), some (.int x2), some (.int x3), some (.int x4), some (.int (0 : Int32)), some (.int (x6 + (1 : Int32))), none]) ⟨rfl, rfl, rfl, rfl, rfl, rfl, rfl, trivial⟩ w
  · replace w := w.2 cc1
    refine aw_goto (tgt := 295) d_Mo_join_185 (by decide) ?_
    refine aw_iinc (v := (x6 + (1 : Int32))) d_Mo_join_295 rfl (by rfl) (by decide) ?_
    refine aw_goto (tgt := 137) d_Mo_join_298 (by decide) ?_
    exact aw_weak (lv' := [some (.ref a0), some (.int x1), some (.int x2), some (.int x3), some (.int x4), some (.int x5), some (.int (x6 + (1 : Int32))), none]) ⟨rfl, rfl, rfl, rfl, rfl, rfl, rfl, trivial⟩ w
set_option maxRecDepth 20000 in
theorem r_Mo_join_211 {E : zE} {K n : Nat → Nat} {I : Nat → Nat → Int32} {F : Nat → Nat → Option Nat} {J : Nat → Nat → Int64} {cb sb : Nat} {Q : zO → zH → Prop} {a0 : Nat} {x1 : Int32} {x2 : Int32} {x3 : Int32} {x4 : Int32} {x5 : Int32} {x6 : Int32}
    (w : AW E m_Mo_join (K, n, I, F, J) cb sb Q 214 [some (.ref a0), some (.int x1), some (.int x2), some (.int x3), some (.int x4), some (.int x5), some (.int x6), some (.int (0 : Int32))] []) :
    AW E m_Mo_join (K, n, I, F, J) cb sb Q 211 [some (.ref a0), some (.int x1), some (.int x2), some (.int x3), some (.int x4), some (.int x5), some (.int x6), none] [] := by
  refine aw_iconst (v := (0 : Int32)) d_Mo_join_211 (by decide) ?_
  refine aw_istore d_Mo_join_212 (by decide) ?_
  exact aw_weak (lv' := [some (.ref a0), some (.int x1), some (.int x2), some (.int x3), some (.int x4), some (.int x5), some (.int x6), some (.int (0 : Int32))]) ⟨rfl, rfl, rfl, rfl, rfl, rfl, rfl, rfl, trivial⟩ w
set_option maxRecDepth 20000 in
theorem r_Mo_join_214 {E : zE} {K n : Nat → Nat} {I : Nat → Nat → Int32} {F : Nat → Nat → Option Nat} {J : Nat → Nat → Int64} {cb sb : Nat} {Q : zO → zH → Prop} {a0 : Nat} {x1 : Int32} {x2 : Int32} {x3 : Int32} {x4 : Int32} {x5 : Int32} {x6 : Int32} {x7 : Int32}
    (w : ((x3 ≤ x7 → AW E m_Mo_join (K, n, I, F, J) cb sb Q 249 [some (.ref a0), some (.int x1), some (.int x2), some (.int x3), some (.int x4), some (.int x5), some (.int x6), some (.int (0 : Int32))] []) ∧ (¬ x3 ≤ x7 → K a0 = 9 ∧ (∃ b3 : Nat, F a0 12 = some b3 ∧ (∃ b4 : Nat, F a0 13 = some b4 ∧ AW E m_Mo_byteOf (K, n, I, F, J) 0 0 (zAft E m_Mo_join cb sb Q 234 [some (.ref a0), some (.int x1), some (.int x2), some (.int x3), some (.int x4), some (.int x5), some (.int x6), some (.int x7)] [.int (2 : Int32), .ref a0]) 0 [some (.ref b3), some (.ref b4), some (.int x4), some (.int x7)] []))))) :
    AW E m_Mo_join (K, n, I, F, J) cb sb Q 214 [some (.ref a0), some (.int x1), some (.int x2), some (.int x3), some (.int x4), some (.int x5), some (.int x6), some (.int x7)] [] := by
  refine aw_iload (x := x7) d_Mo_join_214 rfl ?_
  refine aw_iload_n (x := x3) d_Mo_join_216 rfl ?_
  refine aw_icmp_ge (tgt := 246) d_Mo_join_217 (by decide) (fun cc1 => ?_) (fun cc1 => ?_)
  · replace w := w.1 cc1
    refine aw_iconst (v := (0 : Int32)) d_Mo_join_246 (by decide) ?_
    refine aw_istore d_Mo_join_247 (by decide) ?_
    exact aw_weak (lv' := [some (.ref a0), some (.int x1), some (.int x2), some (.int x3), some (.int x4), some (.int x5), some (.int x6), some (.int (0 : Int32))]) ⟨rfl, rfl, rfl, rfl, rfl, rfl, rfl, rfl, trivial⟩ w
  · replace w := w.2 cc1
    refine aw_aload_n (x := a0) d_Mo_join_220 rfl ?_
    refine aw_iconst (v := (2 : Int32)) d_Mo_join_221 (by decide) ?_
    refine aw_aload_n (x := a0) d_Mo_join_222 rfl ?_
    obtain ⟨hk2, w⟩ := w
    obtain ⟨b3, hb3, w⟩ := w
    refine gs_Mo_37 rfl hk2 hb3 d_Mo_join_223 ?_
    refine aw_aload_n (x := a0) d_Mo_join_226 rfl ?_
    obtain ⟨b4, hb4, w⟩ := w
    refine gs_Mo_40 rfl hk2 hb4 d_Mo_join_227 ?_
    refine aw_iload (x := x4) d_Mo_join_230 rfl ?_
    refine aw_iload (x := x7) d_Mo_join_232 rfl ?_
    exact aw_room (cb' := 0 + cb) (sb' := 0 + sb) (by omega) (by omega) (aw_weak (lv' := [some (.ref a0), some (.int x1), some (.int x2), some (.int x3), some (.int x4), some (.int x5), some (.int x6), some (.int x7)]) ⟨rfl, rfl, rfl, rfl, rfl, rfl, rfl, rfl, trivial⟩ (aw_callS (M' := m_Mo_byteOf) (lv0 := [some (.ref b3), some (.ref b4), some (.int x4), some (.int x7)]) (As := [.ref b3, .ref b4, .int x4, .int x7]) (rest := [.int (2 : Int32), .ref a0]) 1069 1070 1071 8 tb_1069 tb_1070 tb_1071 tb_8 rfl rfl 4 2 rfl rfl ⟨by decide, by decide, by decide +kernel, by decide +kernel, by decide, by decide⟩ (Nat.le_of_ble_eq_true rfl) ⟨rfl, rfl, rfl, rfl, trivial⟩ rfl d_Mo_join_234 w))
set_option maxRecDepth 20000 in
theorem r_Mo_join_237 {E : zE} {K n : Nat → Nat} {I : Nat → Nat → Int32} {F : Nat → Nat → Option Nat} {J : Nat → Nat → Int64} {cb sb : Nat} {Q : zO → zH → Prop} {a0 : Nat} {x1 : Int32} {x2 : Int32} {x3 : Int32} {x4 : Int32} {x5 : Int32} {x6 : Int32} {x7 : Int32} {sa0 : Nat} {sx1 : Int32} {sx2 : Int32}
    (w : K sa0 = 9 ∧ AW E m_Mo_put (K, n, I, F, J) 0 0 (zAft E m_Mo_join cb sb Q 237 [some (.ref a0), some (.int x1), some (.int x2), some (.int x3), some (.int x4), some (.int x5), some (.int x6), some (.int x7)] []) 0 [some (.ref sa0), some (.int sx1), some (.int sx2), none, none] []) :
    AW E m_Mo_join (K, n, I, F, J) cb sb Q 237 [some (.ref a0), some (.int x1), some (.int x2), some (.int x3), some (.int x4), some (.int x5), some (.int x6), some (.int x7)] [.int sx2, .int sx1, .ref sa0] := by
  obtain ⟨hk1, w⟩ := w
  exact aw_room (cb' := 0 + cb) (sb' := 0 + sb) (by omega) (by omega) (aw_weak (lv' := [some (.ref a0), some (.int x1), some (.int x2), some (.int x3), some (.int x4), some (.int x5), some (.int x6), some (.int x7)]) ⟨rfl, rfl, rfl, rfl, rfl, rfl, rfl, rfl, trivial⟩ (aw_callV (M' := m_Mo_put) (lv0 := [some (.ref sa0), some (.int sx1), some (.int sx2), none, none]) (As := [.int sx1, .int sx2]) (rest := []) 8 1076 1078 1079 rfl (by decide) rfl hk1 tb_1076 tb_1078 tb_1079 (fun U hU => hU.p 53 rfl) rfl rfl 2 0 rfl rfl ⟨by decide, by decide, by decide +kernel, by decide +kernel, by decide, by decide⟩ (Nat.le_of_ble_eq_true rfl) ⟨rfl, rfl, rfl, trivial⟩ rfl d_Mo_join_237 w))
set_option maxRecDepth 20000 in
theorem r_Mo_join_240 {E : zE} {K n : Nat → Nat} {I : Nat → Nat → Int32} {F : Nat → Nat → Option Nat} {J : Nat → Nat → Int64} {cb sb : Nat} {Q : zO → zH → Prop} {a0 : Nat} {x1 : Int32} {x2 : Int32} {x3 : Int32} {x4 : Int32} {x5 : Int32} {x6 : Int32} {x7 : Int32}
    (w : AW E m_Mo_join (K, n, I, F, J) cb sb Q 214 [some (.ref a0), some (.int x1), some (.int x2), some (.int x3), some (.int x4), some (.int x5), some (.int x6), some (.int (x7 + (1 : Int32)))] []) :
    AW E m_Mo_join (K, n, I, F, J) cb sb Q 240 [some (.ref a0), some (.int x1), some (.int x2), some (.int x3), some (.int x4), some (.int x5), some (.int x6), some (.int x7)] [] := by
  refine aw_iinc (v := (x7 + (1 : Int32))) d_Mo_join_240 rfl (by rfl) (by decide) ?_
  refine aw_goto (tgt := 214) d_Mo_join_243 (by decide) ?_
  exact aw_weak (lv' := [some (.ref a0), some (.int x1), some (.int x2), some (.int x3), some (.int x4), some (.int x5), some (.int x6), some (.int (x7 + (1 : Int32)))]) ⟨rfl, rfl, rfl, rfl, rfl, rfl, rfl, rfl, trivial⟩ w
set_option maxRecDepth 20000 in
theorem r_Mo_join_249 {E : zE} {K n : Nat → Nat} {I : Nat → Nat → Int32} {F : Nat → Nat → Option Nat} {J : Nat → Nat → Int64} {cb sb : Nat} {Q : zO → zH → Prop} {a0 : Nat} {x1 : Int32} {x2 : Int32} {x3 : Int32} {x4 : Int32} {x5 : Int32} {x6 : Int32} {x7 : Int32}
    (w : K a0 = 9 ∧ (∃ b2 : Nat, F a0 13 = some b2 ∧ K b2 = 21 ∧ (∃ j4 : Nat, x6 = nI j4 ∧ j4 < n b2 ∧ j4 < 2147483648 ∧ (((I b2 j4) ≤ x7 → (∃ b6 : Nat, F a0 26 = some b6 ∧ K b6 = 21 ∧ (∃ j8 : Nat, (2 : Int32) = nI j8 ∧ j8 < n b6 ∧ j8 < 2147483648 ∧ AW E m_Mo_join (K, n, (zup I b6 j8 ((I b6 j8) + (1 : Int32))), F, J) cb sb Q 137 [some (.ref a0), some (.int x1), some (.int x2), some (.int x3), some (.int x4), some (.int x5), some (.int (x6 + (1 : Int32))), none] []))) ∧ (¬ (I b2 j4) ≤ x7 → (∃ b9 : Nat, F a0 12 = some b9 ∧ K b9 = 21 ∧ (∃ j11 : Nat, (((100 : Int32) * x6) + x7) = nI j11 ∧ j11 < n b9 ∧ j11 < 2147483648 ∧ AW E m_Mo_put (K, n, I, F, J) 0 0 (zAft E m_Mo_join cb sb Q 276 [some (.ref a0), some (.int x1), some (.int x2), some (.int x3), some (.int x4), some (.int x5), some (.int x6), some (.int x7)] []) 0 [some (.ref a0), some (.int (2 : Int32)), some (.int (I b9 j11)), none, none] []))))))) :
    AW E m_Mo_join (K, n, I, F, J) cb sb Q 249 [some (.ref a0), some (.int x1), some (.int x2), some (.int x3), some (.int x4), some (.int x5), some (.int x6), some (.int x7)] [] := by
  refine aw_iload (x := x7) d_Mo_join_249 rfl ?_
  refine aw_aload_n (x := a0) d_Mo_join_251 rfl ?_
  obtain ⟨hk1, w⟩ := w
  obtain ⟨b2, hb2, w⟩ := w
  refine gs_Mo_40 rfl hk1 hb2 d_Mo_join_252 ?_
  refine aw_iload (x := x6) d_Mo_join_255 rfl ?_
  obtain ⟨hk3, w⟩ := w
  obtain ⟨j4, hj4a, hj4b, hj4c, w⟩ := w
  refine aw_iaload j4 hk3 hj4a hj4b hj4c d_Mo_join_257 ?_
  refine aw_icmp_ge (tgt := 285) d_Mo_join_258 (by decide) (fun cc5 => ?_) (fun cc5 => ?_)
  · replace w := w.1 cc5
    refine aw_aload_n (x := a0) d_Mo_join_285 rfl ?_
    obtain ⟨b6, hb6, w⟩ := w
    refine gs_Mo_68 rfl hk1 hb6 d_Mo_join_286 ?_
    refine aw_iconst (v := (2 : Int32)) d_Mo_join_289 (by decide) ?_
    refine aw_dup2 d_Mo_join_290 rfl rfl ?_
    obtain ⟨hk7, w⟩ := w
    obtain ⟨j8, hj8a, hj8b, hj8c, w⟩ := w
    refine aw_iaload j8 hk7 hj8a hj8b hj8c d_Mo_join_291 ?_
    refine aw_iconst (v := (1 : Int32)) d_Mo_join_292 (by decide) ?_
    refine aw_iadd d_Mo_join_293 ?_
    refine aw_iastore j8 hk7 hj8a hj8b hj8c d_Mo_join_294 ?_
    refine aw_iinc (v := (x6 + (1 : Int32))) d_Mo_join_295 rfl (by rfl) (by decide) ?_
    refine aw_goto (tgt := 137) d_Mo_join_298 (by decide) ?_
    exact aw_weak (lv' := [some (.ref a0), some (.int x1), some (.int x2), some (.int x3), some (.int x4), some (.int x5), some (.int (x6 + (1 : Int32))), none]) ⟨rfl, rfl, rfl, rfl, rfl, rfl, rfl, trivial⟩ w
  · replace w := w.2 cc5
    refine aw_aload_n (x := a0) d_Mo_join_261 rfl ?_
    refine aw_iconst (v := (2 : Int32)) d_Mo_join_262 (by decide) ?_
    refine aw_aload_n (x := a0) d_Mo_join_263 rfl ?_
    obtain ⟨b9, hb9, w⟩ := w
    refine gs_Mo_37 rfl hk1 hb9 d_Mo_join_264 ?_
    refine aw_bipush (v := (100 : Int32)) d_Mo_join_267 (by decide) ?_
    refine aw_iload (x := x6) d_Mo_join_269 rfl ?_
    refine aw_imul d_Mo_join_271 ?_
    refine aw_iload (x := x7) d_Mo_join_272 rfl ?_
    refine aw_iadd d_Mo_join_274 ?_
    obtain ⟨hk10, w⟩ := w
    obtain ⟨j11, hj11a, hj11b, hj11c, w⟩ := w
    refine aw_iaload j11 hk10 hj11a hj11b hj11c d_Mo_join_275 ?_
    exact aw_room (cb' := 0 + cb) (sb' := 0 + sb) (by omega) (by omega) (aw_weak (lv' := [some (.ref a0), some (.int x1), some (.int x2), some (.int x3), some (.int x4), some (.int x5), some (.int x6), some (.int x7)]) ⟨rfl, rfl, rfl, rfl, rfl, rfl, rfl, rfl, trivial⟩ (aw_callV (M' := m_Mo_put) (lv0 := [some (.ref a0), some (.int (2 : Int32)), some (.int (I b9 j11)), none, none]) (As := [.int (2 : Int32), .int (I b9 j11)]) (rest := []) 8 1076 1078 1079 rfl (by decide) rfl hk1 tb_1076 tb_1078 tb_1079 (fun U hU => hU.p 53 rfl) rfl rfl 2 0 rfl rfl ⟨by decide, by decide, by decide +kernel, by decide +kernel, by decide, by decide⟩ (Nat.le_of_ble_eq_true rfl) ⟨rfl, rfl, rfl, trivial⟩ rfl d_Mo_join_276 w))
set_option maxRecDepth 20000 in
theorem r_Mo_join_279 {E : zE} {K n : Nat → Nat} {I : Nat → Nat → Int32} {F : Nat → Nat → Option Nat} {J : Nat → Nat → Int64} {cb sb : Nat} {Q : zO → zH → Prop} {a0 : Nat} {x1 : Int32} {x2 : Int32} {x3 : Int32} {x4 : Int32} {x5 : Int32} {x6 : Int32} {x7 : Int32}
    (w : AW E m_Mo_join (K, n, I, F, J) cb sb Q 249 [some (.ref a0), some (.int x1), some (.int x2), some (.int x3), some (.int x4), some (.int x5), some (.int x6), some (.int (x7 + (1 : Int32)))] []) :
    AW E m_Mo_join (K, n, I, F, J) cb sb Q 279 [some (.ref a0), some (.int x1), some (.int x2), some (.int x3), some (.int x4), some (.int x5), some (.int x6), some (.int x7)] [] := by
  refine aw_iinc (v := (x7 + (1 : Int32))) d_Mo_join_279 rfl (by rfl) (by decide) ?_
  refine aw_goto (tgt := 249) d_Mo_join_282 (by decide) ?_
  exact aw_weak (lv' := [some (.ref a0), some (.int x1), some (.int x2), some (.int x3), some (.int x4), some (.int x5), some (.int x6), some (.int (x7 + (1 : Int32)))]) ⟨rfl, rfl, rfl, rfl, rfl, rfl, rfl, rfl, trivial⟩ w
set_option maxRecDepth 20000 in
theorem r_Mo_isOut_0 {E : zE} {K n : Nat → Nat} {I : Nat → Nat → Int32} {F : Nat → Nat → Option Nat} {J : Nat → Nat → Int64} {cb sb : Nat} {Q : zO → zH → Prop} {a0 : Nat} {x1 : Int32} {x2 : Int32}
    (w : ((x1 < 0 → Q (.inl (some (.int (0 : Int32)))) (K, n, I, F, J)) ∧ (¬ x1 < 0 → (((3 : Int32) ≤ x1 → Q (.inl (some (.int (0 : Int32)))) (K, n, I, F, J)) ∧ (¬ (3 : Int32) ≤ x1 → ((x2 < 0 → Q (.inl (some (.int (0 : Int32)))) (K, n, I, F, J)) ∧ (¬ x2 < 0 → K a0 = 9 ∧ (∃ b5 : Nat, F a0 26 = some b5 ∧ K b5 = 21 ∧ (∃ j7 : Nat, x1 = nI j7 ∧ j7 < n b5 ∧ j7 < 2147483648 ∧ (((I b5 j7) ≤ x2 → Q (.inl (some (.int (0 : Int32)))) (K, n, I, F, J)) ∧ (¬ (I b5 j7) ≤ x2 → Q (.inl (some (.int (1 : Int32)))) (K, n, I, F, J)))))))))))) :
    AW E m_Mo_isOut (K, n, I, F, J) cb sb Q 0 [some (.ref a0), some (.int x1), some (.int x2)] [] := by
  refine aw_iload_n (x := x1) d_Mo_isOut_0 rfl ?_
  refine aw_if_lt (tgt := 27) d_Mo_isOut_1 (by decide) (fun cc1 => ?_) (fun cc1 => ?_)
  · replace w := w.1 cc1
    refine aw_iconst (v := (0 : Int32)) d_Mo_isOut_27 (by decide) ?_
    exact aw_ireturn .boolean rfl rfl d_Mo_isOut_28 w
  · replace w := w.2 cc1
    refine aw_iload_n (x := x1) d_Mo_isOut_4 rfl ?_
    refine aw_iconst (v := (3 : Int32)) d_Mo_isOut_5 (by decide) ?_
    refine aw_icmp_ge (tgt := 27) d_Mo_isOut_6 (by decide) (fun cc2 => ?_) (fun cc2 => ?_)
    · replace w := w.1 cc2
      refine aw_iconst (v := (0 : Int32)) d_Mo_isOut_27 (by decide) ?_
      exact aw_ireturn .boolean rfl rfl d_Mo_isOut_28 w
    · replace w := w.2 cc2
      refine aw_iload_n (x := x2) d_Mo_isOut_9 rfl ?_
      refine aw_if_lt (tgt := 27) d_Mo_isOut_10 (by decide) (fun cc3 => ?_) (fun cc3 => ?_)
      · replace w := w.1 cc3
        refine aw_iconst (v := (0 : Int32)) d_Mo_isOut_27 (by decide) ?_
        exact aw_ireturn .boolean rfl rfl d_Mo_isOut_28 w
      · replace w := w.2 cc3
        refine aw_iload_n (x := x2) d_Mo_isOut_13 rfl ?_
        refine aw_aload_n (x := a0) d_Mo_isOut_14 rfl ?_
        obtain ⟨hk4, w⟩ := w
        obtain ⟨b5, hb5, w⟩ := w
        refine gs_Mo_68 rfl hk4 hb5 d_Mo_isOut_15 ?_
        refine aw_iload_n (x := x1) d_Mo_isOut_18 rfl ?_
        obtain ⟨hk6, w⟩ := w
        obtain ⟨j7, hj7a, hj7b, hj7c, w⟩ := w
        refine aw_iaload j7 hk6 hj7a hj7b hj7c d_Mo_isOut_19 ?_
        refine aw_icmp_ge (tgt := 27) d_Mo_isOut_20 (by decide) (fun cc8 => ?_) (fun cc8 => ?_)
        · replace w := w.1 cc8
          refine aw_iconst (v := (0 : Int32)) d_Mo_isOut_27 (by decide) ?_
          exact aw_ireturn .boolean rfl rfl d_Mo_isOut_28 w
        · replace w := w.2 cc8
          refine aw_iconst (v := (1 : Int32)) d_Mo_isOut_23 (by decide) ?_
          refine aw_goto (tgt := 28) d_Mo_isOut_24 (by decide) ?_
          exact aw_ireturn .boolean rfl rfl d_Mo_isOut_28 w
set_option maxRecDepth 20000 in
theorem r_Mo_out_0 {E : zE} {K n : Nat → Nat} {I : Nat → Nat → Int32} {F : Nat → Nat → Option Nat} {J : Nat → Nat → Int64} {cb sb : Nat} {Q : zO → zH → Prop} {a0 : Nat} {x1 : Int32} {x2 : Int32} {x3 : Int32}
    (w : K a0 = 9 ∧ AW E m_Mo_isOut (K, n, (zup I a0 0 (0 : Int32)), F, J) 0 0 (zAft E m_Mo_out cb sb Q 8 [some (.ref a0), some (.int x1), some (.int x2), some (.int x3)] []) 0 [some (.ref a0), some (.int x1), some (.int x2)] []) :
    AW E m_Mo_out (K, n, I, F, J) cb sb Q 0 [some (.ref a0), some (.int x1), some (.int x2), some (.int x3)] [] := by
  refine aw_aload_n (x := a0) d_Mo_out_0 rfl ?_
  refine aw_iconst (v := (0 : Int32)) d_Mo_out_1 (by decide) ?_
  obtain ⟨hk1, w⟩ := w
  refine pf_Mo_114 rfl hk1 d_Mo_out_2 ?_
  refine aw_aload_n (x := a0) d_Mo_out_5 rfl ?_
  refine aw_iload_n (x := x1) d_Mo_out_6 rfl ?_
  refine aw_iload_n (x := x2) d_Mo_out_7 rfl ?_
  exact aw_room (cb' := 0 + cb) (sb' := 0 + sb) (by omega) (by omega) (aw_weak (lv' := [some (.ref a0), some (.int x1), some (.int x2), some (.int x3)]) ⟨rfl, rfl, rfl, rfl, trivial⟩ (aw_callV (M' := m_Mo_isOut) (lv0 := [some (.ref a0), some (.int x1), some (.int x2)]) (As := [.int x1, .int x2]) (rest := []) 8 1116 1118 1119 rfl (by decide) rfl hk1 tb_1116 tb_1118 tb_1119 (fun U hU => hU.p 59 rfl) rfl rfl 2 0 rfl rfl ⟨by decide, by decide, by decide +kernel, by decide +kernel, by decide, by decide⟩ (Nat.le_of_ble_eq_true rfl) ⟨rfl, rfl, rfl, trivial⟩ rfl d_Mo_out_8 w))
set_option maxRecDepth 20000 in
theorem r_Mo_out_11 {E : zE} {K n : Nat → Nat} {I : Nat → Nat → Int32} {F : Nat → Nat → Option Nat} {J : Nat → Nat → Int64} {cb sb : Nat} {Q : zO → zH → Prop} {a0 : Nat} {x1 : Int32} {x2 : Int32} {x3 : Int32} {sx0 : Int32}
    (w : ((sx0 = 0 → Q (.inl (some (.int ((-1) : Int32)))) (K, n, I, F, J)) ∧ (¬ sx0 = 0 → ((x3 < 0 → Q (.inl (some (.int ((-1) : Int32)))) (K, n, I, F, J)) ∧ (¬ x3 < 0 → K a0 = 9 ∧ (∃ b4 : Nat, F a0 25 = some b4 ∧ K b4 = 21 ∧ (∃ j6 : Nat, (((150 : Int32) * x1) + x2) = nI j6 ∧ j6 < n b4 ∧ j6 < 2147483648 ∧ ((x3 < (I b4 j6) → (∃ b8 : Nat, F a0 24 = some b8 ∧ K b8 = 21 ∧ (∃ j10 : Nat, ((((15000 : Int32) * x1) + ((100 : Int32) * x2)) + x3) = nI j10 ∧ j10 < n b8 ∧ j10 < 2147483648 ∧ Q (.inl (some (.int (I b8 j10)))) (K, n, I, F, J)))) ∧ (¬ x3 < (I b4 j6) → Q (.inl (some (.int ((-1) : Int32)))) (K, n, I, F, J)))))))))) :
    AW E m_Mo_out (K, n, I, F, J) cb sb Q 11 [some (.ref a0), some (.int x1), some (.int x2), some (.int x3)] [.int sx0] := by
  refine aw_if_eq (tgt := 34) d_Mo_out_11 (by decide) (fun cc1 => ?_) (fun cc1 => ?_)
  · replace w := w.1 cc1
    refine aw_iconst (v := ((-1) : Int32)) d_Mo_out_34 (by decide) ?_
    exact aw_ireturn .int rfl rfl d_Mo_out_35 w
  · replace w := w.2 cc1
    refine aw_iload_n (x := x3) d_Mo_out_14 rfl ?_
    refine aw_if_lt (tgt := 34) d_Mo_out_15 (by decide) (fun cc2 => ?_) (fun cc2 => ?_)
    · replace w := w.1 cc2
      refine aw_iconst (v := ((-1) : Int32)) d_Mo_out_34 (by decide) ?_
      exact aw_ireturn .int rfl rfl d_Mo_out_35 w
    · replace w := w.2 cc2
      refine aw_iload_n (x := x3) d_Mo_out_18 rfl ?_
      refine aw_aload_n (x := a0) d_Mo_out_19 rfl ?_
      obtain ⟨hk3, w⟩ := w
      obtain ⟨b4, hb4, w⟩ := w
      refine gs_Mo_65 rfl hk3 hb4 d_Mo_out_20 ?_
      refine aw_sipush (v := (150 : Int32)) d_Mo_out_23 (by decide) ?_
      refine aw_iload_n (x := x1) d_Mo_out_26 rfl ?_
      refine aw_imul d_Mo_out_27 ?_
      refine aw_iload_n (x := x2) d_Mo_out_28 rfl ?_
      refine aw_iadd d_Mo_out_29 ?_
      obtain ⟨hk5, w⟩ := w
      obtain ⟨j6, hj6a, hj6b, hj6c, w⟩ := w
      refine aw_iaload j6 hk5 hj6a hj6b hj6c d_Mo_out_30 ?_
      refine aw_icmp_lt (tgt := 36) d_Mo_out_31 (by decide) (fun cc7 => ?_) (fun cc7 => ?_)
      · replace w := w.1 cc7
        refine aw_aload_n (x := a0) d_Mo_out_36 rfl ?_
        obtain ⟨b8, hb8, w⟩ := w
        refine gs_Mo_62 rfl hk3 hb8 d_Mo_out_37 ?_
        refine aw_sipush (v := (15000 : Int32)) d_Mo_out_40 (by decide) ?_
        refine aw_iload_n (x := x1) d_Mo_out_43 rfl ?_
        refine aw_imul d_Mo_out_44 ?_
        refine aw_bipush (v := (100 : Int32)) d_Mo_out_45 (by decide) ?_
        refine aw_iload_n (x := x2) d_Mo_out_47 rfl ?_
        refine aw_imul d_Mo_out_48 ?_
        refine aw_iadd d_Mo_out_49 ?_
        refine aw_iload_n (x := x3) d_Mo_out_50 rfl ?_
        refine aw_iadd d_Mo_out_51 ?_
        obtain ⟨hk9, w⟩ := w
        obtain ⟨j10, hj10a, hj10b, hj10c, w⟩ := w
        refine aw_iaload j10 hk9 hj10a hj10b hj10c d_Mo_out_52 ?_
        exact aw_ireturn .int rfl rfl d_Mo_out_53 w
      · replace w := w.2 cc7
        refine aw_iconst (v := ((-1) : Int32)) d_Mo_out_34 (by decide) ?_
        exact aw_ireturn .int rfl rfl d_Mo_out_35 w
set_option maxRecDepth 20000 in
theorem r_Mo_sum_0 {E : zE} {K n : Nat → Nat} {I : Nat → Nat → Int32} {F : Nat → Nat → Option Nat} {J : Nat → Nat → Int64} {cb sb : Nat} {Q : zO → zH → Prop} {a0 : Nat} {x1 : Int32} {x2 : Int32}
    (w : K a0 = 9 ∧ AW E m_Mo_isOut (K, n, (zup I a0 0 (0 : Int32)), F, J) 0 0 (zAft E m_Mo_sum cb sb Q 8 [some (.ref a0), some (.int x1), some (.int x2)] []) 0 [some (.ref a0), some (.int (0 : Int32)), some (.int x1)] []) :
    AW E m_Mo_sum (K, n, I, F, J) cb sb Q 0 [some (.ref a0), some (.int x1), some (.int x2)] [] := by
  refine aw_aload_n (x := a0) d_Mo_sum_0 rfl ?_
  refine aw_iconst (v := (0 : Int32)) d_Mo_sum_1 (by decide) ?_
  obtain ⟨hk1, w⟩ := w
  refine pf_Mo_114 rfl hk1 d_Mo_sum_2 ?_
  refine aw_aload_n (x := a0) d_Mo_sum_5 rfl ?_
  refine aw_iconst (v := (0 : Int32)) d_Mo_sum_6 (by decide) ?_
  refine aw_iload_n (x := x1) d_Mo_sum_7 rfl ?_
  exact aw_room (cb' := 0 + cb) (sb' := 0 + sb) (by omega) (by omega) (aw_weak (lv' := [some (.ref a0), some (.int x1), some (.int x2)]) ⟨rfl, rfl, rfl, trivial⟩ (aw_callV (M' := m_Mo_isOut) (lv0 := [some (.ref a0), some (.int (0 : Int32)), some (.int x1)]) (As := [.int (0 : Int32), .int x1]) (rest := []) 8 1116 1118 1119 rfl (by decide) rfl hk1 tb_1116 tb_1118 tb_1119 (fun U hU => hU.p 59 rfl) rfl rfl 2 0 rfl rfl ⟨by decide, by decide, by decide +kernel, by decide +kernel, by decide, by decide⟩ (Nat.le_of_ble_eq_true rfl) ⟨rfl, rfl, rfl, trivial⟩ rfl d_Mo_sum_8 w))
set_option maxRecDepth 20000 in
theorem r_Mo_sum_11 {E : zE} {K n : Nat → Nat} {I : Nat → Nat → Int32} {F : Nat → Nat → Option Nat} {J : Nat → Nat → Int64} {cb sb : Nat} {Q : zO → zH → Prop} {a0 : Nat} {x1 : Int32} {x2 : Int32} {sx0 : Int32}
    (w : ((sx0 = 0 → Q (.inl (some (.int ((-1) : Int32)))) (K, n, I, F, J)) ∧ (¬ sx0 = 0 → ((x2 < 0 → Q (.inl (some (.int ((-1) : Int32)))) (K, n, I, F, J)) ∧ (¬ x2 < 0 → ((x2 ≤ (2 : Int32) → ((¬ x2 = 0 → ((¬ x2 = (1 : Int32) → K a0 = 9 ∧ (∃ b7 : Nat, F a0 28 = some b7 ∧ K b7 = 21 ∧ (∃ j9 : Nat, x1 = nI j9 ∧ j9 < n b7 ∧ j9 < 2147483648 ∧ Q (.inl (some (.int (I b7 j9)))) (K, n, I, F, J)))) ∧ (x2 = (1 : Int32) → K a0 = 9 ∧ (∃ b11 : Nat, F a0 25 = some b11 ∧ K b11 = 21 ∧ (∃ j13 : Nat, x1 = nI j13 ∧ j13 < n b11 ∧ j13 < 2147483648 ∧ Q (.inl (some (.int (I b11 j13)))) (K, n, I, F, J)))))) ∧ (x2 = 0 → K a0 = 9 ∧ (∃ b15 : Nat, F a0 27 = some b15 ∧ K b15 = 21 ∧ (∃ j17 : Nat, x1 = nI j17 ∧ j17 < n b15 ∧ j17 < 2147483648 ∧ Q (.inl (some (.int (I b15 j17)))) (K, n, I, F, J)))))) ∧ (¬ x2 ≤ (2 : Int32) → Q (.inl (some (.int ((-1) : Int32)))) (K, n, I, F, J)))))))) :
    AW E m_Mo_sum (K, n, I, F, J) cb sb Q 11 [some (.ref a0), some (.int x1), some (.int x2)] [.int sx0] := by
  refine aw_if_eq (tgt := 23) d_Mo_sum_11 (by decide) (fun cc1 => ?_) (fun cc1 => ?_)
  · replace w := w.1 cc1
    refine aw_iconst (v := ((-1) : Int32)) d_Mo_sum_23 (by decide) ?_
    exact aw_ireturn .int rfl rfl d_Mo_sum_24 w
  · replace w := w.2 cc1
    refine aw_iload_n (x := x2) d_Mo_sum_14 rfl ?_
    refine aw_if_lt (tgt := 23) d_Mo_sum_15 (by decide) (fun cc2 => ?_) (fun cc2 => ?_)
    · replace w := w.1 cc2
      refine aw_iconst (v := ((-1) : Int32)) d_Mo_sum_23 (by decide) ?_
      exact aw_ireturn .int rfl rfl d_Mo_sum_24 w
    · replace w := w.2 cc2
      refine aw_iload_n (x := x2) d_Mo_sum_18 rfl ?_
      refine aw_iconst (v := (2 : Int32)) d_Mo_sum_19 (by decide) ?_
      refine aw_icmp_le (tgt := 25) d_Mo_sum_20 (by decide) (fun cc3 => ?_) (fun cc3 => ?_)
      · replace w := w.1 cc3
        refine aw_iload_n (x := x2) d_Mo_sum_25 rfl ?_
        refine aw_if_ne (tgt := 38) d_Mo_sum_26 (by decide) (fun cc4 => ?_) (fun cc4 => ?_)
        · replace w := w.1 cc4
          refine aw_iload_n (x := x2) d_Mo_sum_38 rfl ?_
          refine aw_iconst (v := (1 : Int32)) d_Mo_sum_39 (by decide) ?_
          refine aw_icmp_ne (tgt := 52) d_Mo_sum_40 (by decide) (fun cc5 => ?_) (fun cc5 => ?_)
          · replace w := w.1 cc5
            refine aw_aload_n (x := a0) d_Mo_sum_52 rfl ?_
            obtain ⟨hk6, w⟩ := w
            obtain ⟨b7, hb7, w⟩ := w
            refine gs_Mo_74 rfl hk6 hb7 d_Mo_sum_53 ?_
            refine aw_iload_n (x := x1) d_Mo_sum_56 rfl ?_
            obtain ⟨hk8, w⟩ := w
            obtain ⟨j9, hj9a, hj9b, hj9c, w⟩ := w
            refine aw_iaload j9 hk8 hj9a hj9b hj9c d_Mo_sum_57 ?_
            exact aw_ireturn .int rfl rfl d_Mo_sum_58 w
          · replace w := w.2 cc5
            refine aw_aload_n (x := a0) d_Mo_sum_43 rfl ?_
            obtain ⟨hk10, w⟩ := w
            obtain ⟨b11, hb11, w⟩ := w
            refine gs_Mo_65 rfl hk10 hb11 d_Mo_sum_44 ?_
            refine aw_iload_n (x := x1) d_Mo_sum_47 rfl ?_
            obtain ⟨hk12, w⟩ := w
            obtain ⟨j13, hj13a, hj13b, hj13c, w⟩ := w
            refine aw_iaload j13 hk12 hj13a hj13b hj13c d_Mo_sum_48 ?_
            refine aw_goto (tgt := 58) d_Mo_sum_49 (by decide) ?_
            exact aw_ireturn .int rfl rfl d_Mo_sum_58 w
        · replace w := w.2 cc4
          refine aw_aload_n (x := a0) d_Mo_sum_29 rfl ?_
          obtain ⟨hk14, w⟩ := w
          obtain ⟨b15, hb15, w⟩ := w
          refine gs_Mo_71 rfl hk14 hb15 d_Mo_sum_30 ?_
          refine aw_iload_n (x := x1) d_Mo_sum_33 rfl ?_
          obtain ⟨hk16, w⟩ := w
          obtain ⟨j17, hj17a, hj17b, hj17c, w⟩ := w
          refine aw_iaload j17 hk16 hj17a hj17b hj17c d_Mo_sum_34 ?_
          refine aw_goto (tgt := 58) d_Mo_sum_35 (by decide) ?_
          exact aw_ireturn .int rfl rfl d_Mo_sum_58 w
      · replace w := w.2 cc3
        refine aw_iconst (v := ((-1) : Int32)) d_Mo_sum_23 (by decide) ?_
        exact aw_ireturn .int rfl rfl d_Mo_sum_24 w
