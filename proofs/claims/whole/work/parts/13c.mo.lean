set_option maxRecDepth 20000 in
theorem r_Mo_statement_0 {E : zE} {K n : Nat → Nat} {I : Nat → Nat → Int32} {F : Nat → Nat → Option Nat} {J : Nat → Nat → Int64} {cb sb : Nat} {Q : zO → zH → Prop} {a0 : Nat}
    (w : K a0 = 9 ∧ AW E m_Mo_isSmall (K, n, I, F, J) 0 0 (zAft E m_Mo_statement cb sb Q 10 [some (.ref a0), some (.int (I a0 3)), none, none, none] []) 0 [some (.ref a0), some (.int (I a0 3))] []) :
    AW E m_Mo_statement (K, n, I, F, J) cb sb Q 0 [some (.ref a0), none, none, none, none] [] := by
  refine aw_aload_n (x := a0) d_Mo_statement_0 rfl ?_
  obtain ⟨hk1, w⟩ := w
  refine gf_Mo_121 rfl hk1 d_Mo_statement_1 ?_
  refine aw_istore_n d_Mo_statement_4 (by decide) ?_
  refine aw_aload_n (x := a0) d_Mo_statement_5 rfl ?_
  refine aw_aload_n (x := a0) d_Mo_statement_6 rfl ?_
  refine gf_Mo_121 rfl hk1 d_Mo_statement_7 ?_
  exact aw_room (cb' := 0 + cb) (sb' := 0 + sb) (by omega) (by omega) (aw_weak (lv' := [some (.ref a0), some (.int (I a0 3)), none, none, none]) ⟨rfl, rfl, trivial⟩ (aw_callV (M' := m_Mo_isSmall) (lv0 := [some (.ref a0), some (.int (I a0 3))]) (As := [.int (I a0 3)]) (rest := []) 8 989 991 992 rfl (by decide) rfl hk1 tb_989 tb_991 tb_992 (fun U hU => hU.p 36 rfl) rfl rfl 1 0 rfl rfl ⟨by decide, by decide, by decide +kernel, by decide +kernel, by decide, by decide⟩ (Nat.le_of_ble_eq_true rfl) ⟨rfl, rfl, trivial⟩ rfl d_Mo_statement_10 w))
set_option maxRecDepth 20000 in
theorem r_Mo_statement_13 {E : zE} {K n : Nat → Nat} {I : Nat → Nat → Int32} {F : Nat → Nat → Option Nat} {J : Nat → Nat → Int64} {cb sb : Nat} {Q : zO → zH → Prop} {a0 : Nat} {x1 : Int32} {sx0 : Int32}
    (w : ((sx0 = 0 → AW E m_Mo_statement (K, n, I, F, J) cb sb Q 24 [some (.ref a0), some (.int x1), none, none, none] [.int ((-1) : Int32)]) ∧ (¬ sx0 = 0 → K a0 = 9 ∧ AW E m_Mo_word (K, n, I, F, J) 0 0 (zAft E m_Mo_statement cb sb Q 17 [some (.ref a0), some (.int x1), none, none, none] []) 0 [some (.ref a0), none, none] []))) :
    AW E m_Mo_statement (K, n, I, F, J) cb sb Q 13 [some (.ref a0), some (.int x1), none, none, none] [.int sx0] := by
  refine aw_if_eq (tgt := 23) d_Mo_statement_13 (by decide) (fun cc1 => ?_) (fun cc1 => ?_)
  · replace w := w.1 cc1
    refine aw_iconst (v := ((-1) : Int32)) d_Mo_statement_23 (by decide) ?_
    exact aw_weak (lv' := [some (.ref a0), some (.int x1), none, none, none]) ⟨rfl, rfl, trivial⟩ w
  · replace w := w.2 cc1
    refine aw_aload_n (x := a0) d_Mo_statement_16 rfl ?_
    obtain ⟨hk2, w⟩ := w
    exact aw_room (cb' := 0 + cb) (sb' := 0 + sb) (by omega) (by omega) (aw_weak (lv' := [some (.ref a0), some (.int x1), none, none, none]) ⟨rfl, rfl, trivial⟩ (aw_callV (M' := m_Mo_word) (lv0 := [some (.ref a0), none, none]) (As := []) (rest := []) 8 993 995 996 rfl (by decide) rfl hk2 tb_993 tb_995 tb_996 (fun U hU => hU.p 37 rfl) rfl rfl 0 0 rfl rfl ⟨by decide, by decide, by decide +kernel, by decide +kernel, by decide, by decide⟩ (Nat.le_of_ble_eq_true rfl) ⟨rfl, trivial⟩ rfl d_Mo_statement_17 w))
set_option maxRecDepth 20000 in
theorem r_Mo_statement_20 {E : zE} {K n : Nat → Nat} {I : Nat → Nat → Int32} {F : Nat → Nat → Option Nat} {J : Nat → Nat → Int64} {cb sb : Nat} {Q : zO → zH → Prop} {a0 : Nat} {x1 : Int32} {sx0 : Int32}
    (w : AW E m_Mo_statement (K, n, I, F, J) cb sb Q 24 [some (.ref a0), some (.int x1), none, none, none] [.int sx0]) :
    AW E m_Mo_statement (K, n, I, F, J) cb sb Q 20 [some (.ref a0), some (.int x1), none, none, none] [.int sx0] := by
  refine aw_goto (tgt := 24) d_Mo_statement_20 (by decide) ?_
  exact aw_weak (lv' := [some (.ref a0), some (.int x1), none, none, none]) ⟨rfl, rfl, trivial⟩ w
set_option maxRecDepth 20000 in
theorem r_Mo_statement_24 {E : zE} {K n : Nat → Nat} {I : Nat → Nat → Int32} {F : Nat → Nat → Option Nat} {J : Nat → Nat → Int64} {cb sb : Nat} {Q : zO → zH → Prop} {a0 : Nat} {x1 : Int32} {sx0 : Int32}
    (w : ((sx0 = ((-1) : Int32) → ((sx0 = ((-1) : Int32) → K a0 = 9 ∧ Q (.inl (some (.int (0 : Int32)))) (K, n, (zup I a0 3 x1), F, J)) ∧ (¬ sx0 = ((-1) : Int32) → K a0 = 9 ∧ (∃ b5 : Nat, F a0 4 = some b5 ∧ K b5 = 21 ∧ (∃ j7 : Nat, sx0 = nI j7 ∧ j7 < n b5 ∧ j7 < 2147483648 ∧ (∃ b8 : Nat, F a0 5 = some b8 ∧ K b8 = 21 ∧ (∃ j10 : Nat, (0 : Int32) = nI j10 ∧ j10 < n b8 ∧ j10 < 2147483648 ∧ ((sx0 = 0 → AW E m_Mo_key (K, n, (zup (zup I b5 j7 (1 : Int32)) b8 j10 (((zup I b5 j7 (1 : Int32)) b8 j10) + (1 : Int32))), F, J) 0 0 (zAft E m_Mo_statement cb sb Q 145 [some (.ref a0), none, none, none, none] []) 0 [some (.ref a0), none, none, none] []) ∧ (sx0 = 1 → AW E m_Mo_testing (K, n, (zup (zup I b5 j7 (1 : Int32)) b8 j10 (((zup I b5 j7 (1 : Int32)) b8 j10) + (1 : Int32))), F, J) 0 0 (zAft E m_Mo_statement cb sb Q 174 [some (.ref a0), none, none, none, none] []) 0 [some (.ref a0), none] []) ∧ (sx0 = 2 → AW E m_Mo_testing (K, n, (zup (zup I b5 j7 (1 : Int32)) b8 j10 (((zup I b5 j7 (1 : Int32)) b8 j10) + (1 : Int32))), F, J) 0 0 (zAft E m_Mo_statement cb sb Q 174 [some (.ref a0), none, none, none, none] []) 0 [some (.ref a0), none] []) ∧ (sx0 = 3 → AW E m_Mo_sumField (K, n, (zup (zup I b5 j7 (1 : Int32)) b8 j10 (((zup I b5 j7 (1 : Int32)) b8 j10) + (1 : Int32))), F, J) 0 0 (zAft E m_Mo_statement cb sb Q 183 [some (.ref a0), none, none, none, none] []) 0 [some (.ref a0)] []) ∧ (sx0 = 4 → AW E m_Mo_piece (K, n, (zup (zup I b5 j7 (1 : Int32)) b8 j10 (((zup I b5 j7 (1 : Int32)) b8 j10) + (1 : Int32))), F, J) 0 0 (zAft E m_Mo_statement cb sb Q 212 [some (.ref a0), none, none, none, none] []) 0 [some (.ref a0), none, none] []) ∧ (¬ sx0 = 0 → ¬ sx0 = 1 → ¬ sx0 = 2 → ¬ sx0 = 3 → ¬ sx0 = 4 → (∃ b12 : Nat, F a0 6 = some b12 ∧ AW E m_Mo_number (K, n, (zup (zup I b5 j7 (1 : Int32)) b8 j10 (((zup I b5 j7 (1 : Int32)) b8 j10) + (1 : Int32))), F, J) 0 0 (zAft E m_Mo_statement cb sb Q 252 [some (.ref a0), none, some (.int sx0), none, none] [.int (sx0 - (5 : Int32)), .ref b12]) 0 [some (.ref a0), some (.int (0 : Int32)), some (.int (9999 : Int32)), none, none] [])))))))))) ∧ (¬ sx0 = ((-1) : Int32) → K a0 = 9 ∧ (∃ b14 : Nat, F a0 4 = some b14 ∧ K b14 = 21 ∧ (∃ j16 : Nat, sx0 = nI j16 ∧ j16 < n b14 ∧ j16 < 2147483648 ∧ ((0 < (I b14 j16) → ((sx0 = ((-1) : Int32) → Q (.inl (some (.int (0 : Int32)))) (K, n, (zup I a0 3 x1), F, J)) ∧ (¬ sx0 = ((-1) : Int32) → Q (.inl (some (.int (0 : Int32)))) (K, n, (zup I a0 3 x1), F, J)))) ∧ (¬ 0 < (I b14 j16) → ((sx0 = (1 : Int32) → AW E m_Mo_statement (K, n, I, F, J) cb sb Q 49 [some (.ref a0), some (.int x1), some (.int sx0), none, none] []) ∧ (¬ sx0 = (1 : Int32) → ((¬ sx0 = (2 : Int32) → ((sx0 = ((-1) : Int32) → Q (.inl (some (.int (0 : Int32)))) (K, n, (zup I a0 3 x1), F, J)) ∧ (¬ sx0 = ((-1) : Int32) → (∃ b22 : Nat, F a0 5 = some b22 ∧ K b22 = 21 ∧ (∃ j24 : Nat, (0 : Int32) = nI j24 ∧ j24 < n b22 ∧ j24 < 2147483648 ∧ ((sx0 = 0 → AW E m_Mo_key (K, n, (zup (zup I b14 j16 (1 : Int32)) b22 j24 (((zup I b14 j16 (1 : Int32)) b22 j24) + (1 : Int32))), F, J) 0 0 (zAft E m_Mo_statement cb sb Q 145 [some (.ref a0), none, none, none, none] []) 0 [some (.ref a0), none, none, none] []) ∧ (sx0 = 1 → AW E m_Mo_testing (K, n, (zup (zup I b14 j16 (1 : Int32)) b22 j24 (((zup I b14 j16 (1 : Int32)) b22 j24) + (1 : Int32))), F, J) 0 0 (zAft E m_Mo_statement cb sb Q 174 [some (.ref a0), none, none, none, none] []) 0 [some (.ref a0), none] []) ∧ (sx0 = 2 → AW E m_Mo_testing (K, n, (zup (zup I b14 j16 (1 : Int32)) b22 j24 (((zup I b14 j16 (1 : Int32)) b22 j24) + (1 : Int32))), F, J) 0 0 (zAft E m_Mo_statement cb sb Q 174 [some (.ref a0), none, none, none, none] []) 0 [some (.ref a0), none] []) ∧ (sx0 = 3 → AW E m_Mo_sumField (K, n, (zup (zup I b14 j16 (1 : Int32)) b22 j24 (((zup I b14 j16 (1 : Int32)) b22 j24) + (1 : Int32))), F, J) 0 0 (zAft E m_Mo_statement cb sb Q 183 [some (.ref a0), none, none, none, none] []) 0 [some (.ref a0)] []) ∧ (sx0 = 4 → AW E m_Mo_piece (K, n, (zup (zup I b14 j16 (1 : Int32)) b22 j24 (((zup I b14 j16 (1 : Int32)) b22 j24) + (1 : Int32))), F, J) 0 0 (zAft E m_Mo_statement cb sb Q 212 [some (.ref a0), none, none, none, none] []) 0 [some (.ref a0), none, none] []) ∧ (¬ sx0 = 0 → ¬ sx0 = 1 → ¬ sx0 = 2 → ¬ sx0 = 3 → ¬ sx0 = 4 → (∃ b26 : Nat, F a0 6 = some b26 ∧ AW E m_Mo_number (K, n, (zup (zup I b14 j16 (1 : Int32)) b22 j24 (((zup I b14 j16 (1 : Int32)) b22 j24) + (1 : Int32))), F, J) 0 0 (zAft E m_Mo_statement cb sb Q 252 [some (.ref a0), none, some (.int sx0), none, none] [.int (sx0 - (5 : Int32)), .ref b26]) 0 [some (.ref a0), some (.int (0 : Int32)), some (.int (9999 : Int32)), none, none] [])))))))) ∧ (sx0 = (2 : Int32) → AW E m_Mo_statement (K, n, I, F, J) cb sb Q 49 [some (.ref a0), some (.int x1), some (.int sx0), none, none] []))))))))))) :
    AW E m_Mo_statement (K, n, I, F, J) cb sb Q 24 [some (.ref a0), some (.int x1), none, none, none] [.int sx0] := by
  refine aw_istore_n d_Mo_statement_24 (by decide) ?_
  refine aw_iload_n (x := sx0) d_Mo_statement_25 rfl ?_
  refine aw_iconst (v := ((-1) : Int32)) d_Mo_statement_26 (by decide) ?_
  refine aw_icmp_eq (tgt := 69) d_Mo_statement_27 (by decide) (fun cc1 => ?_) (fun cc1 => ?_)
  · replace w := w.1 cc1
    refine aw_iconst (v := (0 : Int32)) d_Mo_statement_69 (by decide) ?_
    refine aw_istore_n d_Mo_statement_70 (by decide) ?_
    refine aw_iload_n (x := sx0) d_Mo_statement_71 rfl ?_
    refine aw_iconst (v := ((-1) : Int32)) d_Mo_statement_72 (by decide) ?_
    refine aw_icmp_eq (tgt := 80) d_Mo_statement_73 (by decide) (fun cc2 => ?_) (fun cc2 => ?_)
    · replace w := w.1 cc2
      refine aw_aload_n (x := a0) d_Mo_statement_80 rfl ?_
      refine aw_iload_n (x := x1) d_Mo_statement_81 rfl ?_
      obtain ⟨hk3, w⟩ := w
      refine pf_Mo_121 rfl hk3 d_Mo_statement_82 ?_
      refine aw_iconst (v := (0 : Int32)) d_Mo_statement_85 (by decide) ?_
      exact aw_ireturn .boolean rfl rfl d_Mo_statement_86 w
    · replace w := w.2 cc2
      refine aw_iload_n (x := (0 : Int32)) d_Mo_statement_76 rfl ?_
      refine aw_if_eq (tgt := 87) d_Mo_statement_77 (by decide) (fun _ => ?_) (fun q => absurd (by decide) q)
      refine aw_aload_n (x := a0) d_Mo_statement_87 rfl ?_
      obtain ⟨hk4, w⟩ := w
      obtain ⟨b5, hb5, w⟩ := w
      refine gs_Mo_13 rfl hk4 hb5 d_Mo_statement_88 ?_
      refine aw_iload_n (x := sx0) d_Mo_statement_91 rfl ?_
      refine aw_iconst (v := (1 : Int32)) d_Mo_statement_92 (by decide) ?_
      obtain ⟨hk6, w⟩ := w
      obtain ⟨j7, hj7a, hj7b, hj7c, w⟩ := w
      refine aw_iastore j7 hk6 hj7a hj7b hj7c d_Mo_statement_93 ?_
      refine aw_aload_n (x := a0) d_Mo_statement_94 rfl ?_
      obtain ⟨b8, hb8, w⟩ := w
      refine gs_Mo_16 rfl hk4 hb8 d_Mo_statement_95 ?_
      refine aw_iconst (v := (0 : Int32)) d_Mo_statement_98 (by decide) ?_
      refine aw_dup2 d_Mo_statement_99 rfl rfl ?_
      obtain ⟨hk9, w⟩ := w
      obtain ⟨j10, hj10a, hj10b, hj10c, w⟩ := w
      refine aw_iaload j10 hk9 hj10a hj10b hj10c d_Mo_statement_100 ?_
      refine aw_iconst (v := (1 : Int32)) d_Mo_statement_101 (by decide) ?_
      refine aw_iadd d_Mo_statement_102 ?_
      refine aw_iastore j10 hk9 hj10a hj10b hj10c d_Mo_statement_103 ?_
      refine aw_iconst (v := (1 : Int32)) d_Mo_statement_104 (by decide) ?_
      refine aw_istore d_Mo_statement_105 (by decide) ?_
      refine aw_iload_n (x := sx0) d_Mo_statement_107 rfl ?_
      by_cases cc11_0 : sx0 = 0
      · replace w := w.1 cc11_0
        refine aw_tableIn (off := 36) (tgt := 144) d_Mo_statement_108 (by rw [cc11_0]; decide) (by rw [cc11_0]; decide) (by rw [cc11_0]; rfl) (by decide) ?_
        refine aw_aload_n (x := a0) d_Mo_statement_144 rfl ?_
        exact aw_room (cb' := 0 + cb) (sb' := 0 + sb) (by omega) (by omega) (aw_weak (lv' := [some (.ref a0), none, none, none, none]) ⟨rfl, trivial⟩ (aw_callV (M' := m_Mo_key) (lv0 := [some (.ref a0), none, none, none]) (As := []) (rest := []) 8 1005 1007 1008 rfl (by decide) rfl hk4 tb_1005 tb_1007 tb_1008 (fun U hU => hU.p 39 rfl) rfl rfl 0 0 rfl rfl ⟨by decide, by decide, by decide +kernel, by decide +kernel, by decide, by decide⟩ (Nat.le_of_ble_eq_true rfl) ⟨rfl, trivial⟩ rfl d_Mo_statement_145 w))
      by_cases cc11_1 : sx0 = 1
      · replace w := w.2.1 cc11_1
        refine aw_tableIn (off := 65) (tgt := 173) d_Mo_statement_108 (by rw [cc11_1]; decide) (by rw [cc11_1]; decide) (by rw [cc11_1]; rfl) (by decide) ?_
        refine aw_aload_n (x := a0) d_Mo_statement_173 rfl ?_
        exact aw_room (cb' := 0 + cb) (sb' := 0 + sb) (by omega) (by omega) (aw_weak (lv' := [some (.ref a0), none, none, none, none]) ⟨rfl, trivial⟩ (aw_callV (M' := m_Mo_testing) (lv0 := [some (.ref a0), none]) (As := []) (rest := []) 8 1025 1027 1028 rfl (by decide) rfl hk4 tb_1025 tb_1027 tb_1028 (fun U hU => hU.p 44 rfl) rfl rfl 0 0 rfl rfl ⟨by decide, by decide, by decide +kernel, by decide +kernel, by decide, by decide⟩ (Nat.le_of_ble_eq_true rfl) ⟨rfl, trivial⟩ rfl d_Mo_statement_174 w))
      by_cases cc11_2 : sx0 = 2
      · replace w := w.2.2.1 cc11_2
        refine aw_tableIn (off := 65) (tgt := 173) d_Mo_statement_108 (by rw [cc11_2]; decide) (by rw [cc11_2]; decide) (by rw [cc11_2]; rfl) (by decide) ?_
        refine aw_aload_n (x := a0) d_Mo_statement_173 rfl ?_
        exact aw_room (cb' := 0 + cb) (sb' := 0 + sb) (by omega) (by omega) (aw_weak (lv' := [some (.ref a0), none, none, none, none]) ⟨rfl, trivial⟩ (aw_callV (M' := m_Mo_testing) (lv0 := [some (.ref a0), none]) (As := []) (rest := []) 8 1025 1027 1028 rfl (by decide) rfl hk4 tb_1025 tb_1027 tb_1028 (fun U hU => hU.p 44 rfl) rfl rfl 0 0 rfl rfl ⟨by decide, by decide, by decide +kernel, by decide +kernel, by decide, by decide⟩ (Nat.le_of_ble_eq_true rfl) ⟨rfl, trivial⟩ rfl d_Mo_statement_174 w))
      by_cases cc11_3 : sx0 = 3
      · replace w := w.2.2.2.1 cc11_3
        refine aw_tableIn (off := 74) (tgt := 182) d_Mo_statement_108 (by rw [cc11_3]; decide) (by rw [cc11_3]; decide) (by rw [cc11_3]; rfl) (by decide) ?_
        refine aw_aload_n (x := a0) d_Mo_statement_182 rfl ?_
        exact aw_room (cb' := 0 + cb) (sb' := 0 + sb) (by omega) (by omega) (aw_weak (lv' := [some (.ref a0), none, none, none, none]) ⟨rfl, trivial⟩ (aw_callV (M' := m_Mo_sumField) (lv0 := [some (.ref a0)]) (As := []) (rest := []) 8 1037 1039 1040 rfl (by decide) rfl hk4 tb_1037 tb_1039 tb_1040 (fun U hU => hU.p 47 rfl) rfl rfl 0 0 rfl rfl ⟨by decide, by decide, by decide +kernel, by decide +kernel, by decide, by decide⟩ (Nat.le_of_ble_eq_true rfl) ⟨rfl, trivial⟩ rfl d_Mo_statement_183 w))
      by_cases cc11_4 : sx0 = 4
      · replace w := w.2.2.2.2.1 cc11_4
        refine aw_tableIn (off := 103) (tgt := 211) d_Mo_statement_108 (by rw [cc11_4]; decide) (by rw [cc11_4]; decide) (by rw [cc11_4]; rfl) (by decide) ?_
        refine aw_aload_n (x := a0) d_Mo_statement_211 rfl ?_
        exact aw_room (cb' := 0 + cb) (sb' := 0 + sb) (by omega) (by omega) (aw_weak (lv' := [some (.ref a0), none, none, none, none]) ⟨rfl, trivial⟩ (aw_callV (M' := m_Mo_piece) (lv0 := [some (.ref a0), none, none]) (As := []) (rest := []) 8 1041 1043 1044 rfl (by decide) rfl hk4 tb_1041 tb_1043 tb_1044 (fun U hU => hU.p 48 rfl) rfl rfl 0 0 rfl rfl ⟨by decide, by decide, by decide +kernel, by decide +kernel, by decide, by decide⟩ (Nat.le_of_ble_eq_true rfl) ⟨rfl, trivial⟩ rfl d_Mo_statement_212 w))
      replace w := w.2.2.2.2.2 cc11_0 cc11_1 cc11_2 cc11_3 cc11_4
      have cc11_0_t : ¬ sx0.toInt = 0 := lv_neT cc11_0 rfl
      have cc11_1_t : ¬ sx0.toInt = 1 := lv_neT cc11_1 rfl
      have cc11_2_t : ¬ sx0.toInt = 2 := lv_neT cc11_2 rfl
      have cc11_3_t : ¬ sx0.toInt = 3 := lv_neT cc11_3 rfl
      have cc11_4_t : ¬ sx0.toInt = 4 := lv_neT cc11_4 rfl
      refine aw_tableOut (tgt := 240) d_Mo_statement_108 (by omega) (by decide) ?_
      refine aw_aload_n (x := a0) d_Mo_statement_240 rfl ?_
      obtain ⟨b12, hb12, w⟩ := w
      refine gs_Mo_19 rfl hk4 hb12 d_Mo_statement_241 ?_
      refine aw_iload_n (x := sx0) d_Mo_statement_244 rfl ?_
      refine aw_iconst (v := (5 : Int32)) d_Mo_statement_245 (by decide) ?_
      refine aw_isub d_Mo_statement_246 ?_
      refine aw_aload_n (x := a0) d_Mo_statement_247 rfl ?_
      refine aw_iconst (v := (0 : Int32)) d_Mo_statement_248 (by decide) ?_
      refine aw_sipush (v := (9999 : Int32)) d_Mo_statement_249 (by decide) ?_
      exact aw_room (cb' := 0 + cb) (sb' := 0 + sb) (by omega) (by omega) (aw_weak (lv' := [some (.ref a0), none, some (.int sx0), none, none]) ⟨rfl, rfl, trivial⟩ (aw_callV (M' := m_Mo_number) (lv0 := [some (.ref a0), some (.int (0 : Int32)), some (.int (9999 : Int32)), none, none]) (As := [.int (0 : Int32), .int (9999 : Int32)]) (rest := [.int (sx0 - (5 : Int32)), .ref b12]) 8 1013 1015 1016 rfl (by decide) rfl hk4 tb_1013 tb_1015 tb_1016 (fun U hU => hU.p 41 rfl) rfl rfl 2 2 rfl rfl ⟨by decide, by decide, by decide +kernel, by decide +kernel, by decide, by decide⟩ (Nat.le_of_ble_eq_true rfl) ⟨rfl, rfl, rfl, trivial⟩ rfl d_Mo_statement_252 w))
  · replace w := w.2 cc1
    refine aw_aload_n (x := a0) d_Mo_statement_30 rfl ?_
    obtain ⟨hk13, w⟩ := w
    obtain ⟨b14, hb14, w⟩ := w
    refine gs_Mo_13 rfl hk13 hb14 d_Mo_statement_31 ?_
    refine aw_iload_n (x := sx0) d_Mo_statement_34 rfl ?_
    obtain ⟨hk15, w⟩ := w
    obtain ⟨j16, hj16a, hj16b, hj16c, w⟩ := w
    refine aw_iaload j16 hk15 hj16a hj16b hj16c d_Mo_statement_35 ?_
    refine aw_if_gt (tgt := 65) d_Mo_statement_36 (by decide) (fun cc17 => ?_) (fun cc17 => ?_)
    · replace w := w.1 cc17
      refine aw_iconst (v := (1 : Int32)) d_Mo_statement_65 (by decide) ?_
      refine aw_goto (tgt := 70) d_Mo_statement_66 (by decide) ?_
      refine aw_istore_n d_Mo_statement_70 (by decide) ?_
      refine aw_iload_n (x := sx0) d_Mo_statement_71 rfl ?_
      refine aw_iconst (v := ((-1) : Int32)) d_Mo_statement_72 (by decide) ?_
      refine aw_icmp_eq (tgt := 80) d_Mo_statement_73 (by decide) (fun cc18 => ?_) (fun cc18 => ?_)
      · replace w := w.1 cc18
        refine aw_aload_n (x := a0) d_Mo_statement_80 rfl ?_
        refine aw_iload_n (x := x1) d_Mo_statement_81 rfl ?_
        refine pf_Mo_121 rfl hk13 d_Mo_statement_82 ?_
        refine aw_iconst (v := (0 : Int32)) d_Mo_statement_85 (by decide) ?_
        exact aw_ireturn .boolean rfl rfl d_Mo_statement_86 w
      · replace w := w.2 cc18
        refine aw_iload_n (x := (1 : Int32)) d_Mo_statement_76 rfl ?_
        refine aw_if_eq (tgt := 87) d_Mo_statement_77 (by decide) (fun q => absurd q (by decide)) (fun _ => ?_)
        refine aw_aload_n (x := a0) d_Mo_statement_80 rfl ?_
        refine aw_iload_n (x := x1) d_Mo_statement_81 rfl ?_
        refine pf_Mo_121 rfl hk13 d_Mo_statement_82 ?_
        refine aw_iconst (v := (0 : Int32)) d_Mo_statement_85 (by decide) ?_
        exact aw_ireturn .boolean rfl rfl d_Mo_statement_86 w
    · replace w := w.2 cc17
      refine aw_iload_n (x := sx0) d_Mo_statement_39 rfl ?_
      refine aw_iconst (v := (1 : Int32)) d_Mo_statement_40 (by decide) ?_
      refine aw_icmp_eq (tgt := 49) d_Mo_statement_41 (by decide) (fun cc19 => ?_) (fun cc19 => ?_)
      · replace w := w.1 cc19
        exact aw_weak (lv' := [some (.ref a0), some (.int x1), some (.int sx0), none, none]) ⟨rfl, rfl, rfl, trivial⟩ w
      · replace w := w.2 cc19
        refine aw_iload_n (x := sx0) d_Mo_statement_44 rfl ?_
        refine aw_iconst (v := (2 : Int32)) d_Mo_statement_45 (by decide) ?_
        refine aw_icmp_ne (tgt := 69) d_Mo_statement_46 (by decide) (fun cc20 => ?_) (fun cc20 => ?_)
        · replace w := w.1 cc20
          refine aw_iconst (v := (0 : Int32)) d_Mo_statement_69 (by decide) ?_
          refine aw_istore_n d_Mo_statement_70 (by decide) ?_
          refine aw_iload_n (x := sx0) d_Mo_statement_71 rfl ?_
          refine aw_iconst (v := ((-1) : Int32)) d_Mo_statement_72 (by decide) ?_
          refine aw_icmp_eq (tgt := 80) d_Mo_statement_73 (by decide) (fun cc21 => ?_) (fun cc21 => ?_)
          · replace w := w.1 cc21
            refine aw_aload_n (x := a0) d_Mo_statement_80 rfl ?_
            refine aw_iload_n (x := x1) d_Mo_statement_81 rfl ?_
            refine pf_Mo_121 rfl hk13 d_Mo_statement_82 ?_
            refine aw_iconst (v := (0 : Int32)) d_Mo_statement_85 (by decide) ?_
            exact aw_ireturn .boolean rfl rfl d_Mo_statement_86 w
          · replace w := w.2 cc21
            refine aw_iload_n (x := (0 : Int32)) d_Mo_statement_76 rfl ?_
            refine aw_if_eq (tgt := 87) d_Mo_statement_77 (by decide) (fun _ => ?_) (fun q => absurd (by decide) q)
            refine aw_aload_n (x := a0) d_Mo_statement_87 rfl ?_
            refine gs_Mo_13 rfl hk13 hb14 d_Mo_statement_88 ?_
            refine aw_iload_n (x := sx0) d_Mo_statement_91 rfl ?_
            refine aw_iconst (v := (1 : Int32)) d_Mo_statement_92 (by decide) ?_
            refine aw_iastore j16 hk15 hj16a hj16b hj16c d_Mo_statement_93 ?_
            refine aw_aload_n (x := a0) d_Mo_statement_94 rfl ?_
            obtain ⟨b22, hb22, w⟩ := w
            refine gs_Mo_16 rfl hk13 hb22 d_Mo_statement_95 ?_
            refine aw_iconst (v := (0 : Int32)) d_Mo_statement_98 (by decide) ?_
            refine aw_dup2 d_Mo_statement_99 rfl rfl ?_
            obtain ⟨hk23, w⟩ := w
            obtain ⟨j24, hj24a, hj24b, hj24c, w⟩ := w
            refine aw_iaload j24 hk23 hj24a hj24b hj24c d_Mo_statement_100 ?_
            refine aw_iconst (v := (1 : Int32)) d_Mo_statement_101 (by decide) ?_
            refine aw_iadd d_Mo_statement_102 ?_
            refine aw_iastore j24 hk23 hj24a hj24b hj24c d_Mo_statement_103 ?_
            refine aw_iconst (v := (1 : Int32)) d_Mo_statement_104 (by decide) ?_
            refine aw_istore d_Mo_statement_105 (by decide) ?_
            refine aw_iload_n (x := sx0) d_Mo_statement_107 rfl ?_
            by_cases cc25_0 : sx0 = 0
            · replace w := w.1 cc25_0
              refine aw_tableIn (off := 36) (tgt := 144) d_Mo_statement_108 (by rw [cc25_0]; decide) (by rw [cc25_0]; decide) (by rw [cc25_0]; rfl) (by decide) ?_
              refine aw_aload_n (x := a0) d_Mo_statement_144 rfl ?_
              exact aw_room (cb' := 0 + cb) (sb' := 0 + sb) (by omega) (by omega) (aw_weak (lv' := [some (.ref a0), none, none, none, none]) ⟨rfl, trivial⟩ (aw_callV (M' := m_Mo_key) (lv0 := [some (.ref a0), none, none, none]) (As := []) (rest := []) 8 1005 1007 1008 rfl (by decide) rfl hk13 tb_1005 tb_1007 tb_1008 (fun U hU => hU.p 39 rfl) rfl rfl 0 0 rfl rfl ⟨by decide, by decide, by decide +kernel, by decide +kernel, by decide, by decide⟩ (Nat.le_of_ble_eq_true rfl) ⟨rfl, trivial⟩ rfl d_Mo_statement_145 w))
            by_cases cc25_1 : sx0 = 1
            · replace w := w.2.1 cc25_1
              refine aw_tableIn (off := 65) (tgt := 173) d_Mo_statement_108 (by rw [cc25_1]; decide) (by rw [cc25_1]; decide) (by rw [cc25_1]; rfl) (by decide) ?_
              refine aw_aload_n (x := a0) d_Mo_statement_173 rfl ?_
              exact aw_room (cb' := 0 + cb) (sb' := 0 + sb) (by omega) (by omega) (aw_weak (lv' := [some (.ref a0), none, none, none, none]) ⟨rfl, trivial⟩ (aw_callV (M' := m_Mo_testing) (lv0 := [some (.ref a0), none]) (As := []) (rest := []) 8 1025 1027 1028 rfl (by decide) rfl hk13 tb_1025 tb_1027 tb_1028 (fun U hU => hU.p 44 rfl) rfl rfl 0 0 rfl rfl ⟨by decide, by decide, by decide +kernel, by decide +kernel, by decide, by decide⟩ (Nat.le_of_ble_eq_true rfl) ⟨rfl, trivial⟩ rfl d_Mo_statement_174 w))
            by_cases cc25_2 : sx0 = 2
            · replace w := w.2.2.1 cc25_2
              refine aw_tableIn (off := 65) (tgt := 173) d_Mo_statement_108 (by rw [cc25_2]; decide) (by rw [cc25_2]; decide) (by rw [cc25_2]; rfl) (by decide) ?_
              refine aw_aload_n (x := a0) d_Mo_statement_173 rfl ?_
              exact aw_room (cb' := 0 + cb) (sb' := 0 + sb) (by omega) (by omega) (aw_weak (lv' := [some (.ref a0), none, none, none, none]) ⟨rfl, trivial⟩ (aw_callV (M' := m_Mo_testing) (lv0 := [some (.ref a0), none]) (As := []) (rest := []) 8 1025 1027 1028 rfl (by decide) rfl hk13 tb_1025 tb_1027 tb_1028 (fun U hU => hU.p 44 rfl) rfl rfl 0 0 rfl rfl ⟨by decide, by decide, by decide +kernel, by decide +kernel, by decide, by decide⟩ (Nat.le_of_ble_eq_true rfl) ⟨rfl, trivial⟩ rfl d_Mo_statement_174 w))
            by_cases cc25_3 : sx0 = 3
            · replace w := w.2.2.2.1 cc25_3
              refine aw_tableIn (off := 74) (tgt := 182) d_Mo_statement_108 (by rw [cc25_3]; decide) (by rw [cc25_3]; decide) (by rw [cc25_3]; rfl) (by decide) ?_
              refine aw_aload_n (x := a0) d_Mo_statement_182 rfl ?_
              exact aw_room (cb' := 0 + cb) (sb' := 0 + sb) (by omega) (by omega) (aw_weak (lv' := [some (.ref a0), none, none, none, none]) ⟨rfl, trivial⟩ (aw_callV (M' := m_Mo_sumField) (lv0 := [some (.ref a0)]) (As := []) (rest := []) 8 1037 1039 1040 rfl (by decide) rfl hk13 tb_1037 tb_1039 tb_1040 (fun U hU => hU.p 47 rfl) rfl rfl 0 0 rfl rfl ⟨by decide, by decide, by decide +kernel, by decide +kernel, by decide, by decide⟩ (Nat.le_of_ble_eq_true rfl) ⟨rfl, trivial⟩ rfl d_Mo_statement_183 w))
            by_cases cc25_4 : sx0 = 4
            · replace w := w.2.2.2.2.1 cc25_4
              refine aw_tableIn (off := 103) (tgt := 211) d_Mo_statement_108 (by rw [cc25_4]; decide) (by rw [cc25_4]; decide) (by rw [cc25_4]; rfl) (by decide) ?_
              refine aw_aload_n (x := a0) d_Mo_statement_211 rfl ?_
              exact aw_room (cb' := 0 + cb) (sb' := 0 + sb) (by omega) (by omega) (aw_weak (lv' := [some (.ref a0), none, none, none, none]) ⟨rfl, trivial⟩ (aw_callV (M' := m_Mo_piece) (lv0 := [some (.ref a0), none, none]) (As := []) (rest := []) 8 1041 1043 1044 rfl (by decide) rfl hk13 tb_1041 tb_1043 tb_1044 (fun U hU => hU.p 48 rfl) rfl rfl 0 0 rfl rfl ⟨by decide, by decide, by decide +kernel, by decide +kernel, by decide, by decide⟩ (Nat.le_of_ble_eq_true rfl) ⟨rfl, trivial⟩ rfl d_Mo_statement_212 w))
            replace w := w.2.2.2.2.2 cc25_0 cc25_1 cc25_2 cc25_3 cc25_4
            have cc25_0_t : ¬ sx0.toInt = 0 := lv_neT cc25_0 rfl
            have cc25_1_t : ¬ sx0.toInt = 1 := lv_neT cc25_1 rfl
            have cc25_2_t : ¬ sx0.toInt = 2 := lv_neT cc25_2 rfl
            have cc25_3_t : ¬ sx0.toInt = 3 := lv_neT cc25_3 rfl
            have cc25_4_t : ¬ sx0.toInt = 4 := lv_neT cc25_4 rfl
            refine aw_tableOut (tgt := 240) d_Mo_statement_108 (by omega) (by decide) ?_
            refine aw_aload_n (x := a0) d_Mo_statement_240 rfl ?_
            obtain ⟨b26, hb26, w⟩ := w
            refine gs_Mo_19 rfl hk13 hb26 d_Mo_statement_241 ?_
            refine aw_iload_n (x := sx0) d_Mo_statement_244 rfl ?_
            refine aw_iconst (v := (5 : Int32)) d_Mo_statement_245 (by decide) ?_
            refine aw_isub d_Mo_statement_246 ?_
            refine aw_aload_n (x := a0) d_Mo_statement_247 rfl ?_
            refine aw_iconst (v := (0 : Int32)) d_Mo_statement_248 (by decide) ?_
            refine aw_sipush (v := (9999 : Int32)) d_Mo_statement_249 (by decide) ?_
            exact aw_room (cb' := 0 + cb) (sb' := 0 + sb) (by omega) (by omega) (aw_weak (lv' := [some (.ref a0), none, some (.int sx0), none, none]) ⟨rfl, rfl, trivial⟩ (aw_callV (M' := m_Mo_number) (lv0 := [some (.ref a0), some (.int (0 : Int32)), some (.int (9999 : Int32)), none, none]) (As := [.int (0 : Int32), .int (9999 : Int32)]) (rest := [.int (sx0 - (5 : Int32)), .ref b26]) 8 1013 1015 1016 rfl (by decide) rfl hk13 tb_1013 tb_1015 tb_1016 (fun U hU => hU.p 41 rfl) rfl rfl 2 2 rfl rfl ⟨by decide, by decide, by decide +kernel, by decide +kernel, by decide, by decide⟩ (Nat.le_of_ble_eq_true rfl) ⟨rfl, rfl, rfl, trivial⟩ rfl d_Mo_statement_252 w))
        · replace w := w.2 cc20
          exact aw_weak (lv' := [some (.ref a0), some (.int x1), some (.int sx0), none, none]) ⟨rfl, rfl, rfl, trivial⟩ w
set_option maxRecDepth 20000 in
theorem r_Mo_statement_49 {E : zE} {K n : Nat → Nat} {I : Nat → Nat → Int32} {F : Nat → Nat → Option Nat} {J : Nat → Nat → Int64} {cb sb : Nat} {Q : zO → zH → Prop} {a0 : Nat} {x1 : Int32} {x2 : Int32}
    (w : K a0 = 9 ∧ (∃ b2 : Nat, F a0 4 = some b2 ∧ K b2 = 21 ∧ (∃ j4 : Nat, (1 : Int32) = nI j4 ∧ j4 < n b2 ∧ j4 < 2147483648 ∧ (∃ j5 : Nat, (2 : Int32) = nI j5 ∧ j5 < n b2 ∧ j5 < 2147483648 ∧ ((((I b2 j4) + (I b2 j5)) ≤ 0 → ((x2 = ((-1) : Int32) → Q (.inl (some (.int (0 : Int32)))) (K, n, (zup I a0 3 x1), F, J)) ∧ (¬ x2 = ((-1) : Int32) → (∃ j8 : Nat, x2 = nI j8 ∧ j8 < n b2 ∧ j8 < 2147483648 ∧ (∃ b9 : Nat, F a0 5 = some b9 ∧ K b9 = 21 ∧ (∃ j11 : Nat, (0 : Int32) = nI j11 ∧ j11 < n b9 ∧ j11 < 2147483648 ∧ ((x2 = 0 → AW E m_Mo_key (K, n, (zup (zup I b2 j8 (1 : Int32)) b9 j11 (((zup I b2 j8 (1 : Int32)) b9 j11) + (1 : Int32))), F, J) 0 0 (zAft E m_Mo_statement cb sb Q 145 [some (.ref a0), none, none, none, none] []) 0 [some (.ref a0), none, none, none] []) ∧ (x2 = 1 → AW E m_Mo_testing (K, n, (zup (zup I b2 j8 (1 : Int32)) b9 j11 (((zup I b2 j8 (1 : Int32)) b9 j11) + (1 : Int32))), F, J) 0 0 (zAft E m_Mo_statement cb sb Q 174 [some (.ref a0), none, none, none, none] []) 0 [some (.ref a0), none] []) ∧ (x2 = 2 → AW E m_Mo_testing (K, n, (zup (zup I b2 j8 (1 : Int32)) b9 j11 (((zup I b2 j8 (1 : Int32)) b9 j11) + (1 : Int32))), F, J) 0 0 (zAft E m_Mo_statement cb sb Q 174 [some (.ref a0), none, none, none, none] []) 0 [some (.ref a0), none] []) ∧ (x2 = 3 → AW E m_Mo_sumField (K, n, (zup (zup I b2 j8 (1 : Int32)) b9 j11 (((zup I b2 j8 (1 : Int32)) b9 j11) + (1 : Int32))), F, J) 0 0 (zAft E m_Mo_statement cb sb Q 183 [some (.ref a0), none, none, none, none] []) 0 [some (.ref a0)] []) ∧ (x2 = 4 → AW E m_Mo_piece (K, n, (zup (zup I b2 j8 (1 : Int32)) b9 j11 (((zup I b2 j8 (1 : Int32)) b9 j11) + (1 : Int32))), F, J) 0 0 (zAft E m_Mo_statement cb sb Q 212 [some (.ref a0), none, none, none, none] []) 0 [some (.ref a0), none, none] []) ∧ (¬ x2 = 0 → ¬ x2 = 1 → ¬ x2 = 2 → ¬ x2 = 3 → ¬ x2 = 4 → (∃ b13 : Nat, F a0 6 = some b13 ∧ AW E m_Mo_number (K, n, (zup (zup I b2 j8 (1 : Int32)) b9 j11 (((zup I b2 j8 (1 : Int32)) b9 j11) + (1 : Int32))), F, J) 0 0 (zAft E m_Mo_statement cb sb Q 252 [some (.ref a0), none, some (.int x2), none, none] [.int (x2 - (5 : Int32)), .ref b13]) 0 [some (.ref a0), some (.int (0 : Int32)), some (.int (9999 : Int32)), none, none] []))))))))) ∧ (¬ ((I b2 j4) + (I b2 j5)) ≤ 0 → ((x2 = ((-1) : Int32) → Q (.inl (some (.int (0 : Int32)))) (K, n, (zup I a0 3 x1), F, J)) ∧ (¬ x2 = ((-1) : Int32) → Q (.inl (some (.int (0 : Int32)))) (K, n, (zup I a0 3 x1), F, J))))))))) :
    AW E m_Mo_statement (K, n, I, F, J) cb sb Q 49 [some (.ref a0), some (.int x1), some (.int x2), none, none] [] := by
  refine aw_aload_n (x := a0) d_Mo_statement_49 rfl ?_
  obtain ⟨hk1, w⟩ := w
  obtain ⟨b2, hb2, w⟩ := w
  refine gs_Mo_13 rfl hk1 hb2 d_Mo_statement_50 ?_
  refine aw_iconst (v := (1 : Int32)) d_Mo_statement_53 (by decide) ?_
  obtain ⟨hk3, w⟩ := w
  obtain ⟨j4, hj4a, hj4b, hj4c, w⟩ := w
  refine aw_iaload j4 hk3 hj4a hj4b hj4c d_Mo_statement_54 ?_
  refine aw_aload_n (x := a0) d_Mo_statement_55 rfl ?_
  refine gs_Mo_13 rfl hk1 hb2 d_Mo_statement_56 ?_
  refine aw_iconst (v := (2 : Int32)) d_Mo_statement_59 (by decide) ?_
  obtain ⟨j5, hj5a, hj5b, hj5c, w⟩ := w
  refine aw_iaload j5 hk3 hj5a hj5b hj5c d_Mo_statement_60 ?_
  refine aw_iadd d_Mo_statement_61 ?_
  refine aw_if_le (tgt := 69) d_Mo_statement_62 (by decide) (fun cc6 => ?_) (fun cc6 => ?_)
  · replace w := w.1 cc6
    refine aw_iconst (v := (0 : Int32)) d_Mo_statement_69 (by decide) ?_
    refine aw_istore_n d_Mo_statement_70 (by decide) ?_
    refine aw_iload_n (x := x2) d_Mo_statement_71 rfl ?_
    refine aw_iconst (v := ((-1) : Int32)) d_Mo_statement_72 (by decide) ?_
    refine aw_icmp_eq (tgt := 80) d_Mo_statement_73 (by decide) (fun cc7 => ?_) (fun cc7 => ?_)
    · replace w := w.1 cc7
      refine aw_aload_n (x := a0) d_Mo_statement_80 rfl ?_
      refine aw_iload_n (x := x1) d_Mo_statement_81 rfl ?_
      refine pf_Mo_121 rfl hk1 d_Mo_statement_82 ?_
      refine aw_iconst (v := (0 : Int32)) d_Mo_statement_85 (by decide) ?_
      exact aw_ireturn .boolean rfl rfl d_Mo_statement_86 w
    · replace w := w.2 cc7
      refine aw_iload_n (x := (0 : Int32)) d_Mo_statement_76 rfl ?_
      refine aw_if_eq (tgt := 87) d_Mo_statement_77 (by decide) (fun _ => ?_) (fun q => absurd (by decide) q)
      refine aw_aload_n (x := a0) d_Mo_statement_87 rfl ?_
      refine gs_Mo_13 rfl hk1 hb2 d_Mo_statement_88 ?_
      refine aw_iload_n (x := x2) d_Mo_statement_91 rfl ?_
      refine aw_iconst (v := (1 : Int32)) d_Mo_statement_92 (by decide) ?_
      obtain ⟨j8, hj8a, hj8b, hj8c, w⟩ := w
      refine aw_iastore j8 hk3 hj8a hj8b hj8c d_Mo_statement_93 ?_
      refine aw_aload_n (x := a0) d_Mo_statement_94 rfl ?_
      obtain ⟨b9, hb9, w⟩ := w
      refine gs_Mo_16 rfl hk1 hb9 d_Mo_statement_95 ?_
      refine aw_iconst (v := (0 : Int32)) d_Mo_statement_98 (by decide) ?_
      refine aw_dup2 d_Mo_statement_99 rfl rfl ?_
      obtain ⟨hk10, w⟩ := w
      obtain ⟨j11, hj11a, hj11b, hj11c, w⟩ := w
      refine aw_iaload j11 hk10 hj11a hj11b hj11c d_Mo_statement_100 ?_
      refine aw_iconst (v := (1 : Int32)) d_Mo_statement_101 (by decide) ?_
      refine aw_iadd d_Mo_statement_102 ?_
      refine aw_iastore j11 hk10 hj11a hj11b hj11c d_Mo_statement_103 ?_
      refine aw_iconst (v := (1 : Int32)) d_Mo_statement_104 (by decide) ?_
      refine aw_istore d_Mo_statement_105 (by decide) ?_
      refine aw_iload_n (x := x2) d_Mo_statement_107 rfl ?_
      by_cases cc12_0 : x2 = 0
      · replace w := w.1 cc12_0
        refine aw_tableIn (off := 36) (tgt := 144) d_Mo_statement_108 (by rw [cc12_0]; decide) (by rw [cc12_0]; decide) (by rw [cc12_0]; rfl) (by decide) ?_
        refine aw_aload_n (x := a0) d_Mo_statement_144 rfl ?_
        exact aw_room (cb' := 0 + cb) (sb' := 0 + sb) (by omega) (by omega) (aw_weak (lv' := [some (.ref a0), none, none, none, none]) ⟨rfl, trivial⟩ (aw_callV (M' := m_Mo_key) (lv0 := [some (.ref a0), none, none, none]) (As := []) (rest := []) 8 1005 1007 1008 rfl (by decide) rfl hk1 tb_1005 tb_1007 tb_1008 (fun U hU => hU.p 39 rfl) rfl rfl 0 0 rfl rfl ⟨by decide, by decide, by decide +kernel, by decide +kernel, by decide, by decide⟩ (Nat.le_of_ble_eq_true rfl) ⟨rfl, trivial⟩ rfl d_Mo_statement_145 w))
      by_cases cc12_1 : x2 = 1
      · replace w := w.2.1 cc12_1
        refine aw_tableIn (off := 65) (tgt := 173) d_Mo_statement_108 (by rw [cc12_1]; decide) (by rw [cc12_1]; decide) (by rw [cc12_1]; rfl) (by decide) ?_
        refine aw_aload_n (x := a0) d_Mo_statement_173 rfl ?_
        exact aw_room (cb' := 0 + cb) (sb' := 0 + sb) (by omega) (by omega) (aw_weak (lv' := [some (.ref a0), none, none, none, none]) ⟨rfl, trivial⟩ (aw_callV (M' := m_Mo_testing) (lv0 := [some (.ref a0), none]) (As := []) (rest := []) 8 1025 1027 1028 rfl (by decide) rfl hk1 tb_1025 tb_1027 tb_1028 (fun U hU => hU.p 44 rfl) rfl rfl 0 0 rfl rfl ⟨by decide, by decide, by decide +kernel, by decide +kernel, by decide, by decide⟩ (Nat.le_of_ble_eq_true rfl) ⟨rfl, trivial⟩ rfl d_Mo_statement_174 w))
      by_cases cc12_2 : x2 = 2
      · replace w := w.2.2.1 cc12_2
        refine aw_tableIn (off := 65) (tgt := 173) d_Mo_statement_108 (by rw [cc12_2]; decide) (by rw [cc12_2]; decide) (by rw [cc12_2]; rfl) (by decide) ?_
        refine aw_aload_n (x := a0) d_Mo_statement_173 rfl ?_
        exact aw_room (cb' := 0 + cb) (sb' := 0 + sb) (by omega) (by omega) (aw_weak (lv' := [some (.ref a0), none, none, none, none]) ⟨rfl, trivial⟩ (aw_callV (M' := m_Mo_testing) (lv0 := [some (.ref a0), none]) (As := []) (rest := []) 8 1025 1027 1028 rfl (by decide) rfl hk1 tb_1025 tb_1027 tb_1028 (fun U hU => hU.p 44 rfl) rfl rfl 0 0 rfl rfl ⟨by decide, by decide, by decide +kernel, by decide +kernel, by decide, by decide⟩ (Nat.le_of_ble_eq_true rfl) ⟨rfl, trivial⟩ rfl d_Mo_statement_174 w))
      by_cases cc12_3 : x2 = 3
      · replace w := w.2.2.2.1 cc12_3
        refine aw_tableIn (off := 74) (tgt := 182) d_Mo_statement_108 (by rw [cc12_3]; decide) (by rw [cc12_3]; decide) (by rw [cc12_3]; rfl) (by decide) ?_
        refine aw_aload_n (x := a0) d_Mo_statement_182 rfl ?_
        exact aw_room (cb' := 0 + cb) (sb' := 0 + sb) (by omega) (by omega) (aw_weak (lv' := [some (.ref a0), none, none, none, none]) ⟨rfl, trivial⟩ (aw_callV (M' := m_Mo_sumField) (lv0 := [some (.ref a0)]) (As := []) (rest := []) 8 1037 1039 1040 rfl (by decide) rfl hk1 tb_1037 tb_1039 tb_1040 (fun U hU => hU.p 47 rfl) rfl rfl 0 0 rfl rfl ⟨by decide, by decide, by decide +kernel, by decide +kernel, by decide, by decide⟩ (Nat.le_of_ble_eq_true rfl) ⟨rfl, trivial⟩ rfl d_Mo_statement_183 w))
      by_cases cc12_4 : x2 = 4
      · replace w := w.2.2.2.2.1 cc12_4
        refine aw_tableIn (off := 103) (tgt := 211) d_Mo_statement_108 (by rw [cc12_4]; decide) (by rw [cc12_4]; decide) (by rw [cc12_4]; rfl) (by decide) ?_
        refine aw_aload_n (x := a0) d_Mo_statement_211 rfl ?_
        exact aw_room (cb' := 0 + cb) (sb' := 0 + sb) (by omega) (by omega) (aw_weak (lv' := [some (.ref a0), none, none, none, none]) ⟨rfl, trivial⟩ (aw_callV (M' := m_Mo_piece) (lv0 := [some (.ref a0), none, none]) (As := []) (rest := []) 8 1041 1043 1044 rfl (by decide) rfl hk1 tb_1041 tb_1043 tb_1044 (fun U hU => hU.p 48 rfl) rfl rfl 0 0 rfl rfl ⟨by decide, by decide, by decide +kernel, by decide +kernel, by decide, by decide⟩ (Nat.le_of_ble_eq_true rfl) ⟨rfl, trivial⟩ rfl d_Mo_statement_212 w))
      replace w := w.2.2.2.2.2 cc12_0 cc12_1 cc12_2 cc12_3 cc12_4
      have cc12_0_t : ¬ x2.toInt = 0 := lv_neT cc12_0 rfl
      have cc12_1_t : ¬ x2.toInt = 1 := lv_neT cc12_1 rfl
      have cc12_2_t : ¬ x2.toInt = 2 := lv_neT cc12_2 rfl
      have cc12_3_t : ¬ x2.toInt = 3 := lv_neT cc12_3 rfl
      have cc12_4_t : ¬ x2.toInt = 4 := lv_neT cc12_4 rfl
      refine aw_tableOut (tgt := 240) d_Mo_statement_108 (by omega) (by decide) ?_
      refine aw_aload_n (x := a0) d_Mo_statement_240 rfl ?_
      obtain ⟨b13, hb13, w⟩ := w
      refine gs_Mo_19 rfl hk1 hb13 d_Mo_statement_241 ?_
      refine aw_iload_n (x := x2) d_Mo_statement_244 rfl ?_
      refine aw_iconst (v := (5 : Int32)) d_Mo_statement_245 (by decide) ?_
      refine aw_isub d_Mo_statement_246 ?_
      refine aw_aload_n (x := a0) d_Mo_statement_247 rfl ?_
      refine aw_iconst (v := (0 : Int32)) d_Mo_statement_248 (by decide) ?_
      refine aw_sipush (v := (9999 : Int32)) d_Mo_statement_249 (by decide) ?_
      exact aw_room (cb' := 0 + cb) (sb' := 0 + sb) (by omega) (by omega) (aw_weak (lv' := [some (.ref a0), none, some (.int x2), none, none]) ⟨rfl, rfl, trivial⟩ (aw_callV (M' := m_Mo_number) (lv0 := [some (.ref a0), some (.int (0 : Int32)), some (.int (9999 : Int32)), none, none]) (As := [.int (0 : Int32), .int (9999 : Int32)]) (rest := [.int (x2 - (5 : Int32)), .ref b13]) 8 1013 1015 1016 rfl (by decide) rfl hk1 tb_1013 tb_1015 tb_1016 (fun U hU => hU.p 41 rfl) rfl rfl 2 2 rfl rfl ⟨by decide, by decide, by decide +kernel, by decide +kernel, by decide, by decide⟩ (Nat.le_of_ble_eq_true rfl) ⟨rfl, rfl, rfl, trivial⟩ rfl d_Mo_statement_252 w))
  · replace w := w.2 cc6
    refine aw_iconst (v := (1 : Int32)) d_Mo_statement_65 (by decide) ?_
    refine aw_goto (tgt := 70) d_Mo_statement_66 (by decide) ?_
    refine aw_istore_n d_Mo_statement_70 (by decide) ?_
    refine aw_iload_n (x := x2) d_Mo_statement_71 rfl ?_
    refine aw_iconst (v := ((-1) : Int32)) d_Mo_statement_72 (by decide) ?_
    refine aw_icmp_eq (tgt := 80) d_Mo_statement_73 (by decide) (fun cc14 => ?_) (fun cc14 => ?_)
    · replace w := w.1 cc14
      refine aw_aload_n (x := a0) d_Mo_statement_80 rfl ?_
      refine aw_iload_n (x := x1) d_Mo_statement_81 rfl ?_
      refine pf_Mo_121 rfl hk1 d_Mo_statement_82 ?_
      refine aw_iconst (v := (0 : Int32)) d_Mo_statement_85 (by decide) ?_
      exact aw_ireturn .boolean rfl rfl d_Mo_statement_86 w
    · replace w := w.2 cc14
      refine aw_iload_n (x := (1 : Int32)) d_Mo_statement_76 rfl ?_
      refine aw_if_eq (tgt := 87) d_Mo_statement_77 (by decide) (fun q => absurd q (by decide)) (fun _ => ?_)
      refine aw_aload_n (x := a0) d_Mo_statement_80 rfl ?_
      refine aw_iload_n (x := x1) d_Mo_statement_81 rfl ?_
      refine pf_Mo_121 rfl hk1 d_Mo_statement_82 ?_
      refine aw_iconst (v := (0 : Int32)) d_Mo_statement_85 (by decide) ?_
      exact aw_ireturn .boolean rfl rfl d_Mo_statement_86 w
set_option maxRecDepth 20000 in
theorem r_Mo_statement_148 {E : zE} {K n : Nat → Nat} {I : Nat → Nat → Int32} {F : Nat → Nat → Option Nat} {J : Nat → Nat → Int64} {cb sb : Nat} {Q : zO → zH → Prop} {a0 : Nat} {sx0 : Int32}
    (w : AW E m_Mo_statement (K, n, I, F, J) cb sb Q 150 [some (.ref a0), none, none, none, some (.int sx0)] []) :
    AW E m_Mo_statement (K, n, I, F, J) cb sb Q 148 [some (.ref a0), none, none, none, none] [.int sx0] := by
  refine aw_istore d_Mo_statement_148 (by decide) ?_
  exact aw_weak (lv' := [some (.ref a0), none, none, none, some (.int sx0)]) ⟨rfl, rfl, trivial⟩ w
set_option maxRecDepth 20000 in
theorem r_Mo_statement_150 {E : zE} {K n : Nat → Nat} {I : Nat → Nat → Int32} {F : Nat → Nat → Option Nat} {J : Nat → Nat → Int64} {cb sb : Nat} {Q : zO → zH → Prop} {a0 : Nat} {x4 : Int32}
    (w : ((x4 = 0 → ((x4 = 0 → Q (.inl (some (.int (0 : Int32)))) (K, n, I, F, J)) ∧ (¬ x4 = 0 → K a0 = 9 ∧ AW E m_Mo_meets (K, n, I, F, J) 0 0 (zAft E m_Mo_statement cb sb Q 283 [none, none, none, none, none] []) 0 [some (.ref a0), some (.int (59 : Int32))] []))) ∧ (¬ x4 = 0 → K a0 = 9 ∧ AW E m_Mo_sign (K, n, I, F, J) 0 0 (zAft E m_Mo_statement cb sb Q 156 [some (.ref a0), none, none, none, some (.int x4)] []) 0 [some (.ref a0)] []))) :
    AW E m_Mo_statement (K, n, I, F, J) cb sb Q 150 [some (.ref a0), none, none, none, some (.int x4)] [] := by
  refine aw_iload (x := x4) d_Mo_statement_150 rfl ?_
  refine aw_if_eq (tgt := 275) d_Mo_statement_152 (by decide) (fun cc1 => ?_) (fun cc1 => ?_)
  · replace w := w.1 cc1
    refine aw_iload (x := x4) d_Mo_statement_275 rfl ?_
    refine aw_if_eq (tgt := 293) d_Mo_statement_277 (by decide) (fun cc2 => ?_) (fun cc2 => ?_)
    · replace w := w.1 cc2
      refine aw_iconst (v := (0 : Int32)) d_Mo_statement_293 (by decide) ?_
      exact aw_ireturn .boolean rfl rfl d_Mo_statement_294 w
    · replace w := w.2 cc2
      refine aw_aload_n (x := a0) d_Mo_statement_280 rfl ?_
      refine aw_bipush (v := (59 : Int32)) d_Mo_statement_281 (by decide) ?_
      obtain ⟨hk3, w⟩ := w
      exact aw_room (cb' := 0 + cb) (sb' := 0 + sb) (by omega) (by omega) (aw_weak (lv' := [none, none, none, none, none]) trivial (aw_callV (M' := m_Mo_meets) (lv0 := [some (.ref a0), some (.int (59 : Int32))]) (As := [.int (59 : Int32)]) (rest := []) 8 1021 1023 1024 rfl (by decide) rfl hk3 tb_1021 tb_1023 tb_1024 (fun U hU => hU.p 43 rfl) rfl rfl 1 0 rfl rfl ⟨by decide, by decide, by decide +kernel, by decide +kernel, by decide, by decide⟩ (Nat.le_of_ble_eq_true rfl) ⟨rfl, rfl, trivial⟩ rfl d_Mo_statement_283 w))
  · replace w := w.2 cc1
    refine aw_aload_n (x := a0) d_Mo_statement_155 rfl ?_
    obtain ⟨hk4, w⟩ := w
    exact aw_room (cb' := 0 + cb) (sb' := 0 + sb) (by omega) (by omega) (aw_weak (lv' := [some (.ref a0), none, none, none, some (.int x4)]) ⟨rfl, rfl, trivial⟩ (aw_callV (M' := m_Mo_sign) (lv0 := [some (.ref a0)]) (As := []) (rest := []) 8 977 979 980 rfl (by decide) rfl hk4 tb_977 tb_979 tb_980 (fun U hU => hU.p 33 rfl) rfl rfl 0 0 rfl rfl ⟨by decide, by decide, by decide +kernel, by decide +kernel, by decide, by decide⟩ (Nat.le_of_ble_eq_true rfl) ⟨rfl, trivial⟩ rfl d_Mo_statement_156 w))
set_option maxRecDepth 20000 in
theorem r_Mo_statement_159 {E : zE} {K n : Nat → Nat} {I : Nat → Nat → Int32} {F : Nat → Nat → Option Nat} {J : Nat → Nat → Int64} {cb sb : Nat} {Q : zO → zH → Prop} {a0 : Nat} {x4 : Int32} {sx0 : Int32}
    (w : ((sx0 = (59 : Int32) → ((x4 = 0 → Q (.inl (some (.int (0 : Int32)))) (K, n, I, F, J)) ∧ (¬ x4 = 0 → K a0 = 9 ∧ AW E m_Mo_meets (K, n, I, F, J) 0 0 (zAft E m_Mo_statement cb sb Q 283 [none, none, none, none, none] []) 0 [some (.ref a0), some (.int (59 : Int32))] []))) ∧ (¬ sx0 = (59 : Int32) → K a0 = 9 ∧ AW E m_Mo_key (K, n, I, F, J) 0 0 (zAft E m_Mo_statement cb sb Q 165 [some (.ref a0), none, none, none, none] []) 0 [some (.ref a0), none, none, none] []))) :
    AW E m_Mo_statement (K, n, I, F, J) cb sb Q 159 [some (.ref a0), none, none, none, some (.int x4)] [.int sx0] := by
  refine aw_bipush (v := (59 : Int32)) d_Mo_statement_159 (by decide) ?_
  refine aw_icmp_eq (tgt := 275) d_Mo_statement_161 (by decide) (fun cc1 => ?_) (fun cc1 => ?_)
  · replace w := w.1 cc1
    refine aw_iload (x := x4) d_Mo_statement_275 rfl ?_
    refine aw_if_eq (tgt := 293) d_Mo_statement_277 (by decide) (fun cc2 => ?_) (fun cc2 => ?_)
    · replace w := w.1 cc2
      refine aw_iconst (v := (0 : Int32)) d_Mo_statement_293 (by decide) ?_
      exact aw_ireturn .boolean rfl rfl d_Mo_statement_294 w
    · replace w := w.2 cc2
      refine aw_aload_n (x := a0) d_Mo_statement_280 rfl ?_
      refine aw_bipush (v := (59 : Int32)) d_Mo_statement_281 (by decide) ?_
      obtain ⟨hk3, w⟩ := w
      exact aw_room (cb' := 0 + cb) (sb' := 0 + sb) (by omega) (by omega) (aw_weak (lv' := [none, none, none, none, none]) trivial (aw_callV (M' := m_Mo_meets) (lv0 := [some (.ref a0), some (.int (59 : Int32))]) (As := [.int (59 : Int32)]) (rest := []) 8 1021 1023 1024 rfl (by decide) rfl hk3 tb_1021 tb_1023 tb_1024 (fun U hU => hU.p 43 rfl) rfl rfl 1 0 rfl rfl ⟨by decide, by decide, by decide +kernel, by decide +kernel, by decide, by decide⟩ (Nat.le_of_ble_eq_true rfl) ⟨rfl, rfl, trivial⟩ rfl d_Mo_statement_283 w))
  · replace w := w.2 cc1
    refine aw_aload_n (x := a0) d_Mo_statement_164 rfl ?_
    obtain ⟨hk4, w⟩ := w
    exact aw_room (cb' := 0 + cb) (sb' := 0 + sb) (by omega) (by omega) (aw_weak (lv' := [some (.ref a0), none, none, none, none]) ⟨rfl, trivial⟩ (aw_callV (M' := m_Mo_key) (lv0 := [some (.ref a0), none, none, none]) (As := []) (rest := []) 8 1005 1007 1008 rfl (by decide) rfl hk4 tb_1005 tb_1007 tb_1008 (fun U hU => hU.p 39 rfl) rfl rfl 0 0 rfl rfl ⟨by decide, by decide, by decide +kernel, by decide +kernel, by decide, by decide⟩ (Nat.le_of_ble_eq_true rfl) ⟨rfl, trivial⟩ rfl d_Mo_statement_165 w))
set_option maxRecDepth 20000 in
theorem r_Mo_statement_168 {E : zE} {K n : Nat → Nat} {I : Nat → Nat → Int32} {F : Nat → Nat → Option Nat} {J : Nat → Nat → Int64} {cb sb : Nat} {Q : zO → zH → Prop} {a0 : Nat} {sx0 : Int32}
    (w : AW E m_Mo_statement (K, n, I, F, J) cb sb Q 150 [some (.ref a0), none, none, none, some (.int sx0)] []) :
    AW E m_Mo_statement (K, n, I, F, J) cb sb Q 168 [some (.ref a0), none, none, none, none] [.int sx0] := by
  refine aw_istore d_Mo_statement_168 (by decide) ?_
  refine aw_goto (tgt := 150) d_Mo_statement_170 (by decide) ?_
  exact aw_weak (lv' := [some (.ref a0), none, none, none, some (.int sx0)]) ⟨rfl, rfl, trivial⟩ w
set_option maxRecDepth 20000 in
theorem r_Mo_statement_177 {E : zE} {K n : Nat → Nat} {I : Nat → Nat → Int32} {F : Nat → Nat → Option Nat} {J : Nat → Nat → Int64} {cb sb : Nat} {Q : zO → zH → Prop} {a0 : Nat} {sx0 : Int32}
    (w : ((sx0 = 0 → Q (.inl (some (.int (0 : Int32)))) (K, n, I, F, J)) ∧ (¬ sx0 = 0 → K a0 = 9 ∧ AW E m_Mo_meets (K, n, I, F, J) 0 0 (zAft E m_Mo_statement cb sb Q 283 [none, none, none, none, none] []) 0 [some (.ref a0), some (.int (59 : Int32))] []))) :
    AW E m_Mo_statement (K, n, I, F, J) cb sb Q 177 [some (.ref a0), none, none, none, none] [.int sx0] := by
  refine aw_istore d_Mo_statement_177 (by decide) ?_
  refine aw_goto (tgt := 275) d_Mo_statement_179 (by decide) ?_
  refine aw_iload (x := sx0) d_Mo_statement_275 rfl ?_
  refine aw_if_eq (tgt := 293) d_Mo_statement_277 (by decide) (fun cc1 => ?_) (fun cc1 => ?_)
  · replace w := w.1 cc1
    refine aw_iconst (v := (0 : Int32)) d_Mo_statement_293 (by decide) ?_
    exact aw_ireturn .boolean rfl rfl d_Mo_statement_294 w
  · replace w := w.2 cc1
    refine aw_aload_n (x := a0) d_Mo_statement_280 rfl ?_
    refine aw_bipush (v := (59 : Int32)) d_Mo_statement_281 (by decide) ?_
    obtain ⟨hk2, w⟩ := w
    exact aw_room (cb' := 0 + cb) (sb' := 0 + sb) (by omega) (by omega) (aw_weak (lv' := [none, none, none, none, none]) trivial (aw_callV (M' := m_Mo_meets) (lv0 := [some (.ref a0), some (.int (59 : Int32))]) (As := [.int (59 : Int32)]) (rest := []) 8 1021 1023 1024 rfl (by decide) rfl hk2 tb_1021 tb_1023 tb_1024 (fun U hU => hU.p 43 rfl) rfl rfl 1 0 rfl rfl ⟨by decide, by decide, by decide +kernel, by decide +kernel, by decide, by decide⟩ (Nat.le_of_ble_eq_true rfl) ⟨rfl, rfl, trivial⟩ rfl d_Mo_statement_283 w))
set_option maxRecDepth 20000 in
theorem r_Mo_statement_186 {E : zE} {K n : Nat → Nat} {I : Nat → Nat → Int32} {F : Nat → Nat → Option Nat} {J : Nat → Nat → Int64} {cb sb : Nat} {Q : zO → zH → Prop} {a0 : Nat} {sx0 : Int32}
    (w : AW E m_Mo_statement (K, n, I, F, J) cb sb Q 188 [some (.ref a0), none, none, none, some (.int sx0)] []) :
    AW E m_Mo_statement (K, n, I, F, J) cb sb Q 186 [some (.ref a0), none, none, none, none] [.int sx0] := by
  refine aw_istore d_Mo_statement_186 (by decide) ?_
  exact aw_weak (lv' := [some (.ref a0), none, none, none, some (.int sx0)]) ⟨rfl, rfl, trivial⟩ w
set_option maxRecDepth 20000 in
theorem r_Mo_statement_188 {E : zE} {K n : Nat → Nat} {I : Nat → Nat → Int32} {F : Nat → Nat → Option Nat} {J : Nat → Nat → Int64} {cb sb : Nat} {Q : zO → zH → Prop} {a0 : Nat} {x4 : Int32}
    (w : ((x4 = 0 → ((x4 = 0 → Q (.inl (some (.int (0 : Int32)))) (K, n, I, F, J)) ∧ (¬ x4 = 0 → K a0 = 9 ∧ AW E m_Mo_meets (K, n, I, F, J) 0 0 (zAft E m_Mo_statement cb sb Q 283 [none, none, none, none, none] []) 0 [some (.ref a0), some (.int (59 : Int32))] []))) ∧ (¬ x4 = 0 → K a0 = 9 ∧ AW E m_Mo_sign (K, n, I, F, J) 0 0 (zAft E m_Mo_statement cb sb Q 194 [some (.ref a0), none, none, none, some (.int x4)] []) 0 [some (.ref a0)] []))) :
    AW E m_Mo_statement (K, n, I, F, J) cb sb Q 188 [some (.ref a0), none, none, none, some (.int x4)] [] := by
  refine aw_iload (x := x4) d_Mo_statement_188 rfl ?_
  refine aw_if_eq (tgt := 275) d_Mo_statement_190 (by decide) (fun cc1 => ?_) (fun cc1 => ?_)
  · replace w := w.1 cc1
    refine aw_iload (x := x4) d_Mo_statement_275 rfl ?_
    refine aw_if_eq (tgt := 293) d_Mo_statement_277 (by decide) (fun cc2 => ?_) (fun cc2 => ?_)
    · replace w := w.1 cc2
      refine aw_iconst (v := (0 : Int32)) d_Mo_statement_293 (by decide) ?_
      exact aw_ireturn .boolean rfl rfl d_Mo_statement_294 w
    · replace w := w.2 cc2
      refine aw_aload_n (x := a0) d_Mo_statement_280 rfl ?_
      refine aw_bipush (v := (59 : Int32)) d_Mo_statement_281 (by decide) ?_
      obtain ⟨hk3, w⟩ := w
      exact aw_room (cb' := 0 + cb) (sb' := 0 + sb) (by omega) (by omega) (aw_weak (lv' := [none, none, none, none, none]) trivial (aw_callV (M' := m_Mo_meets) (lv0 := [some (.ref a0), some (.int (59 : Int32))]) (As := [.int (59 : Int32)]) (rest := []) 8 1021 1023 1024 rfl (by decide) rfl hk3 tb_1021 tb_1023 tb_1024 (fun U hU => hU.p 43 rfl) rfl rfl 1 0 rfl rfl ⟨by decide, by decide, by decide +kernel, by decide +kernel, by decide, by decide⟩ (Nat.le_of_ble_eq_true rfl) ⟨rfl, rfl, trivial⟩ rfl d_Mo_statement_283 w))
  · replace w := w.2 cc1
    refine aw_aload_n (x := a0) d_Mo_statement_193 rfl ?_
    obtain ⟨hk4, w⟩ := w
    exact aw_room (cb' := 0 + cb) (sb' := 0 + sb) (by omega) (by omega) (aw_weak (lv' := [some (.ref a0), none, none, none, some (.int x4)]) ⟨rfl, rfl, trivial⟩ (aw_callV (M' := m_Mo_sign) (lv0 := [some (.ref a0)]) (As := []) (rest := []) 8 977 979 980 rfl (by decide) rfl hk4 tb_977 tb_979 tb_980 (fun U hU => hU.p 33 rfl) rfl rfl 0 0 rfl rfl ⟨by decide, by decide, by decide +kernel, by decide +kernel, by decide, by decide⟩ (Nat.le_of_ble_eq_true rfl) ⟨rfl, trivial⟩ rfl d_Mo_statement_194 w))
set_option maxRecDepth 20000 in
theorem r_Mo_statement_197 {E : zE} {K n : Nat → Nat} {I : Nat → Nat → Int32} {F : Nat → Nat → Option Nat} {J : Nat → Nat → Int64} {cb sb : Nat} {Q : zO → zH → Prop} {a0 : Nat} {x4 : Int32} {sx0 : Int32}
    (w : ((sx0 = (59 : Int32) → ((x4 = 0 → Q (.inl (some (.int (0 : Int32)))) (K, n, I, F, J)) ∧ (¬ x4 = 0 → K a0 = 9 ∧ AW E m_Mo_meets (K, n, I, F, J) 0 0 (zAft E m_Mo_statement cb sb Q 283 [none, none, none, none, none] []) 0 [some (.ref a0), some (.int (59 : Int32))] []))) ∧ (¬ sx0 = (59 : Int32) → K a0 = 9 ∧ AW E m_Mo_sumField (K, n, I, F, J) 0 0 (zAft E m_Mo_statement cb sb Q 203 [some (.ref a0), none, none, none, none] []) 0 [some (.ref a0)] []))) :
    AW E m_Mo_statement (K, n, I, F, J) cb sb Q 197 [some (.ref a0), none, none, none, some (.int x4)] [.int sx0] := by
  refine aw_bipush (v := (59 : Int32)) d_Mo_statement_197 (by decide) ?_
  refine aw_icmp_eq (tgt := 275) d_Mo_statement_199 (by decide) (fun cc1 => ?_) (fun cc1 => ?_)
  · replace w := w.1 cc1
    refine aw_iload (x := x4) d_Mo_statement_275 rfl ?_
    refine aw_if_eq (tgt := 293) d_Mo_statement_277 (by decide) (fun cc2 => ?_) (fun cc2 => ?_)
    · replace w := w.1 cc2
      refine aw_iconst (v := (0 : Int32)) d_Mo_statement_293 (by decide) ?_
      exact aw_ireturn .boolean rfl rfl d_Mo_statement_294 w
    · replace w := w.2 cc2
      refine aw_aload_n (x := a0) d_Mo_statement_280 rfl ?_
      refine aw_bipush (v := (59 : Int32)) d_Mo_statement_281 (by decide) ?_
      obtain ⟨hk3, w⟩ := w
      exact aw_room (cb' := 0 + cb) (sb' := 0 + sb) (by omega) (by omega) (aw_weak (lv' := [none, none, none, none, none]) trivial (aw_callV (M' := m_Mo_meets) (lv0 := [some (.ref a0), some (.int (59 : Int32))]) (As := [.int (59 : Int32)]) (rest := []) 8 1021 1023 1024 rfl (by decide) rfl hk3 tb_1021 tb_1023 tb_1024 (fun U hU => hU.p 43 rfl) rfl rfl 1 0 rfl rfl ⟨by decide, by decide, by decide +kernel, by decide +kernel, by decide, by decide⟩ (Nat.le_of_ble_eq_true rfl) ⟨rfl, rfl, trivial⟩ rfl d_Mo_statement_283 w))
  · replace w := w.2 cc1
    refine aw_aload_n (x := a0) d_Mo_statement_202 rfl ?_
    obtain ⟨hk4, w⟩ := w
    exact aw_room (cb' := 0 + cb) (sb' := 0 + sb) (by omega) (by omega) (aw_weak (lv' := [some (.ref a0), none, none, none, none]) ⟨rfl, trivial⟩ (aw_callV (M' := m_Mo_sumField) (lv0 := [some (.ref a0)]) (As := []) (rest := []) 8 1037 1039 1040 rfl (by decide) rfl hk4 tb_1037 tb_1039 tb_1040 (fun U hU => hU.p 47 rfl) rfl rfl 0 0 rfl rfl ⟨by decide, by decide, by decide +kernel, by decide +kernel, by decide, by decide⟩ (Nat.le_of_ble_eq_true rfl) ⟨rfl, trivial⟩ rfl d_Mo_statement_203 w))
set_option maxRecDepth 20000 in
theorem r_Mo_statement_206 {E : zE} {K n : Nat → Nat} {I : Nat → Nat → Int32} {F : Nat → Nat → Option Nat} {J : Nat → Nat → Int64} {cb sb : Nat} {Q : zO → zH → Prop} {a0 : Nat} {sx0 : Int32}
    (w : AW E m_Mo_statement (K, n, I, F, J) cb sb Q 188 [some (.ref a0), none, none, none, some (.int sx0)] []) :
    AW E m_Mo_statement (K, n, I, F, J) cb sb Q 206 [some (.ref a0), none, none, none, none] [.int sx0] := by
  refine aw_istore d_Mo_statement_206 (by decide) ?_
  refine aw_goto (tgt := 188) d_Mo_statement_208 (by decide) ?_
  exact aw_weak (lv' := [some (.ref a0), none, none, none, some (.int sx0)]) ⟨rfl, rfl, trivial⟩ w
set_option maxRecDepth 20000 in
theorem r_Mo_statement_215 {E : zE} {K n : Nat → Nat} {I : Nat → Nat → Int32} {F : Nat → Nat → Option Nat} {J : Nat → Nat → Int64} {cb sb : Nat} {Q : zO → zH → Prop} {a0 : Nat} {sx0 : Int32}
    (w : AW E m_Mo_statement (K, n, I, F, J) cb sb Q 217 [some (.ref a0), none, none, none, some (.int sx0)] []) :
    AW E m_Mo_statement (K, n, I, F, J) cb sb Q 215 [some (.ref a0), none, none, none, none] [.int sx0] := by
  refine aw_istore d_Mo_statement_215 (by decide) ?_
  exact aw_weak (lv' := [some (.ref a0), none, none, none, some (.int sx0)]) ⟨rfl, rfl, trivial⟩ w
set_option maxRecDepth 20000 in
theorem r_Mo_statement_217 {E : zE} {K n : Nat → Nat} {I : Nat → Nat → Int32} {F : Nat → Nat → Option Nat} {J : Nat → Nat → Int64} {cb sb : Nat} {Q : zO → zH → Prop} {a0 : Nat} {x4 : Int32}
    (w : ((x4 = 0 → ((x4 = 0 → Q (.inl (some (.int (0 : Int32)))) (K, n, I, F, J)) ∧ (¬ x4 = 0 → K a0 = 9 ∧ AW E m_Mo_meets (K, n, I, F, J) 0 0 (zAft E m_Mo_statement cb sb Q 283 [none, none, none, none, none] []) 0 [some (.ref a0), some (.int (59 : Int32))] []))) ∧ (¬ x4 = 0 → K a0 = 9 ∧ AW E m_Mo_sign (K, n, I, F, J) 0 0 (zAft E m_Mo_statement cb sb Q 223 [some (.ref a0), none, none, none, some (.int x4)] []) 0 [some (.ref a0)] []))) :
    AW E m_Mo_statement (K, n, I, F, J) cb sb Q 217 [some (.ref a0), none, none, none, some (.int x4)] [] := by
  refine aw_iload (x := x4) d_Mo_statement_217 rfl ?_
  refine aw_if_eq (tgt := 275) d_Mo_statement_219 (by decide) (fun cc1 => ?_) (fun cc1 => ?_)
  · replace w := w.1 cc1
    refine aw_iload (x := x4) d_Mo_statement_275 rfl ?_
    refine aw_if_eq (tgt := 293) d_Mo_statement_277 (by decide) (fun cc2 => ?_) (fun cc2 => ?_)
    · replace w := w.1 cc2
      refine aw_iconst (v := (0 : Int32)) d_Mo_statement_293 (by decide) ?_
      exact aw_ireturn .boolean rfl rfl d_Mo_statement_294 w
    · replace w := w.2 cc2
      refine aw_aload_n (x := a0) d_Mo_statement_280 rfl ?_
      refine aw_bipush (v := (59 : Int32)) d_Mo_statement_281 (by decide) ?_
      obtain ⟨hk3, w⟩ := w
      exact aw_room (cb' := 0 + cb) (sb' := 0 + sb) (by omega) (by omega) (aw_weak (lv' := [none, none, none, none, none]) trivial (aw_callV (M' := m_Mo_meets) (lv0 := [some (.ref a0), some (.int (59 : Int32))]) (As := [.int (59 : Int32)]) (rest := []) 8 1021 1023 1024 rfl (by decide) rfl hk3 tb_1021 tb_1023 tb_1024 (fun U hU => hU.p 43 rfl) rfl rfl 1 0 rfl rfl ⟨by decide, by decide, by decide +kernel, by decide +kernel, by decide, by decide⟩ (Nat.le_of_ble_eq_true rfl) ⟨rfl, rfl, trivial⟩ rfl d_Mo_statement_283 w))
  · replace w := w.2 cc1
    refine aw_aload_n (x := a0) d_Mo_statement_222 rfl ?_
    obtain ⟨hk4, w⟩ := w
    exact aw_room (cb' := 0 + cb) (sb' := 0 + sb) (by omega) (by omega) (aw_weak (lv' := [some (.ref a0), none, none, none, some (.int x4)]) ⟨rfl, rfl, trivial⟩ (aw_callV (M' := m_Mo_sign) (lv0 := [some (.ref a0)]) (As := []) (rest := []) 8 977 979 980 rfl (by decide) rfl hk4 tb_977 tb_979 tb_980 (fun U hU => hU.p 33 rfl) rfl rfl 0 0 rfl rfl ⟨by decide, by decide, by decide +kernel, by decide +kernel, by decide, by decide⟩ (Nat.le_of_ble_eq_true rfl) ⟨rfl, trivial⟩ rfl d_Mo_statement_223 w))
set_option maxRecDepth 20000 in
theorem r_Mo_statement_226 {E : zE} {K n : Nat → Nat} {I : Nat → Nat → Int32} {F : Nat → Nat → Option Nat} {J : Nat → Nat → Int64} {cb sb : Nat} {Q : zO → zH → Prop} {a0 : Nat} {x4 : Int32} {sx0 : Int32}
    (w : ((sx0 = (59 : Int32) → ((x4 = 0 → Q (.inl (some (.int (0 : Int32)))) (K, n, I, F, J)) ∧ (¬ x4 = 0 → K a0 = 9 ∧ AW E m_Mo_meets (K, n, I, F, J) 0 0 (zAft E m_Mo_statement cb sb Q 283 [none, none, none, none, none] []) 0 [some (.ref a0), some (.int (59 : Int32))] []))) ∧ (¬ sx0 = (59 : Int32) → K a0 = 9 ∧ AW E m_Mo_piece (K, n, I, F, J) 0 0 (zAft E m_Mo_statement cb sb Q 232 [some (.ref a0), none, none, none, none] []) 0 [some (.ref a0), none, none] []))) :
    AW E m_Mo_statement (K, n, I, F, J) cb sb Q 226 [some (.ref a0), none, none, none, some (.int x4)] [.int sx0] := by
  refine aw_bipush (v := (59 : Int32)) d_Mo_statement_226 (by decide) ?_
  refine aw_icmp_eq (tgt := 275) d_Mo_statement_228 (by decide) (fun cc1 => ?_) (fun cc1 => ?_)
  · replace w := w.1 cc1
    refine aw_iload (x := x4) d_Mo_statement_275 rfl ?_
    refine aw_if_eq (tgt := 293) d_Mo_statement_277 (by decide) (fun cc2 => ?_) (fun cc2 => ?_)
    · replace w := w.1 cc2
      refine aw_iconst (v := (0 : Int32)) d_Mo_statement_293 (by decide) ?_
      exact aw_ireturn .boolean rfl rfl d_Mo_statement_294 w
    · replace w := w.2 cc2
      refine aw_aload_n (x := a0) d_Mo_statement_280 rfl ?_
      refine aw_bipush (v := (59 : Int32)) d_Mo_statement_281 (by decide) ?_
      obtain ⟨hk3, w⟩ := w
      exact aw_room (cb' := 0 + cb) (sb' := 0 + sb) (by omega) (by omega) (aw_weak (lv' := [none, none, none, none, none]) trivial (aw_callV (M' := m_Mo_meets) (lv0 := [some (.ref a0), some (.int (59 : Int32))]) (As := [.int (59 : Int32)]) (rest := []) 8 1021 1023 1024 rfl (by decide) rfl hk3 tb_1021 tb_1023 tb_1024 (fun U hU => hU.p 43 rfl) rfl rfl 1 0 rfl rfl ⟨by decide, by decide, by decide +kernel, by decide +kernel, by decide, by decide⟩ (Nat.le_of_ble_eq_true rfl) ⟨rfl, rfl, trivial⟩ rfl d_Mo_statement_283 w))
  · replace w := w.2 cc1
    refine aw_aload_n (x := a0) d_Mo_statement_231 rfl ?_
    obtain ⟨hk4, w⟩ := w
    exact aw_room (cb' := 0 + cb) (sb' := 0 + sb) (by omega) (by omega) (aw_weak (lv' := [some (.ref a0), none, none, none, none]) ⟨rfl, trivial⟩ (aw_callV (M' := m_Mo_piece) (lv0 := [some (.ref a0), none, none]) (As := []) (rest := []) 8 1041 1043 1044 rfl (by decide) rfl hk4 tb_1041 tb_1043 tb_1044 (fun U hU => hU.p 48 rfl) rfl rfl 0 0 rfl rfl ⟨by decide, by decide, by decide +kernel, by decide +kernel, by decide, by decide⟩ (Nat.le_of_ble_eq_true rfl) ⟨rfl, trivial⟩ rfl d_Mo_statement_232 w))
set_option maxRecDepth 20000 in
theorem r_Mo_statement_235 {E : zE} {K n : Nat → Nat} {I : Nat → Nat → Int32} {F : Nat → Nat → Option Nat} {J : Nat → Nat → Int64} {cb sb : Nat} {Q : zO → zH → Prop} {a0 : Nat} {sx0 : Int32}
    (w : AW E m_Mo_statement (K, n, I, F, J) cb sb Q 217 [some (.ref a0), none, none, none, some (.int sx0)] []) :
    AW E m_Mo_statement (K, n, I, F, J) cb sb Q 235 [some (.ref a0), none, none, none, none] [.int sx0] := by
  refine aw_istore d_Mo_statement_235 (by decide) ?_
  refine aw_goto (tgt := 217) d_Mo_statement_237 (by decide) ?_
  exact aw_weak (lv' := [some (.ref a0), none, none, none, some (.int sx0)]) ⟨rfl, rfl, trivial⟩ w
set_option maxRecDepth 20000 in
theorem r_Mo_statement_255 {E : zE} {K n : Nat → Nat} {I : Nat → Nat → Int32} {F : Nat → Nat → Option Nat} {J : Nat → Nat → Int64} {cb sb : Nat} {Q : zO → zH → Prop} {a0 : Nat} {x2 : Int32} {sa0 : Nat} {sx1 : Int32} {sx2 : Int32}
    (w : K sa0 = 21 ∧ (∃ j2 : Nat, sx1 = nI j2 ∧ j2 < n sa0 ∧ j2 < 2147483648 ∧ K a0 = 9 ∧ (∃ b4 : Nat, F a0 6 = some b4 ∧ K b4 = 21 ∧ (∃ j6 : Nat, (x2 - (5 : Int32)) = nI j6 ∧ j6 < n b4 ∧ j6 < 2147483648 ∧ ((((zup I sa0 j2 sx2) b4 j6) = ((-1) : Int32) → Q (.inl (some (.int (0 : Int32)))) (K, n, (zup I sa0 j2 sx2), F, J)) ∧ (¬ ((zup I sa0 j2 sx2) b4 j6) = ((-1) : Int32) → AW E m_Mo_meets (K, n, (zup I sa0 j2 sx2), F, J) 0 0 (zAft E m_Mo_statement cb sb Q 283 [none, none, none, none, none] []) 0 [some (.ref a0), some (.int (59 : Int32))] [])))))) :
    AW E m_Mo_statement (K, n, I, F, J) cb sb Q 255 [some (.ref a0), none, some (.int x2), none, none] [.int sx2, .int sx1, .ref sa0] := by
  obtain ⟨hk1, w⟩ := w
  obtain ⟨j2, hj2a, hj2b, hj2c, w⟩ := w
  refine aw_iastore j2 hk1 hj2a hj2b hj2c d_Mo_statement_255 ?_
  refine aw_aload_n (x := a0) d_Mo_statement_256 rfl ?_
  obtain ⟨hk3, w⟩ := w
  obtain ⟨b4, hb4, w⟩ := w
  refine gs_Mo_19 rfl hk3 hb4 d_Mo_statement_257 ?_
  refine aw_iload_n (x := x2) d_Mo_statement_260 rfl ?_
  refine aw_iconst (v := (5 : Int32)) d_Mo_statement_261 (by decide) ?_
  refine aw_isub d_Mo_statement_262 ?_
  obtain ⟨hk5, w⟩ := w
  obtain ⟨j6, hj6a, hj6b, hj6c, w⟩ := w
  refine aw_iaload j6 hk5 hj6a hj6b hj6c d_Mo_statement_263 ?_
  refine aw_iconst (v := ((-1) : Int32)) d_Mo_statement_264 (by decide) ?_
  refine aw_icmp_eq (tgt := 272) d_Mo_statement_265 (by decide) (fun cc7 => ?_) (fun cc7 => ?_)
  · replace w := w.1 cc7
    refine aw_iconst (v := (0 : Int32)) d_Mo_statement_272 (by decide) ?_
    refine aw_istore d_Mo_statement_273 (by decide) ?_
    refine aw_iload (x := (0 : Int32)) d_Mo_statement_275 rfl ?_
    refine aw_if_eq (tgt := 293) d_Mo_statement_277 (by decide) (fun _ => ?_) (fun q => absurd (by decide) q)
    refine aw_iconst (v := (0 : Int32)) d_Mo_statement_293 (by decide) ?_
    exact aw_ireturn .boolean rfl rfl d_Mo_statement_294 w
  · replace w := w.2 cc7
    refine aw_iconst (v := (1 : Int32)) d_Mo_statement_268 (by decide) ?_
    refine aw_goto (tgt := 273) d_Mo_statement_269 (by decide) ?_
    refine aw_istore d_Mo_statement_273 (by decide) ?_
    refine aw_iload (x := (1 : Int32)) d_Mo_statement_275 rfl ?_
    refine aw_if_eq (tgt := 293) d_Mo_statement_277 (by decide) (fun q => absurd q (by decide)) (fun _ => ?_)
    refine aw_aload_n (x := a0) d_Mo_statement_280 rfl ?_
    refine aw_bipush (v := (59 : Int32)) d_Mo_statement_281 (by decide) ?_
    exact aw_room (cb' := 0 + cb) (sb' := 0 + sb) (by omega) (by omega) (aw_weak (lv' := [none, none, none, none, none]) trivial (aw_callV (M' := m_Mo_meets) (lv0 := [some (.ref a0), some (.int (59 : Int32))]) (As := [.int (59 : Int32)]) (rest := []) 8 1021 1023 1024 rfl (by decide) rfl hk3 tb_1021 tb_1023 tb_1024 (fun U hU => hU.p 43 rfl) rfl rfl 1 0 rfl rfl ⟨by decide, by decide, by decide +kernel, by decide +kernel, by decide, by decide⟩ (Nat.le_of_ble_eq_true rfl) ⟨rfl, rfl, trivial⟩ rfl d_Mo_statement_283 w))
set_option maxRecDepth 20000 in
theorem r_Mo_statement_286 {E : zE} {K n : Nat → Nat} {I : Nat → Nat → Int32} {F : Nat → Nat → Option Nat} {J : Nat → Nat → Int64} {cb sb : Nat} {Q : zO → zH → Prop} {sx0 : Int32}
    (w : ((sx0 = 0 → Q (.inl (some (.int (0 : Int32)))) (K, n, I, F, J)) ∧ (¬ sx0 = 0 → Q (.inl (some (.int (1 : Int32)))) (K, n, I, F, J)))) :
    AW E m_Mo_statement (K, n, I, F, J) cb sb Q 286 [none, none, none, none, none] [.int sx0] := by
  refine aw_if_eq (tgt := 293) d_Mo_statement_286 (by decide) (fun cc1 => ?_) (fun cc1 => ?_)
  · replace w := w.1 cc1
    refine aw_iconst (v := (0 : Int32)) d_Mo_statement_293 (by decide) ?_
    exact aw_ireturn .boolean rfl rfl d_Mo_statement_294 w
  · replace w := w.2 cc1
    refine aw_iconst (v := (1 : Int32)) d_Mo_statement_289 (by decide) ?_
    refine aw_goto (tgt := 294) d_Mo_statement_290 (by decide) ?_
    exact aw_ireturn .boolean rfl rfl d_Mo_statement_294 w
set_option maxRecDepth 20000 in
theorem r_Mo_sumField_0 {E : zE} {K n : Nat → Nat} {I : Nat → Nat → Int32} {F : Nat → Nat → Option Nat} {J : Nat → Nat → Int64} {cb sb : Nat} {Q : zO → zH → Prop} {a0 : Nat}
    (w : K a0 = 9 ∧ AW E m_Mo_sign (K, n, I, F, J) 0 0 (zAft E m_Mo_sumField cb sb Q 1 [some (.ref a0)] []) 0 [some (.ref a0)] []) :
    AW E m_Mo_sumField (K, n, I, F, J) cb sb Q 0 [some (.ref a0)] [] := by
  refine aw_aload_n (x := a0) d_Mo_sumField_0 rfl ?_
  obtain ⟨hk1, w⟩ := w
  exact aw_room (cb' := 0 + cb) (sb' := 0 + sb) (by omega) (by omega) (aw_weak (lv' := [some (.ref a0)]) ⟨rfl, trivial⟩ (aw_callV (M' := m_Mo_sign) (lv0 := [some (.ref a0)]) (As := []) (rest := []) 8 977 979 980 rfl (by decide) rfl hk1 tb_977 tb_979 tb_980 (fun U hU => hU.p 33 rfl) rfl rfl 0 0 rfl rfl ⟨by decide, by decide, by decide +kernel, by decide +kernel, by decide, by decide⟩ (Nat.le_of_ble_eq_true rfl) ⟨rfl, trivial⟩ rfl d_Mo_sumField_1 w))
set_option maxRecDepth 20000 in
theorem r_Mo_sumField_4 {E : zE} {K n : Nat → Nat} {I : Nat → Nat → Int32} {F : Nat → Nat → Option Nat} {J : Nat → Nat → Int64} {cb sb : Nat} {Q : zO → zH → Prop} {a0 : Nat} {sx0 : Int32}
    (w : K a0 = 9 ∧ (∃ b2 : Nat, F a0 5 = some b2 ∧ K b2 = 21 ∧ (∃ j4 : Nat, (3 : Int32) = nI j4 ∧ j4 < n b2 ∧ j4 < 2147483648 ∧ (((I b2 j4) = (4 : Int32) → Q (.inl (some (.int (0 : Int32)))) (K, n, I, F, J)) ∧ (¬ (I b2 j4) = (4 : Int32) → (∃ b6 : Nat, F a0 9 = some b6 ∧ AW E m_Mo_field (K, n, I, F, J) 0 0 (zAft E m_Mo_sumField cb sb Q 30 [some (.ref a0)] []) 0 [some (.ref a0), some (.ref b6), some (.int ((2 : Int32) * (I b2 j4))), some (.int (9 : Int32)), none, none] [])))))) :
    AW E m_Mo_sumField (K, n, I, F, J) cb sb Q 4 [some (.ref a0)] [.int sx0] := by
  refine aw_pop d_Mo_sumField_4 rfl ?_
  refine aw_aload_n (x := a0) d_Mo_sumField_5 rfl ?_
  obtain ⟨hk1, w⟩ := w
  obtain ⟨b2, hb2, w⟩ := w
  refine gs_Mo_16 rfl hk1 hb2 d_Mo_sumField_6 ?_
  refine aw_iconst (v := (3 : Int32)) d_Mo_sumField_9 (by decide) ?_
  obtain ⟨hk3, w⟩ := w
  obtain ⟨j4, hj4a, hj4b, hj4c, w⟩ := w
  refine aw_iaload j4 hk3 hj4a hj4b hj4c d_Mo_sumField_10 ?_
  refine aw_iconst (v := (4 : Int32)) d_Mo_sumField_11 (by decide) ?_
  refine aw_icmp_eq (tgt := 36) d_Mo_sumField_12 (by decide) (fun cc5 => ?_) (fun cc5 => ?_)
  · replace w := w.1 cc5
    refine aw_iconst (v := (0 : Int32)) d_Mo_sumField_36 (by decide) ?_
    exact aw_ireturn .boolean rfl rfl d_Mo_sumField_37 w
  · replace w := w.2 cc5
    refine aw_aload_n (x := a0) d_Mo_sumField_15 rfl ?_
    refine aw_aload_n (x := a0) d_Mo_sumField_16 rfl ?_
    obtain ⟨b6, hb6, w⟩ := w
    refine gs_Mo_28 rfl hk1 hb6 d_Mo_sumField_17 ?_
    refine aw_iconst (v := (2 : Int32)) d_Mo_sumField_20 (by decide) ?_
    refine aw_aload_n (x := a0) d_Mo_sumField_21 rfl ?_
    refine gs_Mo_16 rfl hk1 hb2 d_Mo_sumField_22 ?_
    refine aw_iconst (v := (3 : Int32)) d_Mo_sumField_25 (by decide) ?_
    refine aw_iaload j4 hk3 hj4a hj4b hj4c d_Mo_sumField_26 ?_
    refine aw_imul d_Mo_sumField_27 ?_
    refine aw_bipush (v := (9 : Int32)) d_Mo_sumField_28 (by decide) ?_
    exact aw_room (cb' := 0 + cb) (sb' := 0 + sb) (by omega) (by omega) (aw_weak (lv' := [some (.ref a0)]) ⟨rfl, trivial⟩ (aw_callV (M' := m_Mo_field) (lv0 := [some (.ref a0), some (.ref b6), some (.int ((2 : Int32) * (I b2 j4))), some (.int (9 : Int32)), none, none]) (As := [.ref b6, .int ((2 : Int32) * (I b2 j4)), .int (9 : Int32)]) (rest := []) 8 1009 1011 1012 rfl (by decide) rfl hk1 tb_1009 tb_1011 tb_1012 (fun U hU => hU.p 40 rfl) rfl rfl 3 0 rfl rfl ⟨by decide, by decide, by decide +kernel, by decide +kernel, by decide, by decide⟩ (Nat.le_of_ble_eq_true rfl) ⟨rfl, rfl, rfl, rfl, trivial⟩ rfl d_Mo_sumField_30 w))
set_option maxRecDepth 20000 in
theorem r_Mo_sumField_33 {E : zE} {K n : Nat → Nat} {I : Nat → Nat → Int32} {F : Nat → Nat → Option Nat} {J : Nat → Nat → Int64} {cb sb : Nat} {Q : zO → zH → Prop} {a0 : Nat} {sx0 : Int32}
    (w : ((¬ sx0 = 0 → K a0 = 9 ∧ (∃ b3 : Nat, F a0 5 = some b3 ∧ K b3 = 21 ∧ (∃ j5 : Nat, (3 : Int32) = nI j5 ∧ j5 < n b3 ∧ j5 < 2147483648 ∧ Q (.inl (some (.int (1 : Int32)))) (K, n, (zup I b3 j5 ((I b3 j5) + (1 : Int32))), F, J)))) ∧ (sx0 = 0 → Q (.inl (some (.int (0 : Int32)))) (K, n, I, F, J)))) :
    AW E m_Mo_sumField (K, n, I, F, J) cb sb Q 33 [some (.ref a0)] [.int sx0] := by
  refine aw_if_ne (tgt := 38) d_Mo_sumField_33 (by decide) (fun cc1 => ?_) (fun cc1 => ?_)
  · replace w := w.1 cc1
    refine aw_aload_n (x := a0) d_Mo_sumField_38 rfl ?_
    obtain ⟨hk2, w⟩ := w
    obtain ⟨b3, hb3, w⟩ := w
    refine gs_Mo_16 rfl hk2 hb3 d_Mo_sumField_39 ?_
    refine aw_iconst (v := (3 : Int32)) d_Mo_sumField_42 (by decide) ?_
    refine aw_dup2 d_Mo_sumField_43 rfl rfl ?_
    obtain ⟨hk4, w⟩ := w
    obtain ⟨j5, hj5a, hj5b, hj5c, w⟩ := w
    refine aw_iaload j5 hk4 hj5a hj5b hj5c d_Mo_sumField_44 ?_
    refine aw_iconst (v := (1 : Int32)) d_Mo_sumField_45 (by decide) ?_
    refine aw_iadd d_Mo_sumField_46 ?_
    refine aw_iastore j5 hk4 hj5a hj5b hj5c d_Mo_sumField_47 ?_
    refine aw_iconst (v := (1 : Int32)) d_Mo_sumField_48 (by decide) ?_
    exact aw_ireturn .boolean rfl rfl d_Mo_sumField_49 w
  · replace w := w.2 cc1
    refine aw_iconst (v := (0 : Int32)) d_Mo_sumField_36 (by decide) ?_
    exact aw_ireturn .boolean rfl rfl d_Mo_sumField_37 w
set_option maxRecDepth 20000 in
theorem r_Mo_read_0 {E : zE} {K n : Nat → Nat} {I : Nat → Nat → Int32} {F : Nat → Nat → Option Nat} {J : Nat → Nat → Int64} {cb sb : Nat} {Q : zO → zH → Prop} {a0 : Nat}
    (w : K a0 = 9 ∧ AW E m_Mo_keepOld (K, n, (zup (zup I a0 0 (0 : Int32)) a0 3 (0 : Int32)), F, J) 0 0 (zAft E m_Mo_read cb sb Q 11 [some (.ref a0), none, none] []) 0 [some (.ref a0)] []) :
    AW E m_Mo_read (K, n, I, F, J) cb sb Q 0 [some (.ref a0), none, none] [] := by
  refine aw_aload_n (x := a0) d_Mo_read_0 rfl ?_
  refine aw_iconst (v := (0 : Int32)) d_Mo_read_1 (by decide) ?_
  obtain ⟨hk1, w⟩ := w
  refine pf_Mo_114 rfl hk1 d_Mo_read_2 ?_
  refine aw_aload_n (x := a0) d_Mo_read_5 rfl ?_
  refine aw_iconst (v := (0 : Int32)) d_Mo_read_6 (by decide) ?_
  refine pf_Mo_121 rfl hk1 d_Mo_read_7 ?_
  refine aw_aload_n (x := a0) d_Mo_read_10 rfl ?_
  exact aw_room (cb' := 0 + cb) (sb' := 0 + sb) (by omega) (by omega) (aw_weak (lv' := [some (.ref a0), none, none]) ⟨rfl, trivial⟩ (aw_callV (M' := m_Mo_keepOld) (lv0 := [some (.ref a0)]) (As := []) (rest := []) 8 970 972 973 rfl (by decide) rfl hk1 tb_970 tb_972 tb_973 (fun U hU => hU.p 32 rfl) rfl rfl 0 0 rfl rfl ⟨by decide, by decide, by decide +kernel, by decide +kernel, by decide, by decide⟩ (Nat.le_of_ble_eq_true rfl) ⟨rfl, trivial⟩ rfl d_Mo_read_11 w))
set_option maxRecDepth 20000 in
theorem r_Mo_read_14 {E : zE} {K n : Nat → Nat} {I : Nat → Nat → Int32} {F : Nat → Nat → Option Nat} {J : Nat → Nat → Int64} {cb sb : Nat} {Q : zO → zH → Prop} {a0 : Nat}
    (w : AW E m_Mo_read (K, n, I, F, J) cb sb Q 16 [some (.ref a0), some (.int (0 : Int32)), none] []) :
    AW E m_Mo_read (K, n, I, F, J) cb sb Q 14 [some (.ref a0), none, none] [] := by
  refine aw_iconst (v := (0 : Int32)) d_Mo_read_14 (by decide) ?_
  refine aw_istore_n d_Mo_read_15 (by decide) ?_
  exact aw_weak (lv' := [some (.ref a0), some (.int (0 : Int32)), none]) ⟨rfl, rfl, trivial⟩ w
set_option maxRecDepth 20000 in
theorem r_Mo_read_16 {E : zE} {K n : Nat → Nat} {I : Nat → Nat → Int32} {F : Nat → Nat → Option Nat} {J : Nat → Nat → Int64} {cb sb : Nat} {Q : zO → zH → Prop} {a0 : Nat} {x1 : Int32}
    (w : (((7 : Int32) ≤ x1 → AW E m_Mo_read (K, n, I, F, J) cb sb Q 37 [some (.ref a0), some (.int (0 : Int32)), none] []) ∧ (¬ (7 : Int32) ≤ x1 → K a0 = 9 ∧ (∃ b3 : Nat, F a0 4 = some b3 ∧ K b3 = 21 ∧ (∃ j5 : Nat, x1 = nI j5 ∧ j5 < n b3 ∧ j5 < 2147483648 ∧ AW E m_Mo_read (K, n, (zup I b3 j5 (0 : Int32)), F, J) cb sb Q 16 [some (.ref a0), some (.int (x1 + (1 : Int32))), none] []))))) :
    AW E m_Mo_read (K, n, I, F, J) cb sb Q 16 [some (.ref a0), some (.int x1), none] [] := by
  refine aw_iload_n (x := x1) d_Mo_read_16 rfl ?_
  refine aw_bipush (v := (7 : Int32)) d_Mo_read_17 (by decide) ?_
  refine aw_icmp_ge (tgt := 35) d_Mo_read_19 (by decide) (fun cc1 => ?_) (fun cc1 => ?_)
  · replace w := w.1 cc1
    refine aw_iconst (v := (0 : Int32)) d_Mo_read_35 (by decide) ?_
    refine aw_istore_n d_Mo_read_36 (by decide) ?_
    exact aw_weak (lv' := [some (.ref a0), some (.int (0 : Int32)), none]) ⟨rfl, rfl, trivial⟩ w
  · replace w := w.2 cc1
    refine aw_aload_n (x := a0) d_Mo_read_22 rfl ?_
    obtain ⟨hk2, w⟩ := w
    obtain ⟨b3, hb3, w⟩ := w
    refine gs_Mo_13 rfl hk2 hb3 d_Mo_read_23 ?_
    refine aw_iload_n (x := x1) d_Mo_read_26 rfl ?_
    refine aw_iconst (v := (0 : Int32)) d_Mo_read_27 (by decide) ?_
    obtain ⟨hk4, w⟩ := w
    obtain ⟨j5, hj5a, hj5b, hj5c, w⟩ := w
    refine aw_iastore j5 hk4 hj5a hj5b hj5c d_Mo_read_28 ?_
    refine aw_iinc (v := (x1 + (1 : Int32))) d_Mo_read_29 rfl (by rfl) (by decide) ?_
    refine aw_goto (tgt := 16) d_Mo_read_32 (by decide) ?_
    exact aw_weak (lv' := [some (.ref a0), some (.int (x1 + (1 : Int32))), none]) ⟨rfl, rfl, trivial⟩ w
set_option maxRecDepth 20000 in
theorem r_Mo_read_37 {E : zE} {K n : Nat → Nat} {I : Nat → Nat → Int32} {F : Nat → Nat → Option Nat} {J : Nat → Nat → Int64} {cb sb : Nat} {Q : zO → zH → Prop} {a0 : Nat} {x1 : Int32}
    (w : (((5 : Int32) ≤ x1 → AW E m_Mo_read (K, n, I, F, J) cb sb Q 57 [some (.ref a0), some (.int (1 : Int32)), none] []) ∧ (¬ (5 : Int32) ≤ x1 → K a0 = 9 ∧ (∃ b3 : Nat, F a0 5 = some b3 ∧ K b3 = 21 ∧ (∃ j5 : Nat, x1 = nI j5 ∧ j5 < n b3 ∧ j5 < 2147483648 ∧ AW E m_Mo_read (K, n, (zup I b3 j5 (0 : Int32)), F, J) cb sb Q 37 [some (.ref a0), some (.int (x1 + (1 : Int32))), none] []))))) :
    AW E m_Mo_read (K, n, I, F, J) cb sb Q 37 [some (.ref a0), some (.int x1), none] [] := by
  refine aw_iload_n (x := x1) d_Mo_read_37 rfl ?_
  refine aw_iconst (v := (5 : Int32)) d_Mo_read_38 (by decide) ?_
  refine aw_icmp_ge (tgt := 55) d_Mo_read_39 (by decide) (fun cc1 => ?_) (fun cc1 => ?_)
  · replace w := w.1 cc1
    refine aw_iconst (v := (1 : Int32)) d_Mo_read_55 (by decide) ?_
    refine aw_istore_n d_Mo_read_56 (by decide) ?_
    exact aw_weak (lv' := [some (.ref a0), some (.int (1 : Int32)), none]) ⟨rfl, rfl, trivial⟩ w
  · replace w := w.2 cc1
    refine aw_aload_n (x := a0) d_Mo_read_42 rfl ?_
    obtain ⟨hk2, w⟩ := w
    obtain ⟨b3, hb3, w⟩ := w
    refine gs_Mo_16 rfl hk2 hb3 d_Mo_read_43 ?_
    refine aw_iload_n (x := x1) d_Mo_read_46 rfl ?_
    refine aw_iconst (v := (0 : Int32)) d_Mo_read_47 (by decide) ?_
    obtain ⟨hk4, w⟩ := w
    obtain ⟨j5, hj5a, hj5b, hj5c, w⟩ := w
    refine aw_iastore j5 hk4 hj5a hj5b hj5c d_Mo_read_48 ?_
    refine aw_iinc (v := (x1 + (1 : Int32))) d_Mo_read_49 rfl (by rfl) (by decide) ?_
    refine aw_goto (tgt := 37) d_Mo_read_52 (by decide) ?_
    exact aw_weak (lv' := [some (.ref a0), some (.int (x1 + (1 : Int32))), none]) ⟨rfl, rfl, trivial⟩ w
set_option maxRecDepth 20000 in
theorem r_Mo_read_57 {E : zE} {K n : Nat → Nat} {I : Nat → Nat → Int32} {F : Nat → Nat → Option Nat} {J : Nat → Nat → Int64} {cb sb : Nat} {Q : zO → zH → Prop} {a0 : Nat} {x1 : Int32}
    (w : ((x1 = 0 → K a0 = 9 ∧ ((x1 = 0 → AW E m_Mo_takeOld (K, n, (zup I a0 2 (0 : Int32)), F, J) 0 0 (zAft E m_Mo_read cb sb Q 99 [none, none, some (.int (I a0 3))] []) 0 [some (.ref a0)] []) ∧ (¬ x1 = 0 → (∃ b4 : Nat, F a0 5 = some b4 ∧ K b4 = 21 ∧ (∃ j6 : Nat, (0 : Int32) = nI j6 ∧ j6 < n b4 ∧ j6 < 2147483648 ∧ Q (.inl (some (.int ((zup I a0 2 (0 : Int32)) b4 j6)))) (K, n, (zup I a0 2 (0 : Int32)), F, J)))))) ∧ (¬ x1 = 0 → K a0 = 9 ∧ AW E m_Mo_sign (K, n, I, F, J) 0 0 (zAft E m_Mo_read cb sb Q 62 [some (.ref a0), some (.int x1), none] []) 0 [some (.ref a0)] []))) :
    AW E m_Mo_read (K, n, I, F, J) cb sb Q 57 [some (.ref a0), some (.int x1), none] [] := by
  refine aw_iload_n (x := x1) d_Mo_read_57 rfl ?_
  refine aw_if_eq (tgt := 77) d_Mo_read_58 (by decide) (fun cc1 => ?_) (fun cc1 => ?_)
  · replace w := w.1 cc1
    refine aw_aload_n (x := a0) d_Mo_read_77 rfl ?_
    obtain ⟨hk2, w⟩ := w
    refine gf_Mo_121 rfl hk2 d_Mo_read_78 ?_
    refine aw_istore_n d_Mo_read_81 (by decide) ?_
    refine aw_aload_n (x := a0) d_Mo_read_82 rfl ?_
    refine aw_iconst (v := (0 : Int32)) d_Mo_read_83 (by decide) ?_
    refine pf_Mo_118 rfl hk2 d_Mo_read_84 ?_
    refine aw_iload_n (x := x1) d_Mo_read_87 rfl ?_
    refine aw_if_eq (tgt := 98) d_Mo_read_88 (by decide) (fun cc3 => ?_) (fun cc3 => ?_)
    · replace w := w.1 cc3
      refine aw_aload_n (x := a0) d_Mo_read_98 rfl ?_
      exact aw_room (cb' := 0 + cb) (sb' := 0 + sb) (by omega) (by omega) (aw_weak (lv' := [none, none, some (.int (I a0 3))]) ⟨rfl, trivial⟩ (aw_callV (M' := m_Mo_takeOld) (lv0 := [some (.ref a0)]) (As := []) (rest := []) 8 1045 1047 1048 rfl (by decide) rfl hk2 tb_1045 tb_1047 tb_1048 (fun U hU => hU.p 49 rfl) rfl rfl 0 0 rfl rfl ⟨by decide, by decide, by decide +kernel, by decide +kernel, by decide, by decide⟩ (Nat.le_of_ble_eq_true rfl) ⟨rfl, trivial⟩ rfl d_Mo_read_99 w))
    · replace w := w.2 cc3
      refine aw_aload_n (x := a0) d_Mo_read_91 rfl ?_
      obtain ⟨b4, hb4, w⟩ := w
      refine gs_Mo_16 rfl hk2 hb4 d_Mo_read_92 ?_
      refine aw_iconst (v := (0 : Int32)) d_Mo_read_95 (by decide) ?_
      obtain ⟨hk5, w⟩ := w
      obtain ⟨j6, hj6a, hj6b, hj6c, w⟩ := w
      refine aw_iaload j6 hk5 hj6a hj6b hj6c d_Mo_read_96 ?_
      exact aw_ireturn .int rfl rfl d_Mo_read_97 w
  · replace w := w.2 cc1
    refine aw_aload_n (x := a0) d_Mo_read_61 rfl ?_
    obtain ⟨hk7, w⟩ := w
    exact aw_room (cb' := 0 + cb) (sb' := 0 + sb) (by omega) (by omega) (aw_weak (lv' := [some (.ref a0), some (.int x1), none]) ⟨rfl, rfl, trivial⟩ (aw_callV (M' := m_Mo_sign) (lv0 := [some (.ref a0)]) (As := []) (rest := []) 8 977 979 980 rfl (by decide) rfl hk7 tb_977 tb_979 tb_980 (fun U hU => hU.p 33 rfl) rfl rfl 0 0 rfl rfl ⟨by decide, by decide, by decide +kernel, by decide +kernel, by decide, by decide⟩ (Nat.le_of_ble_eq_true rfl) ⟨rfl, trivial⟩ rfl d_Mo_read_62 w))
set_option maxRecDepth 20000 in
theorem r_Mo_read_65 {E : zE} {K n : Nat → Nat} {I : Nat → Nat → Int32} {F : Nat → Nat → Option Nat} {J : Nat → Nat → Int64} {cb sb : Nat} {Q : zO → zH → Prop} {a0 : Nat} {x1 : Int32} {sx0 : Int32}
    (w : ((sx0 = ((-1) : Int32) → K a0 = 9 ∧ ((x1 = 0 → AW E m_Mo_takeOld (K, n, (zup I a0 2 (0 : Int32)), F, J) 0 0 (zAft E m_Mo_read cb sb Q 99 [none, none, some (.int (I a0 3))] []) 0 [some (.ref a0)] []) ∧ (¬ x1 = 0 → (∃ b4 : Nat, F a0 5 = some b4 ∧ K b4 = 21 ∧ (∃ j6 : Nat, (0 : Int32) = nI j6 ∧ j6 < n b4 ∧ j6 < 2147483648 ∧ Q (.inl (some (.int ((zup I a0 2 (0 : Int32)) b4 j6)))) (K, n, (zup I a0 2 (0 : Int32)), F, J)))))) ∧ (¬ sx0 = ((-1) : Int32) → K a0 = 9 ∧ AW E m_Mo_statement (K, n, I, F, J) 0 0 (zAft E m_Mo_read cb sb Q 70 [some (.ref a0), none, none] []) 0 [some (.ref a0), none, none, none, none] []))) :
    AW E m_Mo_read (K, n, I, F, J) cb sb Q 65 [some (.ref a0), some (.int x1), none] [.int sx0] := by
  refine aw_iconst (v := ((-1) : Int32)) d_Mo_read_65 (by decide) ?_
  refine aw_icmp_eq (tgt := 77) d_Mo_read_66 (by decide) (fun cc1 => ?_) (fun cc1 => ?_)
  · replace w := w.1 cc1
    refine aw_aload_n (x := a0) d_Mo_read_77 rfl ?_
    obtain ⟨hk2, w⟩ := w
    refine gf_Mo_121 rfl hk2 d_Mo_read_78 ?_
    refine aw_istore_n d_Mo_read_81 (by decide) ?_
    refine aw_aload_n (x := a0) d_Mo_read_82 rfl ?_
    refine aw_iconst (v := (0 : Int32)) d_Mo_read_83 (by decide) ?_
    refine pf_Mo_118 rfl hk2 d_Mo_read_84 ?_
    refine aw_iload_n (x := x1) d_Mo_read_87 rfl ?_
    refine aw_if_eq (tgt := 98) d_Mo_read_88 (by decide) (fun cc3 => ?_) (fun cc3 => ?_)
    · replace w := w.1 cc3
      refine aw_aload_n (x := a0) d_Mo_read_98 rfl ?_
      exact aw_room (cb' := 0 + cb) (sb' := 0 + sb) (by omega) (by omega) (aw_weak (lv' := [none, none, some (.int (I a0 3))]) ⟨rfl, trivial⟩ (aw_callV (M' := m_Mo_takeOld) (lv0 := [some (.ref a0)]) (As := []) (rest := []) 8 1045 1047 1048 rfl (by decide) rfl hk2 tb_1045 tb_1047 tb_1048 (fun U hU => hU.p 49 rfl) rfl rfl 0 0 rfl rfl ⟨by decide, by decide, by decide +kernel, by decide +kernel, by decide, by decide⟩ (Nat.le_of_ble_eq_true rfl) ⟨rfl, trivial⟩ rfl d_Mo_read_99 w))
    · replace w := w.2 cc3
      refine aw_aload_n (x := a0) d_Mo_read_91 rfl ?_
      obtain ⟨b4, hb4, w⟩ := w
      refine gs_Mo_16 rfl hk2 hb4 d_Mo_read_92 ?_
      refine aw_iconst (v := (0 : Int32)) d_Mo_read_95 (by decide) ?_
      obtain ⟨hk5, w⟩ := w
      obtain ⟨j6, hj6a, hj6b, hj6c, w⟩ := w
      refine aw_iaload j6 hk5 hj6a hj6b hj6c d_Mo_read_96 ?_
      exact aw_ireturn .int rfl rfl d_Mo_read_97 w
  · replace w := w.2 cc1
    refine aw_aload_n (x := a0) d_Mo_read_69 rfl ?_
    obtain ⟨hk7, w⟩ := w
    exact aw_room (cb' := 0 + cb) (sb' := 0 + sb) (by omega) (by omega) (aw_weak (lv' := [some (.ref a0), none, none]) ⟨rfl, trivial⟩ (aw_callV (M' := m_Mo_statement) (lv0 := [some (.ref a0), none, none, none, none]) (As := []) (rest := []) 8 985 987 988 rfl (by decide) rfl hk7 tb_985 tb_987 tb_988 (fun U hU => hU.p 35 rfl) rfl rfl 0 0 rfl rfl ⟨by decide, by decide, by decide +kernel, by decide +kernel, by decide, by decide⟩ (Nat.le_of_ble_eq_true rfl) ⟨rfl, trivial⟩ rfl d_Mo_read_70 w))
set_option maxRecDepth 20000 in
theorem r_Mo_read_73 {E : zE} {K n : Nat → Nat} {I : Nat → Nat → Int32} {F : Nat → Nat → Option Nat} {J : Nat → Nat → Int64} {cb sb : Nat} {Q : zO → zH → Prop} {a0 : Nat} {sx0 : Int32}
    (w : AW E m_Mo_read (K, n, I, F, J) cb sb Q 57 [some (.ref a0), some (.int sx0), none] []) :
    AW E m_Mo_read (K, n, I, F, J) cb sb Q 73 [some (.ref a0), none, none] [.int sx0] := by
  refine aw_istore_n d_Mo_read_73 (by decide) ?_
  refine aw_goto (tgt := 57) d_Mo_read_74 (by decide) ?_
  exact aw_weak (lv' := [some (.ref a0), some (.int sx0), none]) ⟨rfl, rfl, trivial⟩ w
set_option maxRecDepth 20000 in
theorem r_Mo_read_102 {E : zE} {K n : Nat → Nat} {I : Nat → Nat → Int32} {F : Nat → Nat → Option Nat} {J : Nat → Nat → Int64} {cb sb : Nat} {Q : zO → zH → Prop} {x2 : Int32}
    (w : Q (.inl (some (.int (((-1) : Int32) - x2)))) (K, n, I, F, J)) :
    AW E m_Mo_read (K, n, I, F, J) cb sb Q 102 [none, none, some (.int x2)] [] := by
  refine aw_iconst (v := ((-1) : Int32)) d_Mo_read_102 (by decide) ?_
  refine aw_iload_n (x := x2) d_Mo_read_103 rfl ?_
  refine aw_isub d_Mo_read_104 ?_
  exact aw_ireturn .int rfl rfl d_Mo_read_105 w
set_option maxRecDepth 20000 in
theorem r_Mo_move_0 {E : zE} {K n : Nat → Nat} {I : Nat → Nat → Int32} {F : Nat → Nat → Option Nat} {J : Nat → Nat → Int64} {cb sb : Nat} {Q : zO → zH → Prop} {a0 : Nat} {a1 : Nat} {x2 : Int32}
    (w : AW E m_Mo_move (K, n, I, F, J) cb sb Q 2 [some (.ref a0), some (.ref a1), some (.int x2), some (.int (0 : Int32))] []) :
    AW E m_Mo_move (K, n, I, F, J) cb sb Q 0 [some (.ref a0), some (.ref a1), some (.int x2), none] [] := by
  refine aw_iconst (v := (0 : Int32)) d_Mo_move_0 (by decide) ?_
  refine aw_istore_n d_Mo_move_1 (by decide) ?_
  exact aw_weak (lv' := [some (.ref a0), some (.ref a1), some (.int x2), some (.int (0 : Int32))]) ⟨rfl, rfl, rfl, rfl, trivial⟩ w
set_option maxRecDepth 20000 in
theorem r_Mo_move_2 {E : zE} {K n : Nat → Nat} {I : Nat → Nat → Int32} {F : Nat → Nat → Option Nat} {J : Nat → Nat → Int64} {cb sb : Nat} {Q : zO → zH → Prop} {a0 : Nat} {a1 : Nat} {x2 : Int32} {x3 : Int32}
    (w : ((x2 ≤ x3 → Q (.inl none) (K, n, I, F, J)) ∧ (¬ x2 ≤ x3 → K a0 = 21 ∧ (∃ j3 : Nat, x3 = nI j3 ∧ j3 < n a0 ∧ j3 < 2147483648 ∧ K a1 = 21 ∧ (∃ j5 : Nat, x3 = nI j5 ∧ j5 < n a1 ∧ j5 < 2147483648 ∧ AW E m_Mo_move (K, n, (zup I a1 j5 (I a0 j3)), F, J) cb sb Q 2 [some (.ref a0), some (.ref a1), some (.int x2), some (.int (x3 + (1 : Int32)))] []))))) :
    AW E m_Mo_move (K, n, I, F, J) cb sb Q 2 [some (.ref a0), some (.ref a1), some (.int x2), some (.int x3)] [] := by
  refine aw_iload_n (x := x3) d_Mo_move_2 rfl ?_
  refine aw_iload_n (x := x2) d_Mo_move_3 rfl ?_
  refine aw_icmp_ge (tgt := 19) d_Mo_move_4 (by decide) (fun cc1 => ?_) (fun cc1 => ?_)
  · replace w := w.1 cc1
    exact aw_return rfl d_Mo_move_19 w
  · replace w := w.2 cc1
    refine aw_aload_n (x := a1) d_Mo_move_7 rfl ?_
    refine aw_iload_n (x := x3) d_Mo_move_8 rfl ?_
    refine aw_aload_n (x := a0) d_Mo_move_9 rfl ?_
    refine aw_iload_n (x := x3) d_Mo_move_10 rfl ?_
    obtain ⟨hk2, w⟩ := w
    obtain ⟨j3, hj3a, hj3b, hj3c, w⟩ := w
    refine aw_iaload j3 hk2 hj3a hj3b hj3c d_Mo_move_11 ?_
    obtain ⟨hk4, w⟩ := w
    obtain ⟨j5, hj5a, hj5b, hj5c, w⟩ := w
    refine aw_iastore j5 hk4 hj5a hj5b hj5c d_Mo_move_12 ?_
    refine aw_iinc (v := (x3 + (1 : Int32))) d_Mo_move_13 rfl (by rfl) (by decide) ?_
    refine aw_goto (tgt := 2) d_Mo_move_16 (by decide) ?_
    exact aw_weak (lv' := [some (.ref a0), some (.ref a1), some (.int x2), some (.int (x3 + (1 : Int32)))]) ⟨rfl, rfl, rfl, rfl, trivial⟩ w
set_option maxRecDepth 20000 in
theorem r_Mo_keepOld_0 {E : zE} {K n : Nat → Nat} {I : Nat → Nat → Int32} {F : Nat → Nat → Option Nat} {J : Nat → Nat → Int64} {cb sb : Nat} {Q : zO → zH → Prop} {a0 : Nat}
    (w : K a0 = 9 ∧ (∃ b2 : Nat, F a0 4 = some b2 ∧ (∃ b3 : Nat, F a0 31 = some b3 ∧ AW E m_Mo_move (K, n, I, F, J) 0 0 (zAft E m_Mo_keepOld cb sb Q 10 [some (.ref a0)] []) 0 [some (.ref b2), some (.ref b3), some (.int (7 : Int32)), none] []))) :
    AW E m_Mo_keepOld (K, n, I, F, J) cb sb Q 0 [some (.ref a0)] [] := by
  refine aw_aload_n (x := a0) d_Mo_keepOld_0 rfl ?_
  obtain ⟨hk1, w⟩ := w
  obtain ⟨b2, hb2, w⟩ := w
  refine gs_Mo_13 rfl hk1 hb2 d_Mo_keepOld_1 ?_
  refine aw_aload_n (x := a0) d_Mo_keepOld_4 rfl ?_
  obtain ⟨b3, hb3, w⟩ := w
  refine gs_Mo_80 rfl hk1 hb3 d_Mo_keepOld_5 ?_
  refine aw_bipush (v := (7 : Int32)) d_Mo_keepOld_8 (by decide) ?_
  exact aw_room (cb' := 0 + cb) (sb' := 0 + sb) (by omega) (by omega) (aw_weak (lv' := [some (.ref a0)]) ⟨rfl, trivial⟩ (aw_callS (M' := m_Mo_move) (lv0 := [some (.ref b2), some (.ref b3), some (.int (7 : Int32)), none]) (As := [.ref b2, .ref b3, .int (7 : Int32)]) (rest := []) 974 975 976 8 tb_974 tb_975 tb_976 tb_8 rfl rfl 3 0 rfl rfl ⟨by decide, by decide, by decide +kernel, by decide +kernel, by decide, by decide⟩ (Nat.le_of_ble_eq_true rfl) ⟨rfl, rfl, rfl, trivial⟩ rfl d_Mo_keepOld_10 w))
set_option maxRecDepth 20000 in
theorem r_Mo_keepOld_13 {E : zE} {K n : Nat → Nat} {I : Nat → Nat → Int32} {F : Nat → Nat → Option Nat} {J : Nat → Nat → Int64} {cb sb : Nat} {Q : zO → zH → Prop} {a0 : Nat}
    (w : K a0 = 9 ∧ (∃ b2 : Nat, F a0 5 = some b2 ∧ (∃ b3 : Nat, F a0 32 = some b3 ∧ AW E m_Mo_move (K, n, I, F, J) 0 0 (zAft E m_Mo_keepOld cb sb Q 22 [some (.ref a0)] []) 0 [some (.ref b2), some (.ref b3), some (.int (5 : Int32)), none] []))) :
    AW E m_Mo_keepOld (K, n, I, F, J) cb sb Q 13 [some (.ref a0)] [] := by
  refine aw_aload_n (x := a0) d_Mo_keepOld_13 rfl ?_
  obtain ⟨hk1, w⟩ := w
  obtain ⟨b2, hb2, w⟩ := w
  refine gs_Mo_16 rfl hk1 hb2 d_Mo_keepOld_14 ?_
  refine aw_aload_n (x := a0) d_Mo_keepOld_17 rfl ?_
  obtain ⟨b3, hb3, w⟩ := w
  refine gs_Mo_83 rfl hk1 hb3 d_Mo_keepOld_18 ?_
  refine aw_iconst (v := (5 : Int32)) d_Mo_keepOld_21 (by decide) ?_
  exact aw_room (cb' := 0 + cb) (sb' := 0 + sb) (by omega) (by omega) (aw_weak (lv' := [some (.ref a0)]) ⟨rfl, trivial⟩ (aw_callS (M' := m_Mo_move) (lv0 := [some (.ref b2), some (.ref b3), some (.int (5 : Int32)), none]) (As := [.ref b2, .ref b3, .int (5 : Int32)]) (rest := []) 974 975 976 8 tb_974 tb_975 tb_976 tb_8 rfl rfl 3 0 rfl rfl ⟨by decide, by decide, by decide +kernel, by decide +kernel, by decide, by decide⟩ (Nat.le_of_ble_eq_true rfl) ⟨rfl, rfl, rfl, trivial⟩ rfl d_Mo_keepOld_22 w))
set_option maxRecDepth 20000 in
theorem r_Mo_keepOld_25 {E : zE} {K n : Nat → Nat} {I : Nat → Nat → Int32} {F : Nat → Nat → Option Nat} {J : Nat → Nat → Int64} {cb sb : Nat} {Q : zO → zH → Prop} {a0 : Nat}
    (w : K a0 = 9 ∧ (∃ b2 : Nat, F a0 6 = some b2 ∧ (∃ b3 : Nat, F a0 33 = some b3 ∧ AW E m_Mo_move (K, n, I, F, J) 0 0 (zAft E m_Mo_keepOld cb sb Q 34 [some (.ref a0)] []) 0 [some (.ref b2), some (.ref b3), some (.int (2 : Int32)), none] []))) :
    AW E m_Mo_keepOld (K, n, I, F, J) cb sb Q 25 [some (.ref a0)] [] := by
  refine aw_aload_n (x := a0) d_Mo_keepOld_25 rfl ?_
  obtain ⟨hk1, w⟩ := w
  obtain ⟨b2, hb2, w⟩ := w
  refine gs_Mo_19 rfl hk1 hb2 d_Mo_keepOld_26 ?_
  refine aw_aload_n (x := a0) d_Mo_keepOld_29 rfl ?_
  obtain ⟨b3, hb3, w⟩ := w
  refine gs_Mo_86 rfl hk1 hb3 d_Mo_keepOld_30 ?_
  refine aw_iconst (v := (2 : Int32)) d_Mo_keepOld_33 (by decide) ?_
  exact aw_room (cb' := 0 + cb) (sb' := 0 + sb) (by omega) (by omega) (aw_weak (lv' := [some (.ref a0)]) ⟨rfl, trivial⟩ (aw_callS (M' := m_Mo_move) (lv0 := [some (.ref b2), some (.ref b3), some (.int (2 : Int32)), none]) (As := [.ref b2, .ref b3, .int (2 : Int32)]) (rest := []) 974 975 976 8 tb_974 tb_975 tb_976 tb_8 rfl rfl 3 0 rfl rfl ⟨by decide, by decide, by decide +kernel, by decide +kernel, by decide, by decide⟩ (Nat.le_of_ble_eq_true rfl) ⟨rfl, rfl, rfl, trivial⟩ rfl d_Mo_keepOld_34 w))
set_option maxRecDepth 20000 in
theorem r_Mo_keepOld_37 {E : zE} {K n : Nat → Nat} {I : Nat → Nat → Int32} {F : Nat → Nat → Option Nat} {J : Nat → Nat → Int64} {cb sb : Nat} {Q : zO → zH → Prop} {a0 : Nat}
    (w : K a0 = 9 ∧ (∃ b2 : Nat, F a0 7 = some b2 ∧ (∃ b3 : Nat, F a0 34 = some b3 ∧ AW E m_Mo_move (K, n, I, F, J) 0 0 (zAft E m_Mo_keepOld cb sb Q 47 [some (.ref a0)] []) 0 [some (.ref b2), some (.ref b3), some (.int (48 : Int32)), none] []))) :
    AW E m_Mo_keepOld (K, n, I, F, J) cb sb Q 37 [some (.ref a0)] [] := by
  refine aw_aload_n (x := a0) d_Mo_keepOld_37 rfl ?_
  obtain ⟨hk1, w⟩ := w
  obtain ⟨b2, hb2, w⟩ := w
  refine gs_Mo_22 rfl hk1 hb2 d_Mo_keepOld_38 ?_
  refine aw_aload_n (x := a0) d_Mo_keepOld_41 rfl ?_
  obtain ⟨b3, hb3, w⟩ := w
  refine gs_Mo_89 rfl hk1 hb3 d_Mo_keepOld_42 ?_
  refine aw_bipush (v := (48 : Int32)) d_Mo_keepOld_45 (by decide) ?_
  exact aw_room (cb' := 0 + cb) (sb' := 0 + sb) (by omega) (by omega) (aw_weak (lv' := [some (.ref a0)]) ⟨rfl, trivial⟩ (aw_callS (M' := m_Mo_move) (lv0 := [some (.ref b2), some (.ref b3), some (.int (48 : Int32)), none]) (As := [.ref b2, .ref b3, .int (48 : Int32)]) (rest := []) 974 975 976 8 tb_974 tb_975 tb_976 tb_8 rfl rfl 3 0 rfl rfl ⟨by decide, by decide, by decide +kernel, by decide +kernel, by decide, by decide⟩ (Nat.le_of_ble_eq_true rfl) ⟨rfl, rfl, rfl, trivial⟩ rfl d_Mo_keepOld_47 w))
set_option maxRecDepth 20000 in
theorem r_Mo_keepOld_50 {E : zE} {K n : Nat → Nat} {I : Nat → Nat → Int32} {F : Nat → Nat → Option Nat} {J : Nat → Nat → Int64} {cb sb : Nat} {Q : zO → zH → Prop} {a0 : Nat}
    (w : K a0 = 9 ∧ (∃ b2 : Nat, F a0 8 = some b2 ∧ (∃ b3 : Nat, F a0 35 = some b3 ∧ AW E m_Mo_move (K, n, I, F, J) 0 0 (zAft E m_Mo_keepOld cb sb Q 60 [some (.ref a0)] []) 0 [some (.ref b2), some (.ref b3), some (.int (120 : Int32)), none] []))) :
    AW E m_Mo_keepOld (K, n, I, F, J) cb sb Q 50 [some (.ref a0)] [] := by
  refine aw_aload_n (x := a0) d_Mo_keepOld_50 rfl ?_
  obtain ⟨hk1, w⟩ := w
  obtain ⟨b2, hb2, w⟩ := w
  refine gs_Mo_25 rfl hk1 hb2 d_Mo_keepOld_51 ?_
  refine aw_aload_n (x := a0) d_Mo_keepOld_54 rfl ?_
  obtain ⟨b3, hb3, w⟩ := w
  refine gs_Mo_92 rfl hk1 hb3 d_Mo_keepOld_55 ?_
  refine aw_bipush (v := (120 : Int32)) d_Mo_keepOld_58 (by decide) ?_
  exact aw_room (cb' := 0 + cb) (sb' := 0 + sb) (by omega) (by omega) (aw_weak (lv' := [some (.ref a0)]) ⟨rfl, trivial⟩ (aw_callS (M' := m_Mo_move) (lv0 := [some (.ref b2), some (.ref b3), some (.int (120 : Int32)), none]) (As := [.ref b2, .ref b3, .int (120 : Int32)]) (rest := []) 974 975 976 8 tb_974 tb_975 tb_976 tb_8 rfl rfl 3 0 rfl rfl ⟨by decide, by decide, by decide +kernel, by decide +kernel, by decide, by decide⟩ (Nat.le_of_ble_eq_true rfl) ⟨rfl, rfl, rfl, trivial⟩ rfl d_Mo_keepOld_60 w))
set_option maxRecDepth 20000 in
theorem r_Mo_keepOld_63 {E : zE} {K n : Nat → Nat} {I : Nat → Nat → Int32} {F : Nat → Nat → Option Nat} {J : Nat → Nat → Int64} {cb sb : Nat} {Q : zO → zH → Prop} {a0 : Nat}
    (w : K a0 = 9 ∧ (∃ b2 : Nat, F a0 9 = some b2 ∧ (∃ b3 : Nat, F a0 36 = some b3 ∧ AW E m_Mo_move (K, n, I, F, J) 0 0 (zAft E m_Mo_keepOld cb sb Q 73 [some (.ref a0)] []) 0 [some (.ref b2), some (.ref b3), some (.int (16 : Int32)), none] []))) :
    AW E m_Mo_keepOld (K, n, I, F, J) cb sb Q 63 [some (.ref a0)] [] := by
  refine aw_aload_n (x := a0) d_Mo_keepOld_63 rfl ?_
  obtain ⟨hk1, w⟩ := w
  obtain ⟨b2, hb2, w⟩ := w
  refine gs_Mo_28 rfl hk1 hb2 d_Mo_keepOld_64 ?_
  refine aw_aload_n (x := a0) d_Mo_keepOld_67 rfl ?_
  obtain ⟨b3, hb3, w⟩ := w
  refine gs_Mo_95 rfl hk1 hb3 d_Mo_keepOld_68 ?_
  refine aw_bipush (v := (16 : Int32)) d_Mo_keepOld_71 (by decide) ?_
  exact aw_room (cb' := 0 + cb) (sb' := 0 + sb) (by omega) (by omega) (aw_weak (lv' := [some (.ref a0)]) ⟨rfl, trivial⟩ (aw_callS (M' := m_Mo_move) (lv0 := [some (.ref b2), some (.ref b3), some (.int (16 : Int32)), none]) (As := [.ref b2, .ref b3, .int (16 : Int32)]) (rest := []) 974 975 976 8 tb_974 tb_975 tb_976 tb_8 rfl rfl 3 0 rfl rfl ⟨by decide, by decide, by decide +kernel, by decide +kernel, by decide, by decide⟩ (Nat.le_of_ble_eq_true rfl) ⟨rfl, rfl, rfl, trivial⟩ rfl d_Mo_keepOld_73 w))
set_option maxRecDepth 20000 in
theorem r_Mo_keepOld_76 {E : zE} {K n : Nat → Nat} {I : Nat → Nat → Int32} {F : Nat → Nat → Option Nat} {J : Nat → Nat → Int64} {cb sb : Nat} {Q : zO → zH → Prop} {a0 : Nat}
    (w : K a0 = 9 ∧ (∃ b2 : Nat, F a0 10 = some b2 ∧ (∃ b3 : Nat, F a0 37 = some b3 ∧ AW E m_Mo_move (K, n, I, F, J) 0 0 (zAft E m_Mo_keepOld cb sb Q 86 [some (.ref a0)] []) 0 [some (.ref b2), some (.ref b3), some (.int (48 : Int32)), none] []))) :
    AW E m_Mo_keepOld (K, n, I, F, J) cb sb Q 76 [some (.ref a0)] [] := by
  refine aw_aload_n (x := a0) d_Mo_keepOld_76 rfl ?_
  obtain ⟨hk1, w⟩ := w
  obtain ⟨b2, hb2, w⟩ := w
  refine gs_Mo_31 rfl hk1 hb2 d_Mo_keepOld_77 ?_
  refine aw_aload_n (x := a0) d_Mo_keepOld_80 rfl ?_
  obtain ⟨b3, hb3, w⟩ := w
  refine gs_Mo_98 rfl hk1 hb3 d_Mo_keepOld_81 ?_
  refine aw_bipush (v := (48 : Int32)) d_Mo_keepOld_84 (by decide) ?_
  exact aw_room (cb' := 0 + cb) (sb' := 0 + sb) (by omega) (by omega) (aw_weak (lv' := [some (.ref a0)]) ⟨rfl, trivial⟩ (aw_callS (M' := m_Mo_move) (lv0 := [some (.ref b2), some (.ref b3), some (.int (48 : Int32)), none]) (As := [.ref b2, .ref b3, .int (48 : Int32)]) (rest := []) 974 975 976 8 tb_974 tb_975 tb_976 tb_8 rfl rfl 3 0 rfl rfl ⟨by decide, by decide, by decide +kernel, by decide +kernel, by decide, by decide⟩ (Nat.le_of_ble_eq_true rfl) ⟨rfl, rfl, rfl, trivial⟩ rfl d_Mo_keepOld_86 w))
set_option maxRecDepth 20000 in
theorem r_Mo_keepOld_89 {E : zE} {K n : Nat → Nat} {I : Nat → Nat → Int32} {F : Nat → Nat → Option Nat} {J : Nat → Nat → Int64} {cb sb : Nat} {Q : zO → zH → Prop} {a0 : Nat}
    (w : K a0 = 9 ∧ (∃ b2 : Nat, F a0 11 = some b2 ∧ (∃ b3 : Nat, F a0 38 = some b3 ∧ AW E m_Mo_move (K, n, I, F, J) 0 0 (zAft E m_Mo_keepOld cb sb Q 100 [none] []) 0 [some (.ref b2), some (.ref b3), some (.int (880 : Int32)), none] []))) :
    AW E m_Mo_keepOld (K, n, I, F, J) cb sb Q 89 [some (.ref a0)] [] := by
  refine aw_aload_n (x := a0) d_Mo_keepOld_89 rfl ?_
  obtain ⟨hk1, w⟩ := w
  obtain ⟨b2, hb2, w⟩ := w
  refine gs_Mo_34 rfl hk1 hb2 d_Mo_keepOld_90 ?_
  refine aw_aload_n (x := a0) d_Mo_keepOld_93 rfl ?_
  obtain ⟨b3, hb3, w⟩ := w
  refine gs_Mo_101 rfl hk1 hb3 d_Mo_keepOld_94 ?_
  refine aw_sipush (v := (880 : Int32)) d_Mo_keepOld_97 (by decide) ?_
  exact aw_room (cb' := 0 + cb) (sb' := 0 + sb) (by omega) (by omega) (aw_weak (lv' := [none]) trivial (aw_callS (M' := m_Mo_move) (lv0 := [some (.ref b2), some (.ref b3), some (.int (880 : Int32)), none]) (As := [.ref b2, .ref b3, .int (880 : Int32)]) (rest := []) 974 975 976 8 tb_974 tb_975 tb_976 tb_8 rfl rfl 3 0 rfl rfl ⟨by decide, by decide, by decide +kernel, by decide +kernel, by decide, by decide⟩ (Nat.le_of_ble_eq_true rfl) ⟨rfl, rfl, rfl, trivial⟩ rfl d_Mo_keepOld_100 w))
set_option maxRecDepth 20000 in
theorem r_Mo_keepOld_103 {E : zE} {K n : Nat → Nat} {I : Nat → Nat → Int32} {F : Nat → Nat → Option Nat} {J : Nat → Nat → Int64} {cb sb : Nat} {Q : zO → zH → Prop}
    (w : Q (.inl none) (K, n, I, F, J)) :
    AW E m_Mo_keepOld (K, n, I, F, J) cb sb Q 103 [none] [] := by
  exact aw_return rfl d_Mo_keepOld_103 w
set_option maxRecDepth 20000 in
theorem r_Mo_takeOld_0 {E : zE} {K n : Nat → Nat} {I : Nat → Nat → Int32} {F : Nat → Nat → Option Nat} {J : Nat → Nat → Int64} {cb sb : Nat} {Q : zO → zH → Prop} {a0 : Nat}
    (w : K a0 = 9 ∧ (∃ b2 : Nat, F a0 31 = some b2 ∧ (∃ b3 : Nat, F a0 4 = some b3 ∧ AW E m_Mo_move (K, n, I, F, J) 0 0 (zAft E m_Mo_takeOld cb sb Q 10 [some (.ref a0)] []) 0 [some (.ref b2), some (.ref b3), some (.int (7 : Int32)), none] []))) :
    AW E m_Mo_takeOld (K, n, I, F, J) cb sb Q 0 [some (.ref a0)] [] := by
  refine aw_aload_n (x := a0) d_Mo_takeOld_0 rfl ?_
  obtain ⟨hk1, w⟩ := w
  obtain ⟨b2, hb2, w⟩ := w
  refine gs_Mo_80 rfl hk1 hb2 d_Mo_takeOld_1 ?_
  refine aw_aload_n (x := a0) d_Mo_takeOld_4 rfl ?_
  obtain ⟨b3, hb3, w⟩ := w
  refine gs_Mo_13 rfl hk1 hb3 d_Mo_takeOld_5 ?_
  refine aw_bipush (v := (7 : Int32)) d_Mo_takeOld_8 (by decide) ?_
  exact aw_room (cb' := 0 + cb) (sb' := 0 + sb) (by omega) (by omega) (aw_weak (lv' := [some (.ref a0)]) ⟨rfl, trivial⟩ (aw_callS (M' := m_Mo_move) (lv0 := [some (.ref b2), some (.ref b3), some (.int (7 : Int32)), none]) (As := [.ref b2, .ref b3, .int (7 : Int32)]) (rest := []) 974 975 976 8 tb_974 tb_975 tb_976 tb_8 rfl rfl 3 0 rfl rfl ⟨by decide, by decide, by decide +kernel, by decide +kernel, by decide, by decide⟩ (Nat.le_of_ble_eq_true rfl) ⟨rfl, rfl, rfl, trivial⟩ rfl d_Mo_takeOld_10 w))
set_option maxRecDepth 20000 in
theorem r_Mo_takeOld_13 {E : zE} {K n : Nat → Nat} {I : Nat → Nat → Int32} {F : Nat → Nat → Option Nat} {J : Nat → Nat → Int64} {cb sb : Nat} {Q : zO → zH → Prop} {a0 : Nat}
    (w : K a0 = 9 ∧ (∃ b2 : Nat, F a0 32 = some b2 ∧ (∃ b3 : Nat, F a0 5 = some b3 ∧ AW E m_Mo_move (K, n, I, F, J) 0 0 (zAft E m_Mo_takeOld cb sb Q 22 [some (.ref a0)] []) 0 [some (.ref b2), some (.ref b3), some (.int (5 : Int32)), none] []))) :
    AW E m_Mo_takeOld (K, n, I, F, J) cb sb Q 13 [some (.ref a0)] [] := by
  refine aw_aload_n (x := a0) d_Mo_takeOld_13 rfl ?_
  obtain ⟨hk1, w⟩ := w
  obtain ⟨b2, hb2, w⟩ := w
  refine gs_Mo_83 rfl hk1 hb2 d_Mo_takeOld_14 ?_
  refine aw_aload_n (x := a0) d_Mo_takeOld_17 rfl ?_
  obtain ⟨b3, hb3, w⟩ := w
  refine gs_Mo_16 rfl hk1 hb3 d_Mo_takeOld_18 ?_
  refine aw_iconst (v := (5 : Int32)) d_Mo_takeOld_21 (by decide) ?_
  exact aw_room (cb' := 0 + cb) (sb' := 0 + sb) (by omega) (by omega) (aw_weak (lv' := [some (.ref a0)]) ⟨rfl, trivial⟩ (aw_callS (M' := m_Mo_move) (lv0 := [some (.ref b2), some (.ref b3), some (.int (5 : Int32)), none]) (As := [.ref b2, .ref b3, .int (5 : Int32)]) (rest := []) 974 975 976 8 tb_974 tb_975 tb_976 tb_8 rfl rfl 3 0 rfl rfl ⟨by decide, by decide, by decide +kernel, by decide +kernel, by decide, by decide⟩ (Nat.le_of_ble_eq_true rfl) ⟨rfl, rfl, rfl, trivial⟩ rfl d_Mo_takeOld_22 w))
set_option maxRecDepth 20000 in
theorem r_Mo_takeOld_25 {E : zE} {K n : Nat → Nat} {I : Nat → Nat → Int32} {F : Nat → Nat → Option Nat} {J : Nat → Nat → Int64} {cb sb : Nat} {Q : zO → zH → Prop} {a0 : Nat}
    (w : K a0 = 9 ∧ (∃ b2 : Nat, F a0 33 = some b2 ∧ (∃ b3 : Nat, F a0 6 = some b3 ∧ AW E m_Mo_move (K, n, I, F, J) 0 0 (zAft E m_Mo_takeOld cb sb Q 34 [some (.ref a0)] []) 0 [some (.ref b2), some (.ref b3), some (.int (2 : Int32)), none] []))) :
    AW E m_Mo_takeOld (K, n, I, F, J) cb sb Q 25 [some (.ref a0)] [] := by
  refine aw_aload_n (x := a0) d_Mo_takeOld_25 rfl ?_
  obtain ⟨hk1, w⟩ := w
  obtain ⟨b2, hb2, w⟩ := w
  refine gs_Mo_86 rfl hk1 hb2 d_Mo_takeOld_26 ?_
  refine aw_aload_n (x := a0) d_Mo_takeOld_29 rfl ?_
  obtain ⟨b3, hb3, w⟩ := w
  refine gs_Mo_19 rfl hk1 hb3 d_Mo_takeOld_30 ?_
  refine aw_iconst (v := (2 : Int32)) d_Mo_takeOld_33 (by decide) ?_
  exact aw_room (cb' := 0 + cb) (sb' := 0 + sb) (by omega) (by omega) (aw_weak (lv' := [some (.ref a0)]) ⟨rfl, trivial⟩ (aw_callS (M' := m_Mo_move) (lv0 := [some (.ref b2), some (.ref b3), some (.int (2 : Int32)), none]) (As := [.ref b2, .ref b3, .int (2 : Int32)]) (rest := []) 974 975 976 8 tb_974 tb_975 tb_976 tb_8 rfl rfl 3 0 rfl rfl ⟨by decide, by decide, by decide +kernel, by decide +kernel, by decide, by decide⟩ (Nat.le_of_ble_eq_true rfl) ⟨rfl, rfl, rfl, trivial⟩ rfl d_Mo_takeOld_34 w))
set_option maxRecDepth 20000 in
theorem r_Mo_takeOld_37 {E : zE} {K n : Nat → Nat} {I : Nat → Nat → Int32} {F : Nat → Nat → Option Nat} {J : Nat → Nat → Int64} {cb sb : Nat} {Q : zO → zH → Prop} {a0 : Nat}
    (w : K a0 = 9 ∧ (∃ b2 : Nat, F a0 34 = some b2 ∧ (∃ b3 : Nat, F a0 7 = some b3 ∧ AW E m_Mo_move (K, n, I, F, J) 0 0 (zAft E m_Mo_takeOld cb sb Q 47 [some (.ref a0)] []) 0 [some (.ref b2), some (.ref b3), some (.int (48 : Int32)), none] []))) :
    AW E m_Mo_takeOld (K, n, I, F, J) cb sb Q 37 [some (.ref a0)] [] := by
  refine aw_aload_n (x := a0) d_Mo_takeOld_37 rfl ?_
  obtain ⟨hk1, w⟩ := w
  obtain ⟨b2, hb2, w⟩ := w
  refine gs_Mo_89 rfl hk1 hb2 d_Mo_takeOld_38 ?_
  refine aw_aload_n (x := a0) d_Mo_takeOld_41 rfl ?_
  obtain ⟨b3, hb3, w⟩ := w
  refine gs_Mo_22 rfl hk1 hb3 d_Mo_takeOld_42 ?_
  refine aw_bipush (v := (48 : Int32)) d_Mo_takeOld_45 (by decide) ?_
  exact aw_room (cb' := 0 + cb) (sb' := 0 + sb) (by omega) (by omega) (aw_weak (lv' := [some (.ref a0)]) ⟨rfl, trivial⟩ (aw_callS (M' := m_Mo_move) (lv0 := [some (.ref b2), some (.ref b3), some (.int (48 : Int32)), none]) (As := [.ref b2, .ref b3, .int (48 : Int32)]) (rest := []) 974 975 976 8 tb_974 tb_975 tb_976 tb_8 rfl rfl 3 0 rfl rfl ⟨by decide, by decide, by decide +kernel, by decide +kernel, by decide, by decide⟩ (Nat.le_of_ble_eq_true rfl) ⟨rfl, rfl, rfl, trivial⟩ rfl d_Mo_takeOld_47 w))
set_option maxRecDepth 20000 in
theorem r_Mo_takeOld_50 {E : zE} {K n : Nat → Nat} {I : Nat → Nat → Int32} {F : Nat → Nat → Option Nat} {J : Nat → Nat → Int64} {cb sb : Nat} {Q : zO → zH → Prop} {a0 : Nat}
    (w : K a0 = 9 ∧ (∃ b2 : Nat, F a0 35 = some b2 ∧ (∃ b3 : Nat, F a0 8 = some b3 ∧ AW E m_Mo_move (K, n, I, F, J) 0 0 (zAft E m_Mo_takeOld cb sb Q 60 [some (.ref a0)] []) 0 [some (.ref b2), some (.ref b3), some (.int (120 : Int32)), none] []))) :
    AW E m_Mo_takeOld (K, n, I, F, J) cb sb Q 50 [some (.ref a0)] [] := by
  refine aw_aload_n (x := a0) d_Mo_takeOld_50 rfl ?_
  obtain ⟨hk1, w⟩ := w
  obtain ⟨b2, hb2, w⟩ := w
  refine gs_Mo_92 rfl hk1 hb2 d_Mo_takeOld_51 ?_
  refine aw_aload_n (x := a0) d_Mo_takeOld_54 rfl ?_
  obtain ⟨b3, hb3, w⟩ := w
  refine gs_Mo_25 rfl hk1 hb3 d_Mo_takeOld_55 ?_
  refine aw_bipush (v := (120 : Int32)) d_Mo_takeOld_58 (by decide) ?_
  exact aw_room (cb' := 0 + cb) (sb' := 0 + sb) (by omega) (by omega) (aw_weak (lv' := [some (.ref a0)]) ⟨rfl, trivial⟩ (aw_callS (M' := m_Mo_move) (lv0 := [some (.ref b2), some (.ref b3), some (.int (120 : Int32)), none]) (As := [.ref b2, .ref b3, .int (120 : Int32)]) (rest := []) 974 975 976 8 tb_974 tb_975 tb_976 tb_8 rfl rfl 3 0 rfl rfl ⟨by decide, by decide, by decide +kernel, by decide +kernel, by decide, by decide⟩ (Nat.le_of_ble_eq_true rfl) ⟨rfl, rfl, rfl, trivial⟩ rfl d_Mo_takeOld_60 w))
set_option maxRecDepth 20000 in
theorem r_Mo_takeOld_63 {E : zE} {K n : Nat → Nat} {I : Nat → Nat → Int32} {F : Nat → Nat → Option Nat} {J : Nat → Nat → Int64} {cb sb : Nat} {Q : zO → zH → Prop} {a0 : Nat}
    (w : K a0 = 9 ∧ (∃ b2 : Nat, F a0 36 = some b2 ∧ (∃ b3 : Nat, F a0 9 = some b3 ∧ AW E m_Mo_move (K, n, I, F, J) 0 0 (zAft E m_Mo_takeOld cb sb Q 73 [some (.ref a0)] []) 0 [some (.ref b2), some (.ref b3), some (.int (16 : Int32)), none] []))) :
    AW E m_Mo_takeOld (K, n, I, F, J) cb sb Q 63 [some (.ref a0)] [] := by
  refine aw_aload_n (x := a0) d_Mo_takeOld_63 rfl ?_
  obtain ⟨hk1, w⟩ := w
  obtain ⟨b2, hb2, w⟩ := w
  refine gs_Mo_95 rfl hk1 hb2 d_Mo_takeOld_64 ?_
  refine aw_aload_n (x := a0) d_Mo_takeOld_67 rfl ?_
  obtain ⟨b3, hb3, w⟩ := w
  refine gs_Mo_28 rfl hk1 hb3 d_Mo_takeOld_68 ?_
  refine aw_bipush (v := (16 : Int32)) d_Mo_takeOld_71 (by decide) ?_
  exact aw_room (cb' := 0 + cb) (sb' := 0 + sb) (by omega) (by omega) (aw_weak (lv' := [some (.ref a0)]) ⟨rfl, trivial⟩ (aw_callS (M' := m_Mo_move) (lv0 := [some (.ref b2), some (.ref b3), some (.int (16 : Int32)), none]) (As := [.ref b2, .ref b3, .int (16 : Int32)]) (rest := []) 974 975 976 8 tb_974 tb_975 tb_976 tb_8 rfl rfl 3 0 rfl rfl ⟨by decide, by decide, by decide +kernel, by decide +kernel, by decide, by decide⟩ (Nat.le_of_ble_eq_true rfl) ⟨rfl, rfl, rfl, trivial⟩ rfl d_Mo_takeOld_73 w))
set_option maxRecDepth 20000 in
theorem r_Mo_takeOld_76 {E : zE} {K n : Nat → Nat} {I : Nat → Nat → Int32} {F : Nat → Nat → Option Nat} {J : Nat → Nat → Int64} {cb sb : Nat} {Q : zO → zH → Prop} {a0 : Nat}
    (w : K a0 = 9 ∧ (∃ b2 : Nat, F a0 37 = some b2 ∧ (∃ b3 : Nat, F a0 10 = some b3 ∧ AW E m_Mo_move (K, n, I, F, J) 0 0 (zAft E m_Mo_takeOld cb sb Q 86 [some (.ref a0)] []) 0 [some (.ref b2), some (.ref b3), some (.int (48 : Int32)), none] []))) :
    AW E m_Mo_takeOld (K, n, I, F, J) cb sb Q 76 [some (.ref a0)] [] := by
  refine aw_aload_n (x := a0) d_Mo_takeOld_76 rfl ?_
  obtain ⟨hk1, w⟩ := w
  obtain ⟨b2, hb2, w⟩ := w
  refine gs_Mo_98 rfl hk1 hb2 d_Mo_takeOld_77 ?_
  refine aw_aload_n (x := a0) d_Mo_takeOld_80 rfl ?_
  obtain ⟨b3, hb3, w⟩ := w
  refine gs_Mo_31 rfl hk1 hb3 d_Mo_takeOld_81 ?_
  refine aw_bipush (v := (48 : Int32)) d_Mo_takeOld_84 (by decide) ?_
  exact aw_room (cb' := 0 + cb) (sb' := 0 + sb) (by omega) (by omega) (aw_weak (lv' := [some (.ref a0)]) ⟨rfl, trivial⟩ (aw_callS (M' := m_Mo_move) (lv0 := [some (.ref b2), some (.ref b3), some (.int (48 : Int32)), none]) (As := [.ref b2, .ref b3, .int (48 : Int32)]) (rest := []) 974 975 976 8 tb_974 tb_975 tb_976 tb_8 rfl rfl 3 0 rfl rfl ⟨by decide, by decide, by decide +kernel, by decide +kernel, by decide, by decide⟩ (Nat.le_of_ble_eq_true rfl) ⟨rfl, rfl, rfl, trivial⟩ rfl d_Mo_takeOld_86 w))
set_option maxRecDepth 20000 in
theorem r_Mo_takeOld_89 {E : zE} {K n : Nat → Nat} {I : Nat → Nat → Int32} {F : Nat → Nat → Option Nat} {J : Nat → Nat → Int64} {cb sb : Nat} {Q : zO → zH → Prop} {a0 : Nat}
    (w : K a0 = 9 ∧ (∃ b2 : Nat, F a0 38 = some b2 ∧ (∃ b3 : Nat, F a0 11 = some b3 ∧ AW E m_Mo_move (K, n, I, F, J) 0 0 (zAft E m_Mo_takeOld cb sb Q 100 [none] []) 0 [some (.ref b2), some (.ref b3), some (.int (880 : Int32)), none] []))) :
    AW E m_Mo_takeOld (K, n, I, F, J) cb sb Q 89 [some (.ref a0)] [] := by
  refine aw_aload_n (x := a0) d_Mo_takeOld_89 rfl ?_
  obtain ⟨hk1, w⟩ := w
  obtain ⟨b2, hb2, w⟩ := w
  refine gs_Mo_101 rfl hk1 hb2 d_Mo_takeOld_90 ?_
  refine aw_aload_n (x := a0) d_Mo_takeOld_93 rfl ?_
  obtain ⟨b3, hb3, w⟩ := w
  refine gs_Mo_34 rfl hk1 hb3 d_Mo_takeOld_94 ?_
  refine aw_sipush (v := (880 : Int32)) d_Mo_takeOld_97 (by decide) ?_
  exact aw_room (cb' := 0 + cb) (sb' := 0 + sb) (by omega) (by omega) (aw_weak (lv' := [none]) trivial (aw_callS (M' := m_Mo_move) (lv0 := [some (.ref b2), some (.ref b3), some (.int (880 : Int32)), none]) (As := [.ref b2, .ref b3, .int (880 : Int32)]) (rest := []) 974 975 976 8 tb_974 tb_975 tb_976 tb_8 rfl rfl 3 0 rfl rfl ⟨by decide, by decide, by decide +kernel, by decide +kernel, by decide, by decide⟩ (Nat.le_of_ble_eq_true rfl) ⟨rfl, rfl, rfl, trivial⟩ rfl d_Mo_takeOld_100 w))
set_option maxRecDepth 20000 in
theorem r_Mo_takeOld_103 {E : zE} {K n : Nat → Nat} {I : Nat → Nat → Int32} {F : Nat → Nat → Option Nat} {J : Nat → Nat → Int64} {cb sb : Nat} {Q : zO → zH → Prop}
    (w : Q (.inl none) (K, n, I, F, J)) :
    AW E m_Mo_takeOld (K, n, I, F, J) cb sb Q 103 [none] [] := by
  exact aw_return rfl d_Mo_takeOld_103 w
