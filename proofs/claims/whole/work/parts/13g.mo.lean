set_option maxRecDepth 20000 in
theorem r_Mo_left_0 {E : zE} {K n : Nat → Nat} {I : Nat → Nat → Int32} {F : Nat → Nat → Option Nat} {J : Nat → Nat → Int64} {cb sb : Nat} {Q : zO → zH → Prop} {a0 : Nat} {x1 : Int32}
    (w : K a0 = 9 ∧ ((x1 < 0 → Q (.inl (some (.int ((-1) : Int32)))) (K, n, (zup I a0 0 (0 : Int32)), F, J)) ∧ (¬ x1 < 0 → ((((zup I a0 0 (0 : Int32)) a0 30) ≤ x1 → Q (.inl (some (.int ((-1) : Int32)))) (K, n, (zup I a0 0 (0 : Int32)), F, J)) ∧ (¬ ((zup I a0 0 (0 : Int32)) a0 30) ≤ x1 → (∃ b4 : Nat, F a0 29 = some b4 ∧ K b4 = 21 ∧ (∃ j6 : Nat, x1 = nI j6 ∧ j6 < n b4 ∧ j6 < 2147483648 ∧ Q (.inl (some (.int ((zup I a0 0 (0 : Int32)) b4 j6)))) (K, n, (zup I a0 0 (0 : Int32)), F, J)))))))) :
    AW E m_Mo_left (K, n, I, F, J) cb sb Q 0 [some (.ref a0), some (.int x1)] [] := by
  refine aw_aload_n (x := a0) d_Mo_left_0 rfl ?_
  refine aw_iconst (v := (0 : Int32)) d_Mo_left_1 (by decide) ?_
  obtain ⟨hk1, w⟩ := w
  refine pf_Mo_114 rfl hk1 d_Mo_left_2 ?_
  refine aw_iload_n (x := x1) d_Mo_left_5 rfl ?_
  refine aw_if_lt (tgt := 26) d_Mo_left_6 (by decide) (fun cc2 => ?_) (fun cc2 => ?_)
  · replace w := w.1 cc2
    refine aw_iconst (v := ((-1) : Int32)) d_Mo_left_26 (by decide) ?_
    exact aw_ireturn .int rfl rfl d_Mo_left_27 w
  · replace w := w.2 cc2
    refine aw_iload_n (x := x1) d_Mo_left_9 rfl ?_
    refine aw_aload_n (x := a0) d_Mo_left_10 rfl ?_
    refine gf_Mo_252 rfl hk1 d_Mo_left_11 ?_
    refine aw_icmp_ge (tgt := 26) d_Mo_left_14 (by decide) (fun cc3 => ?_) (fun cc3 => ?_)
    · replace w := w.1 cc3
      refine aw_iconst (v := ((-1) : Int32)) d_Mo_left_26 (by decide) ?_
      exact aw_ireturn .int rfl rfl d_Mo_left_27 w
    · replace w := w.2 cc3
      refine aw_aload_n (x := a0) d_Mo_left_17 rfl ?_
      obtain ⟨b4, hb4, w⟩ := w
      refine gs_Mo_77 rfl hk1 hb4 d_Mo_left_18 ?_
      refine aw_iload_n (x := x1) d_Mo_left_21 rfl ?_
      obtain ⟨hk5, w⟩ := w
      obtain ⟨j6, hj6a, hj6b, hj6c, w⟩ := w
      refine aw_iaload j6 hk5 hj6a hj6b hj6c d_Mo_left_22 ?_
      refine aw_goto (tgt := 27) d_Mo_left_23 (by decide) ?_
      exact aw_ireturn .int rfl rfl d_Mo_left_27 w
set_option maxRecDepth 20000 in
theorem r_Mo_code_0 {E : zE} {K n : Nat → Nat} {I : Nat → Nat → Int32} {F : Nat → Nat → Option Nat} {J : Nat → Nat → Int64} {cb sb : Nat} {Q : zO → zH → Prop} {a0 : Nat}
    (w : K a0 = 9 ∧ Q (.inl (some (.int ((zup I a0 0 (0 : Int32)) a0 17)))) (K, n, (zup I a0 0 (0 : Int32)), F, J)) :
    AW E m_Mo_code (K, n, I, F, J) cb sb Q 0 [some (.ref a0)] [] := by
  refine aw_aload_n (x := a0) d_Mo_code_0 rfl ?_
  refine aw_iconst (v := (0 : Int32)) d_Mo_code_1 (by decide) ?_
  obtain ⟨hk1, w⟩ := w
  refine pf_Mo_114 rfl hk1 d_Mo_code_2 ?_
  refine aw_aload_n (x := a0) d_Mo_code_5 rfl ?_
  refine gf_Mo_225 rfl hk1 d_Mo_code_6 ?_
  exact aw_ireturn .int rfl rfl d_Mo_code_9 w
set_option maxRecDepth 20000 in
theorem r_Mo_exit_0 {E : zE} {K n : Nat → Nat} {I : Nat → Nat → Int32} {F : Nat → Nat → Option Nat} {J : Nat → Nat → Int64} {cb sb : Nat} {Q : zO → zH → Prop} {a0 : Nat} {x1 : Int32} {x2 : Int32}
    (w : K a0 = 9 ∧ ((x1 < 0 → Q (.inl (some (.int ((-1) : Int32)))) (K, n, (zup I a0 0 (0 : Int32)), F, J)) ∧ (¬ x1 < 0 → ((x1 ≤ (2 : Int32) → (x2 = 0 ∨ x2 = 1) ∧ Q (.inl (some (.int ((zup I a0 0 (0 : Int32)) a0 16)))) (K, n, (zup (zup (zup I a0 0 (0 : Int32)) a0 16 x1) a0 18 x2), F, J)) ∧ (¬ x1 ≤ (2 : Int32) → Q (.inl (some (.int ((-1) : Int32)))) (K, n, (zup I a0 0 (0 : Int32)), F, J)))))) :
    AW E m_Mo_exit (K, n, I, F, J) cb sb Q 0 [some (.ref a0), some (.int x1), some (.int x2), none] [] := by
  refine aw_aload_n (x := a0) d_Mo_exit_0 rfl ?_
  refine aw_iconst (v := (0 : Int32)) d_Mo_exit_1 (by decide) ?_
  obtain ⟨hk1, w⟩ := w
  refine pf_Mo_114 rfl hk1 d_Mo_exit_2 ?_
  refine aw_iload_n (x := x1) d_Mo_exit_5 rfl ?_
  refine aw_if_lt (tgt := 14) d_Mo_exit_6 (by decide) (fun cc2 => ?_) (fun cc2 => ?_)
  · replace w := w.1 cc2
    refine aw_iconst (v := ((-1) : Int32)) d_Mo_exit_14 (by decide) ?_
    exact aw_ireturn .int rfl rfl d_Mo_exit_15 w
  · replace w := w.2 cc2
    refine aw_iload_n (x := x1) d_Mo_exit_9 rfl ?_
    refine aw_iconst (v := (2 : Int32)) d_Mo_exit_10 (by decide) ?_
    refine aw_icmp_le (tgt := 16) d_Mo_exit_11 (by decide) (fun cc3 => ?_) (fun cc3 => ?_)
    · replace w := w.1 cc3
      refine aw_aload_n (x := a0) d_Mo_exit_16 rfl ?_
      refine gf_Mo_246 rfl hk1 d_Mo_exit_17 ?_
      refine aw_istore_n d_Mo_exit_20 (by decide) ?_
      refine aw_aload_n (x := a0) d_Mo_exit_21 rfl ?_
      refine aw_iload_n (x := x1) d_Mo_exit_22 rfl ?_
      refine pf_Mo_246 rfl hk1 d_Mo_exit_23 ?_
      refine aw_aload_n (x := a0) d_Mo_exit_26 rfl ?_
      refine aw_iload_n (x := x2) d_Mo_exit_27 rfl ?_
      obtain ⟨hz4, w⟩ := w
      refine pf_Mo_242 rfl hk1 hz4 d_Mo_exit_28 ?_
      refine aw_iload_n (x := ((zup I a0 0 (0 : Int32)) a0 16)) d_Mo_exit_31 rfl ?_
      exact aw_ireturn .int rfl rfl d_Mo_exit_32 w
    · replace w := w.2 cc3
      refine aw_iconst (v := ((-1) : Int32)) d_Mo_exit_14 (by decide) ?_
      exact aw_ireturn .int rfl rfl d_Mo_exit_15 w
set_option maxRecDepth 20000 in
theorem r_Mo_total_0 {E : zE} {K n : Nat → Nat} {I : Nat → Nat → Int32} {F : Nat → Nat → Option Nat} {J : Nat → Nat → Int64} {cb sb : Nat} {Q : zO → zH → Prop} {a0 : Nat} {x1 : Int32} {x2 : Int32}
    (w : K a0 = 9 ∧ AW E m_Mo_isOut (K, n, (zup I a0 0 (0 : Int32)), F, J) 0 0 (zAft E m_Mo_total cb sb Q 8 [some (.ref a0), some (.int x1), some (.int x2), none, none] []) 0 [some (.ref a0), some (.int x1), some (.int x2)] []) :
    AW E m_Mo_total (K, n, I, F, J) cb sb Q 0 [some (.ref a0), some (.int x1), some (.int x2), none, none] [] := by
  refine aw_aload_n (x := a0) d_Mo_total_0 rfl ?_
  refine aw_iconst (v := (0 : Int32)) d_Mo_total_1 (by decide) ?_
  obtain ⟨hk1, w⟩ := w
  refine pf_Mo_114 rfl hk1 d_Mo_total_2 ?_
  refine aw_aload_n (x := a0) d_Mo_total_5 rfl ?_
  refine aw_iload_n (x := x1) d_Mo_total_6 rfl ?_
  refine aw_iload_n (x := x2) d_Mo_total_7 rfl ?_
  exact aw_room (cb' := 0 + cb) (sb' := 0 + sb) (by omega) (by omega) (aw_weak (lv' := [some (.ref a0), some (.int x1), some (.int x2), none, none]) ⟨rfl, rfl, rfl, trivial⟩ (aw_callV (M' := m_Mo_isOut) (lv0 := [some (.ref a0), some (.int x1), some (.int x2)]) (As := [.int x1, .int x2]) (rest := []) 8 1116 1118 1119 rfl (by decide) rfl hk1 tb_1116 tb_1118 tb_1119 (fun U hU => hU.p 59 rfl) rfl rfl 2 0 rfl rfl ⟨by decide, by decide, by decide +kernel, by decide +kernel, by decide, by decide⟩ (Nat.le_of_ble_eq_true rfl) ⟨rfl, rfl, rfl, trivial⟩ rfl d_Mo_total_8 w))
set_option maxRecDepth 20000 in
theorem r_Mo_total_11 {E : zE} {K n : Nat → Nat} {I : Nat → Nat → Int32} {F : Nat → Nat → Option Nat} {J : Nat → Nat → Int64} {cb sb : Nat} {Q : zO → zH → Prop} {a0 : Nat} {x1 : Int32} {x2 : Int32} {sx0 : Int32}
    (w : ((¬ sx0 = 0 → AW E m_Mo_total (K, n, I, F, J) cb sb Q 21 [some (.ref a0), some (.int x1), some (.int x2), some (.int (0 : Int32)), some (.int (0 : Int32))] []) ∧ (sx0 = 0 → Q (.inl (some (.int ((-1) : Int32)))) (K, n, I, F, J)))) :
    AW E m_Mo_total (K, n, I, F, J) cb sb Q 11 [some (.ref a0), some (.int x1), some (.int x2), none, none] [.int sx0] := by
  refine aw_if_ne (tgt := 16) d_Mo_total_11 (by decide) (fun cc1 => ?_) (fun cc1 => ?_)
  · replace w := w.1 cc1
    refine aw_iconst (v := (0 : Int32)) d_Mo_total_16 (by decide) ?_
    refine aw_istore_n d_Mo_total_17 (by decide) ?_
    refine aw_iconst (v := (0 : Int32)) d_Mo_total_18 (by decide) ?_
    refine aw_istore d_Mo_total_19 (by decide) ?_
    exact aw_weak (lv' := [some (.ref a0), some (.int x1), some (.int x2), some (.int (0 : Int32)), some (.int (0 : Int32))]) ⟨rfl, rfl, rfl, rfl, rfl, trivial⟩ w
  · replace w := w.2 cc1
    refine aw_iconst (v := ((-1) : Int32)) d_Mo_total_14 (by decide) ?_
    exact aw_ireturn .int rfl rfl d_Mo_total_15 w
set_option maxRecDepth 20000 in
theorem r_Mo_total_21 {E : zE} {K n : Nat → Nat} {I : Nat → Nat → Int32} {F : Nat → Nat → Option Nat} {J : Nat → Nat → Int64} {cb sb : Nat} {Q : zO → zH → Prop} {a0 : Nat} {x1 : Int32} {x2 : Int32} {x3 : Int32} {x4 : Int32}
    (w : K a0 = 9 ∧ (∃ b2 : Nat, F a0 25 = some b2 ∧ K b2 = 21 ∧ (∃ j4 : Nat, (((150 : Int32) * x1) + x2) = nI j4 ∧ j4 < n b2 ∧ j4 < 2147483648 ∧ (((I b2 j4) ≤ x4 → Q (.inl (some (.int x3))) (K, n, I, F, J)) ∧ (¬ (I b2 j4) ≤ x4 → (∃ b6 : Nat, F a0 24 = some b6 ∧ K b6 = 21 ∧ (∃ j8 : Nat, ((((15000 : Int32) * x1) + ((100 : Int32) * x2)) + x4) = nI j8 ∧ j8 < n b6 ∧ j8 < 2147483648 ∧ AW E m_Mo_total (K, n, I, F, J) cb sb Q 21 [some (.ref a0), some (.int x1), some (.int x2), some (.int (x3 + (I b6 j8))), some (.int (x4 + (1 : Int32)))] []))))))) :
    AW E m_Mo_total (K, n, I, F, J) cb sb Q 21 [some (.ref a0), some (.int x1), some (.int x2), some (.int x3), some (.int x4)] [] := by
  refine aw_iload (x := x4) d_Mo_total_21 rfl ?_
  refine aw_aload_n (x := a0) d_Mo_total_23 rfl ?_
  obtain ⟨hk1, w⟩ := w
  obtain ⟨b2, hb2, w⟩ := w
  refine gs_Mo_65 rfl hk1 hb2 d_Mo_total_24 ?_
  refine aw_sipush (v := (150 : Int32)) d_Mo_total_27 (by decide) ?_
  refine aw_iload_n (x := x1) d_Mo_total_30 rfl ?_
  refine aw_imul d_Mo_total_31 ?_
  refine aw_iload_n (x := x2) d_Mo_total_32 rfl ?_
  refine aw_iadd d_Mo_total_33 ?_
  obtain ⟨hk3, w⟩ := w
  obtain ⟨j4, hj4a, hj4b, hj4c, w⟩ := w
  refine aw_iaload j4 hk3 hj4a hj4b hj4c d_Mo_total_34 ?_
  refine aw_icmp_ge (tgt := 65) d_Mo_total_35 (by decide) (fun cc5 => ?_) (fun cc5 => ?_)
  · replace w := w.1 cc5
    refine aw_iload_n (x := x3) d_Mo_total_65 rfl ?_
    exact aw_ireturn .int rfl rfl d_Mo_total_66 w
  · replace w := w.2 cc5
    refine aw_iload_n (x := x3) d_Mo_total_38 rfl ?_
    refine aw_aload_n (x := a0) d_Mo_total_39 rfl ?_
    obtain ⟨b6, hb6, w⟩ := w
    refine gs_Mo_62 rfl hk1 hb6 d_Mo_total_40 ?_
    refine aw_sipush (v := (15000 : Int32)) d_Mo_total_43 (by decide) ?_
    refine aw_iload_n (x := x1) d_Mo_total_46 rfl ?_
    refine aw_imul d_Mo_total_47 ?_
    refine aw_bipush (v := (100 : Int32)) d_Mo_total_48 (by decide) ?_
    refine aw_iload_n (x := x2) d_Mo_total_50 rfl ?_
    refine aw_imul d_Mo_total_51 ?_
    refine aw_iadd d_Mo_total_52 ?_
    refine aw_iload (x := x4) d_Mo_total_53 rfl ?_
    refine aw_iadd d_Mo_total_55 ?_
    obtain ⟨hk7, w⟩ := w
    obtain ⟨j8, hj8a, hj8b, hj8c, w⟩ := w
    refine aw_iaload j8 hk7 hj8a hj8b hj8c d_Mo_total_56 ?_
    refine aw_iadd d_Mo_total_57 ?_
    refine aw_istore_n d_Mo_total_58 (by decide) ?_
    refine aw_iinc (v := (x4 + (1 : Int32))) d_Mo_total_59 rfl (by rfl) (by decide) ?_
    refine aw_goto (tgt := 21) d_Mo_total_62 (by decide) ?_
    exact aw_weak (lv' := [some (.ref a0), some (.int x1), some (.int x2), some (.int (x3 + (I b6 j8))), some (.int (x4 + (1 : Int32)))]) ⟨rfl, rfl, rfl, rfl, rfl, trivial⟩ w
set_option maxRecDepth 20000 in
theorem r_Mo_plain_0 {E : zE} {K n : Nat → Nat} {I : Nat → Nat → Int32} {F : Nat → Nat → Option Nat} {J : Nat → Nat → Int64} {cb sb : Nat} {Q : zO → zH → Prop} {a0 : Nat} {x1 : Int32}
    (w : K a0 = 9 ∧ AW E m_Mo_plain (K, n, (zup I a0 0 (0 : Int32)), F, J) cb sb Q 9 [some (.ref a0), some (.int x1), some (.int (1 : Int32)), some (.int (1 : Int32)), none, none] []) :
    AW E m_Mo_plain (K, n, I, F, J) cb sb Q 0 [some (.ref a0), some (.int x1), none, none, none, none] [] := by
  refine aw_aload_n (x := a0) d_Mo_plain_0 rfl ?_
  refine aw_iconst (v := (0 : Int32)) d_Mo_plain_1 (by decide) ?_
  obtain ⟨hk1, w⟩ := w
  refine pf_Mo_114 rfl hk1 d_Mo_plain_2 ?_
  refine aw_iconst (v := (1 : Int32)) d_Mo_plain_5 (by decide) ?_
  refine aw_istore_n d_Mo_plain_6 (by decide) ?_
  refine aw_iconst (v := (1 : Int32)) d_Mo_plain_7 (by decide) ?_
  refine aw_istore_n d_Mo_plain_8 (by decide) ?_
  exact aw_weak (lv' := [some (.ref a0), some (.int x1), some (.int (1 : Int32)), some (.int (1 : Int32)), none, none]) ⟨rfl, rfl, rfl, rfl, trivial⟩ w
set_option maxRecDepth 20000 in
theorem r_Mo_plain_9 {E : zE} {K n : Nat → Nat} {I : Nat → Nat → Int32} {F : Nat → Nat → Option Nat} {J : Nat → Nat → Int64} {cb sb : Nat} {Q : zO → zH → Prop} {a0 : Nat} {x1 : Int32} {x2 : Int32} {x3 : Int32}
    (w : K a0 = 9 ∧ AW E m_Mo_isOut (K, n, I, F, J) 0 0 (zAft E m_Mo_plain cb sb Q 12 [some (.ref a0), some (.int x1), some (.int x2), some (.int x3), none, none] []) 0 [some (.ref a0), some (.int x1), some (.int x3)] []) :
    AW E m_Mo_plain (K, n, I, F, J) cb sb Q 9 [some (.ref a0), some (.int x1), some (.int x2), some (.int x3), none, none] [] := by
  refine aw_aload_n (x := a0) d_Mo_plain_9 rfl ?_
  refine aw_iload_n (x := x1) d_Mo_plain_10 rfl ?_
  refine aw_iload_n (x := x3) d_Mo_plain_11 rfl ?_
  obtain ⟨hk1, w⟩ := w
  exact aw_room (cb' := 0 + cb) (sb' := 0 + sb) (by omega) (by omega) (aw_weak (lv' := [some (.ref a0), some (.int x1), some (.int x2), some (.int x3), none, none]) ⟨rfl, rfl, rfl, rfl, trivial⟩ (aw_callV (M' := m_Mo_isOut) (lv0 := [some (.ref a0), some (.int x1), some (.int x3)]) (As := [.int x1, .int x3]) (rest := []) 8 1116 1118 1119 rfl (by decide) rfl hk1 tb_1116 tb_1118 tb_1119 (fun U hU => hU.p 59 rfl) rfl rfl 2 0 rfl rfl ⟨by decide, by decide, by decide +kernel, by decide +kernel, by decide, by decide⟩ (Nat.le_of_ble_eq_true rfl) ⟨rfl, rfl, rfl, trivial⟩ rfl d_Mo_plain_12 w))
set_option maxRecDepth 20000 in
theorem r_Mo_plain_15 {E : zE} {K n : Nat → Nat} {I : Nat → Nat → Int32} {F : Nat → Nat → Option Nat} {J : Nat → Nat → Int64} {cb sb : Nat} {Q : zO → zH → Prop} {a0 : Nat} {x1 : Int32} {x2 : Int32} {x3 : Int32} {sx0 : Int32}
    (w : ((sx0 = 0 → (x2 = 0 ∨ x2 = 1) ∧ Q (.inl (some (.int x2))) (K, n, I, F, J)) ∧ (¬ sx0 = 0 → AW E m_Mo_plain (K, n, I, F, J) cb sb Q 21 [some (.ref a0), some (.int x1), some (.int x2), some (.int x3), some (.int (0 : Int32)), none] []))) :
    AW E m_Mo_plain (K, n, I, F, J) cb sb Q 15 [some (.ref a0), some (.int x1), some (.int x2), some (.int x3), none, none] [.int sx0] := by
  refine aw_if_eq (tgt := 150) d_Mo_plain_15 (by decide) (fun cc1 => ?_) (fun cc1 => ?_)
  · replace w := w.1 cc1
    refine aw_iload_n (x := x2) d_Mo_plain_150 rfl ?_
    obtain ⟨hz2, w⟩ := w
    exact aw_ireturn .boolean rfl (by rcases hz2 with q | q <;> rw [q] <;> rfl) d_Mo_plain_151 w
  · replace w := w.2 cc1
    refine aw_iconst (v := (0 : Int32)) d_Mo_plain_18 (by decide) ?_
    refine aw_istore d_Mo_plain_19 (by decide) ?_
    exact aw_weak (lv' := [some (.ref a0), some (.int x1), some (.int x2), some (.int x3), some (.int (0 : Int32)), none]) ⟨rfl, rfl, rfl, rfl, rfl, trivial⟩ w
set_option maxRecDepth 20000 in
theorem r_Mo_plain_21 {E : zE} {K n : Nat → Nat} {I : Nat → Nat → Int32} {F : Nat → Nat → Option Nat} {J : Nat → Nat → Int64} {cb sb : Nat} {Q : zO → zH → Prop} {a0 : Nat} {x1 : Int32} {x2 : Int32} {x3 : Int32} {x4 : Int32}
    (w : (((2 : Int32) ≤ x4 → ((x2 = 0 → AW E m_Mo_plain (K, n, I, F, J) cb sb Q 9 [some (.ref a0), some (.int x1), some (.int (0 : Int32)), some (.int (x3 + (1 : Int32))), none, none] []) ∧ (¬ x2 = 0 → K a0 = 9 ∧ (∃ b4 : Nat, F a0 40 = some b4 ∧ (∃ b5 : Nat, F a0 41 = some b5 ∧ AW E m_Mo_byKeys (K, n, I, F, J) 0 0 (zAft E m_Mo_plain cb sb Q 132 [some (.ref a0), some (.int x1), none, some (.int x3), none, none] []) 0 [some (.ref a0), some (.ref b4), some (.ref b5), some (.int (0 : Int32)), some (.ref b4), some (.ref b5), some (.int (1 : Int32)), none, none] []))))) ∧ (¬ (2 : Int32) ≤ x4 → K a0 = 9 ∧ (∃ b7 : Nat, F a0 41 = some b7 ∧ (∃ b8 : Nat, F a0 25 = some b8 ∧ K b8 = 21 ∧ (∃ j10 : Nat, (((((150 : Int32) * x1) + x3) - (1 : Int32)) + x4) = nI j10 ∧ j10 < n b8 ∧ j10 < 2147483648 ∧ K b7 = 21 ∧ (∃ j12 : Nat, x4 = nI j12 ∧ j12 < n b7 ∧ j12 < 2147483648 ∧ AW E m_Mo_plain (K, n, (zup I b7 j12 (I b8 j10)), F, J) cb sb Q 54 [some (.ref a0), some (.int x1), some (.int x2), some (.int x3), some (.int x4), some (.int (0 : Int32))] []))))))) :
    AW E m_Mo_plain (K, n, I, F, J) cb sb Q 21 [some (.ref a0), some (.int x1), some (.int x2), some (.int x3), some (.int x4), none] [] := by
  refine aw_iload (x := x4) d_Mo_plain_21 rfl ?_
  refine aw_iconst (v := (2 : Int32)) d_Mo_plain_23 (by decide) ?_
  refine aw_icmp_ge (tgt := 109) d_Mo_plain_24 (by decide) (fun cc1 => ?_) (fun cc1 => ?_)
  · replace w := w.1 cc1
    refine aw_iload_n (x := x2) d_Mo_plain_109 rfl ?_
    refine aw_if_eq (tgt := 142) d_Mo_plain_110 (by decide) (fun cc2 => ?_) (fun cc2 => ?_)
    · replace w := w.1 cc2
      refine aw_iconst (v := (0 : Int32)) d_Mo_plain_142 (by decide) ?_
      refine aw_istore_n d_Mo_plain_143 (by decide) ?_
      refine aw_iinc (v := (x3 + (1 : Int32))) d_Mo_plain_144 rfl (by rfl) (by decide) ?_
      refine aw_goto (tgt := 9) d_Mo_plain_147 (by decide) ?_
      exact aw_weak (lv' := [some (.ref a0), some (.int x1), some (.int (0 : Int32)), some (.int (x3 + (1 : Int32))), none, none]) ⟨rfl, rfl, rfl, rfl, trivial⟩ w
    · replace w := w.2 cc2
      refine aw_aload_n (x := a0) d_Mo_plain_113 rfl ?_
      refine aw_aload_n (x := a0) d_Mo_plain_114 rfl ?_
      obtain ⟨hk3, w⟩ := w
      obtain ⟨b4, hb4, w⟩ := w
      refine gs_Mo_108 rfl hk3 hb4 d_Mo_plain_115 ?_
      refine aw_aload_n (x := a0) d_Mo_plain_118 rfl ?_
      obtain ⟨b5, hb5, w⟩ := w
      refine gs_Mo_111 rfl hk3 hb5 d_Mo_plain_119 ?_
      refine aw_iconst (v := (0 : Int32)) d_Mo_plain_122 (by decide) ?_
      refine aw_aload_n (x := a0) d_Mo_plain_123 rfl ?_
      refine gs_Mo_108 rfl hk3 hb4 d_Mo_plain_124 ?_
      refine aw_aload_n (x := a0) d_Mo_plain_127 rfl ?_
      refine gs_Mo_111 rfl hk3 hb5 d_Mo_plain_128 ?_
      refine aw_iconst (v := (1 : Int32)) d_Mo_plain_131 (by decide) ?_
      exact aw_room (cb' := 0 + cb) (sb' := 0 + sb) (by omega) (by omega) (aw_weak (lv' := [some (.ref a0), some (.int x1), none, some (.int x3), none, none]) ⟨rfl, rfl, rfl, trivial⟩ (aw_callV (M' := m_Mo_byKeys) (lv0 := [some (.ref a0), some (.ref b4), some (.ref b5), some (.int (0 : Int32)), some (.ref b4), some (.ref b5), some (.int (1 : Int32)), none, none]) (As := [.ref b4, .ref b5, .int (0 : Int32), .ref b4, .ref b5, .int (1 : Int32)]) (rest := []) 8 1080 1082 1083 rfl (by decide) rfl hk3 tb_1080 tb_1082 tb_1083 (fun U hU => hU.p 54 rfl) rfl rfl 6 0 rfl rfl ⟨by decide, by decide, by decide +kernel, by decide +kernel, by decide, by decide⟩ (Nat.le_of_ble_eq_true rfl) ⟨rfl, rfl, rfl, rfl, rfl, rfl, rfl, trivial⟩ rfl d_Mo_plain_132 w))
  · replace w := w.2 cc1
    refine aw_aload_n (x := a0) d_Mo_plain_27 rfl ?_
    obtain ⟨hk6, w⟩ := w
    obtain ⟨b7, hb7, w⟩ := w
    refine gs_Mo_111 rfl hk6 hb7 d_Mo_plain_28 ?_
    refine aw_iload (x := x4) d_Mo_plain_31 rfl ?_
    refine aw_aload_n (x := a0) d_Mo_plain_33 rfl ?_
    obtain ⟨b8, hb8, w⟩ := w
    refine gs_Mo_65 rfl hk6 hb8 d_Mo_plain_34 ?_
    refine aw_sipush (v := (150 : Int32)) d_Mo_plain_37 (by decide) ?_
    refine aw_iload_n (x := x1) d_Mo_plain_40 rfl ?_
    refine aw_imul d_Mo_plain_41 ?_
    refine aw_iload_n (x := x3) d_Mo_plain_42 rfl ?_
    refine aw_iadd d_Mo_plain_43 ?_
    refine aw_iconst (v := (1 : Int32)) d_Mo_plain_44 (by decide) ?_
    refine aw_isub d_Mo_plain_45 ?_
    refine aw_iload (x := x4) d_Mo_plain_46 rfl ?_
    refine aw_iadd d_Mo_plain_48 ?_
    obtain ⟨hk9, w⟩ := w
    obtain ⟨j10, hj10a, hj10b, hj10c, w⟩ := w
    refine aw_iaload j10 hk9 hj10a hj10b hj10c d_Mo_plain_49 ?_
    obtain ⟨hk11, w⟩ := w
    obtain ⟨j12, hj12a, hj12b, hj12c, w⟩ := w
    refine aw_iastore j12 hk11 hj12a hj12b hj12c d_Mo_plain_50 ?_
    refine aw_iconst (v := (0 : Int32)) d_Mo_plain_51 (by decide) ?_
    refine aw_istore d_Mo_plain_52 (by decide) ?_
    exact aw_weak (lv' := [some (.ref a0), some (.int x1), some (.int x2), some (.int x3), some (.int x4), some (.int (0 : Int32))]) ⟨rfl, rfl, rfl, rfl, rfl, rfl, trivial⟩ w
set_option maxRecDepth 20000 in
theorem r_Mo_plain_54 {E : zE} {K n : Nat → Nat} {I : Nat → Nat → Int32} {F : Nat → Nat → Option Nat} {J : Nat → Nat → Int64} {cb sb : Nat} {Q : zO → zH → Prop} {a0 : Nat} {x1 : Int32} {x2 : Int32} {x3 : Int32} {x4 : Int32} {x5 : Int32}
    (w : (((100 : Int32) ≤ x5 → AW E m_Mo_plain (K, n, I, F, J) cb sb Q 21 [some (.ref a0), some (.int x1), some (.int x2), some (.int x3), some (.int (x4 + (1 : Int32))), none] []) ∧ (¬ (100 : Int32) ≤ x5 → K a0 = 9 ∧ (∃ b3 : Nat, F a0 40 = some b3 ∧ (∃ b4 : Nat, F a0 24 = some b4 ∧ K b4 = 21 ∧ (∃ j6 : Nat, ((((15000 : Int32) * x1) + ((100 : Int32) * ((x3 - (1 : Int32)) + x4))) + x5) = nI j6 ∧ j6 < n b4 ∧ j6 < 2147483648 ∧ K b3 = 21 ∧ (∃ j8 : Nat, (((100 : Int32) * x4) + x5) = nI j8 ∧ j8 < n b3 ∧ j8 < 2147483648 ∧ AW E m_Mo_plain (K, n, (zup I b3 j8 (I b4 j6)), F, J) cb sb Q 54 [some (.ref a0), some (.int x1), some (.int x2), some (.int x3), some (.int x4), some (.int (x5 + (1 : Int32)))] []))))))) :
    AW E m_Mo_plain (K, n, I, F, J) cb sb Q 54 [some (.ref a0), some (.int x1), some (.int x2), some (.int x3), some (.int x4), some (.int x5)] [] := by
  refine aw_iload (x := x5) d_Mo_plain_54 rfl ?_
  refine aw_bipush (v := (100 : Int32)) d_Mo_plain_56 (by decide) ?_
  refine aw_icmp_ge (tgt := 103) d_Mo_plain_58 (by decide) (fun cc1 => ?_) (fun cc1 => ?_)
  · replace w := w.1 cc1
    refine aw_iinc (v := (x4 + (1 : Int32))) d_Mo_plain_103 rfl (by rfl) (by decide) ?_
    refine aw_goto (tgt := 21) d_Mo_plain_106 (by decide) ?_
    exact aw_weak (lv' := [some (.ref a0), some (.int x1), some (.int x2), some (.int x3), some (.int (x4 + (1 : Int32))), none]) ⟨rfl, rfl, rfl, rfl, rfl, trivial⟩ w
  · replace w := w.2 cc1
    refine aw_aload_n (x := a0) d_Mo_plain_61 rfl ?_
    obtain ⟨hk2, w⟩ := w
    obtain ⟨b3, hb3, w⟩ := w
    refine gs_Mo_108 rfl hk2 hb3 d_Mo_plain_62 ?_
    refine aw_bipush (v := (100 : Int32)) d_Mo_plain_65 (by decide) ?_
    refine aw_iload (x := x4) d_Mo_plain_67 rfl ?_
    refine aw_imul d_Mo_plain_69 ?_
    refine aw_iload (x := x5) d_Mo_plain_70 rfl ?_
    refine aw_iadd d_Mo_plain_72 ?_
    refine aw_aload_n (x := a0) d_Mo_plain_73 rfl ?_
    obtain ⟨b4, hb4, w⟩ := w
    refine gs_Mo_62 rfl hk2 hb4 d_Mo_plain_74 ?_
    refine aw_sipush (v := (15000 : Int32)) d_Mo_plain_77 (by decide) ?_
    refine aw_iload_n (x := x1) d_Mo_plain_80 rfl ?_
    refine aw_imul d_Mo_plain_81 ?_
    refine aw_bipush (v := (100 : Int32)) d_Mo_plain_82 (by decide) ?_
    refine aw_iload_n (x := x3) d_Mo_plain_84 rfl ?_
    refine aw_iconst (v := (1 : Int32)) d_Mo_plain_85 (by decide) ?_
    refine aw_isub d_Mo_plain_86 ?_
    refine aw_iload (x := x4) d_Mo_plain_87 rfl ?_
    refine aw_iadd d_Mo_plain_89 ?_
    refine aw_imul d_Mo_plain_90 ?_
    refine aw_iadd d_Mo_plain_91 ?_
    refine aw_iload (x := x5) d_Mo_plain_92 rfl ?_
    refine aw_iadd d_Mo_plain_94 ?_
    obtain ⟨hk5, w⟩ := w
    obtain ⟨j6, hj6a, hj6b, hj6c, w⟩ := w
    refine aw_iaload j6 hk5 hj6a hj6b hj6c d_Mo_plain_95 ?_
    obtain ⟨hk7, w⟩ := w
    obtain ⟨j8, hj8a, hj8b, hj8c, w⟩ := w
    refine aw_iastore j8 hk7 hj8a hj8b hj8c d_Mo_plain_96 ?_
    refine aw_iinc (v := (x5 + (1 : Int32))) d_Mo_plain_97 rfl (by rfl) (by decide) ?_
    refine aw_goto (tgt := 54) d_Mo_plain_100 (by decide) ?_
    exact aw_weak (lv' := [some (.ref a0), some (.int x1), some (.int x2), some (.int x3), some (.int x4), some (.int (x5 + (1 : Int32)))]) ⟨rfl, rfl, rfl, rfl, rfl, rfl, trivial⟩ w
set_option maxRecDepth 20000 in
theorem r_Mo_plain_135 {E : zE} {K n : Nat → Nat} {I : Nat → Nat → Int32} {F : Nat → Nat → Option Nat} {J : Nat → Nat → Int64} {cb sb : Nat} {Q : zO → zH → Prop} {a0 : Nat} {x1 : Int32} {x3 : Int32} {sx0 : Int32}
    (w : ((0 < sx0 → AW E m_Mo_plain (K, n, I, F, J) cb sb Q 9 [some (.ref a0), some (.int x1), some (.int (0 : Int32)), some (.int (x3 + (1 : Int32))), none, none] []) ∧ (¬ 0 < sx0 → AW E m_Mo_plain (K, n, I, F, J) cb sb Q 9 [some (.ref a0), some (.int x1), some (.int (1 : Int32)), some (.int (x3 + (1 : Int32))), none, none] []))) :
    AW E m_Mo_plain (K, n, I, F, J) cb sb Q 135 [some (.ref a0), some (.int x1), none, some (.int x3), none, none] [.int sx0] := by
  refine aw_if_gt (tgt := 142) d_Mo_plain_135 (by decide) (fun cc1 => ?_) (fun cc1 => ?_)
  · replace w := w.1 cc1
    refine aw_iconst (v := (0 : Int32)) d_Mo_plain_142 (by decide) ?_
    refine aw_istore_n d_Mo_plain_143 (by decide) ?_
    refine aw_iinc (v := (x3 + (1 : Int32))) d_Mo_plain_144 rfl (by rfl) (by decide) ?_
    refine aw_goto (tgt := 9) d_Mo_plain_147 (by decide) ?_
    exact aw_weak (lv' := [some (.ref a0), some (.int x1), some (.int (0 : Int32)), some (.int (x3 + (1 : Int32))), none, none]) ⟨rfl, rfl, rfl, rfl, trivial⟩ w
  · replace w := w.2 cc1
    refine aw_iconst (v := (1 : Int32)) d_Mo_plain_138 (by decide) ?_
    refine aw_goto (tgt := 143) d_Mo_plain_139 (by decide) ?_
    refine aw_istore_n d_Mo_plain_143 (by decide) ?_
    refine aw_iinc (v := (x3 + (1 : Int32))) d_Mo_plain_144 rfl (by rfl) (by decide) ?_
    refine aw_goto (tgt := 9) d_Mo_plain_147 (by decide) ?_
    exact aw_weak (lv' := [some (.ref a0), some (.int x1), some (.int (1 : Int32)), some (.int (x3 + (1 : Int32))), none, none]) ⟨rfl, rfl, rfl, rfl, trivial⟩ w
set_option maxRecDepth 20000 in
theorem r_Mo_count_0 {E : zE} {K n : Nat → Nat} {I : Nat → Nat → Int32} {F : Nat → Nat → Option Nat} {J : Nat → Nat → Int64} {cb sb : Nat} {Q : zO → zH → Prop} {a0 : Nat} {x1 : Int32}
    (w : K a0 = 9 ∧ ((x1 = 0 → (∃ b3 : Nat, F a0 5 = some b3 ∧ K b3 = 21 ∧ (∃ j5 : Nat, (0 : Int32) = nI j5 ∧ j5 < n b3 ∧ j5 < 2147483648 ∧ Q (.inl (some (.int ((zup I a0 0 (0 : Int32)) b3 j5)))) (K, n, (zup I a0 0 (0 : Int32)), F, J)))) ∧ (x1 = 1 → Q (.inl (some (.int ((zup I a0 0 (0 : Int32)) a0 15)))) (K, n, (zup I a0 0 (0 : Int32)), F, J)) ∧ (x1 = 2 → (∃ b6 : Nat, F a0 5 = some b6 ∧ K b6 = 21 ∧ (∃ j8 : Nat, (x1 - (1 : Int32)) = nI j8 ∧ j8 < n b6 ∧ j8 < 2147483648 ∧ Q (.inl (some (.int ((zup I a0 0 (0 : Int32)) b6 j8)))) (K, n, (zup I a0 0 (0 : Int32)), F, J)))) ∧ (x1 = 3 → (∃ b9 : Nat, F a0 5 = some b9 ∧ K b9 = 21 ∧ (∃ j11 : Nat, (x1 - (1 : Int32)) = nI j11 ∧ j11 < n b9 ∧ j11 < 2147483648 ∧ Q (.inl (some (.int ((zup I a0 0 (0 : Int32)) b9 j11)))) (K, n, (zup I a0 0 (0 : Int32)), F, J)))) ∧ (x1 = 4 → (∃ b12 : Nat, F a0 5 = some b12 ∧ K b12 = 21 ∧ (∃ j14 : Nat, (x1 - (1 : Int32)) = nI j14 ∧ j14 < n b12 ∧ j14 < 2147483648 ∧ Q (.inl (some (.int ((zup I a0 0 (0 : Int32)) b12 j14)))) (K, n, (zup I a0 0 (0 : Int32)), F, J)))) ∧ (x1 = 5 → (∃ b15 : Nat, F a0 5 = some b15 ∧ K b15 = 21 ∧ (∃ j17 : Nat, (x1 - (1 : Int32)) = nI j17 ∧ j17 < n b15 ∧ j17 < 2147483648 ∧ Q (.inl (some (.int ((zup I a0 0 (0 : Int32)) b15 j17)))) (K, n, (zup I a0 0 (0 : Int32)), F, J)))) ∧ (x1 = 6 → (∃ b18 : Nat, F a0 26 = some b18 ∧ K b18 = 21 ∧ (∃ j20 : Nat, (x1 - (6 : Int32)) = nI j20 ∧ j20 < n b18 ∧ j20 < 2147483648 ∧ Q (.inl (some (.int ((zup I a0 0 (0 : Int32)) b18 j20)))) (K, n, (zup I a0 0 (0 : Int32)), F, J)))) ∧ (x1 = 7 → (∃ b21 : Nat, F a0 26 = some b21 ∧ K b21 = 21 ∧ (∃ j23 : Nat, (x1 - (6 : Int32)) = nI j23 ∧ j23 < n b21 ∧ j23 < 2147483648 ∧ Q (.inl (some (.int ((zup I a0 0 (0 : Int32)) b21 j23)))) (K, n, (zup I a0 0 (0 : Int32)), F, J)))) ∧ (x1 = 8 → (∃ b24 : Nat, F a0 26 = some b24 ∧ K b24 = 21 ∧ (∃ j26 : Nat, (x1 - (6 : Int32)) = nI j26 ∧ j26 < n b24 ∧ j26 < 2147483648 ∧ Q (.inl (some (.int ((zup I a0 0 (0 : Int32)) b24 j26)))) (K, n, (zup I a0 0 (0 : Int32)), F, J)))) ∧ (¬ x1 = 0 → ¬ x1 = 1 → ¬ x1 = 2 → ¬ x1 = 3 → ¬ x1 = 4 → ¬ x1 = 5 → ¬ x1 = 6 → ¬ x1 = 7 → ¬ x1 = 8 → Q (.inl (some (.int ((-1) : Int32)))) (K, n, (zup I a0 0 (0 : Int32)), F, J)))) :
    AW E m_Mo_count (K, n, I, F, J) cb sb Q 0 [some (.ref a0), some (.int x1)] [] := by
  refine aw_aload_n (x := a0) d_Mo_count_0 rfl ?_
  refine aw_iconst (v := (0 : Int32)) d_Mo_count_1 (by decide) ?_
  obtain ⟨hk1, w⟩ := w
  refine pf_Mo_114 rfl hk1 d_Mo_count_2 ?_
  refine aw_iload_n (x := x1) d_Mo_count_5 rfl ?_
  by_cases cc2_0 : x1 = 0
  · replace w := w.1 cc2_0
    refine aw_tableIn (off := 50) (tgt := 56) d_Mo_count_6 (by rw [cc2_0]; decide) (by rw [cc2_0]; decide) (by rw [cc2_0]; rfl) (by decide) ?_
    refine aw_aload_n (x := a0) d_Mo_count_56 rfl ?_
    obtain ⟨b3, hb3, w⟩ := w
    refine gs_Mo_16 rfl hk1 hb3 d_Mo_count_57 ?_
    refine aw_iconst (v := (0 : Int32)) d_Mo_count_60 (by decide) ?_
    obtain ⟨hk4, w⟩ := w
    obtain ⟨j5, hj5a, hj5b, hj5c, w⟩ := w
    refine aw_iaload j5 hk4 hj5a hj5b hj5c d_Mo_count_61 ?_
    exact aw_ireturn .int rfl rfl d_Mo_count_62 w
  by_cases cc2_1 : x1 = 1
  · replace w := w.2.1 cc2_1
    refine aw_tableIn (off := 57) (tgt := 63) d_Mo_count_6 (by rw [cc2_1]; decide) (by rw [cc2_1]; decide) (by rw [cc2_1]; rfl) (by decide) ?_
    refine aw_aload_n (x := a0) d_Mo_count_63 rfl ?_
    refine gf_Mo_191 rfl hk1 d_Mo_count_64 ?_
    exact aw_ireturn .int rfl rfl d_Mo_count_67 w
  by_cases cc2_2 : x1 = 2
  · replace w := w.2.2.1 cc2_2
    refine aw_tableIn (off := 62) (tgt := 68) d_Mo_count_6 (by rw [cc2_2]; decide) (by rw [cc2_2]; decide) (by rw [cc2_2]; rfl) (by decide) ?_
    refine aw_aload_n (x := a0) d_Mo_count_68 rfl ?_
    obtain ⟨b6, hb6, w⟩ := w
    refine gs_Mo_16 rfl hk1 hb6 d_Mo_count_69 ?_
    refine aw_iload_n (x := x1) d_Mo_count_72 rfl ?_
    refine aw_iconst (v := (1 : Int32)) d_Mo_count_73 (by decide) ?_
    refine aw_isub d_Mo_count_74 ?_
    obtain ⟨hk7, w⟩ := w
    obtain ⟨j8, hj8a, hj8b, hj8c, w⟩ := w
    refine aw_iaload j8 hk7 hj8a hj8b hj8c d_Mo_count_75 ?_
    exact aw_ireturn .int rfl rfl d_Mo_count_76 w
  by_cases cc2_3 : x1 = 3
  · replace w := w.2.2.2.1 cc2_3
    refine aw_tableIn (off := 62) (tgt := 68) d_Mo_count_6 (by rw [cc2_3]; decide) (by rw [cc2_3]; decide) (by rw [cc2_3]; rfl) (by decide) ?_
    refine aw_aload_n (x := a0) d_Mo_count_68 rfl ?_
    obtain ⟨b9, hb9, w⟩ := w
    refine gs_Mo_16 rfl hk1 hb9 d_Mo_count_69 ?_
    refine aw_iload_n (x := x1) d_Mo_count_72 rfl ?_
    refine aw_iconst (v := (1 : Int32)) d_Mo_count_73 (by decide) ?_
    refine aw_isub d_Mo_count_74 ?_
    obtain ⟨hk10, w⟩ := w
    obtain ⟨j11, hj11a, hj11b, hj11c, w⟩ := w
    refine aw_iaload j11 hk10 hj11a hj11b hj11c d_Mo_count_75 ?_
    exact aw_ireturn .int rfl rfl d_Mo_count_76 w
  by_cases cc2_4 : x1 = 4
  · replace w := w.2.2.2.2.1 cc2_4
    refine aw_tableIn (off := 62) (tgt := 68) d_Mo_count_6 (by rw [cc2_4]; decide) (by rw [cc2_4]; decide) (by rw [cc2_4]; rfl) (by decide) ?_
    refine aw_aload_n (x := a0) d_Mo_count_68 rfl ?_
    obtain ⟨b12, hb12, w⟩ := w
    refine gs_Mo_16 rfl hk1 hb12 d_Mo_count_69 ?_
    refine aw_iload_n (x := x1) d_Mo_count_72 rfl ?_
    refine aw_iconst (v := (1 : Int32)) d_Mo_count_73 (by decide) ?_
    refine aw_isub d_Mo_count_74 ?_
    obtain ⟨hk13, w⟩ := w
    obtain ⟨j14, hj14a, hj14b, hj14c, w⟩ := w
    refine aw_iaload j14 hk13 hj14a hj14b hj14c d_Mo_count_75 ?_
    exact aw_ireturn .int rfl rfl d_Mo_count_76 w
  by_cases cc2_5 : x1 = 5
  · replace w := w.2.2.2.2.2.1 cc2_5
    refine aw_tableIn (off := 62) (tgt := 68) d_Mo_count_6 (by rw [cc2_5]; decide) (by rw [cc2_5]; decide) (by rw [cc2_5]; rfl) (by decide) ?_
    refine aw_aload_n (x := a0) d_Mo_count_68 rfl ?_
    obtain ⟨b15, hb15, w⟩ := w
    refine gs_Mo_16 rfl hk1 hb15 d_Mo_count_69 ?_
    refine aw_iload_n (x := x1) d_Mo_count_72 rfl ?_
    refine aw_iconst (v := (1 : Int32)) d_Mo_count_73 (by decide) ?_
    refine aw_isub d_Mo_count_74 ?_
    obtain ⟨hk16, w⟩ := w
    obtain ⟨j17, hj17a, hj17b, hj17c, w⟩ := w
    refine aw_iaload j17 hk16 hj17a hj17b hj17c d_Mo_count_75 ?_
    exact aw_ireturn .int rfl rfl d_Mo_count_76 w
  by_cases cc2_6 : x1 = 6
  · replace w := w.2.2.2.2.2.2.1 cc2_6
    refine aw_tableIn (off := 71) (tgt := 77) d_Mo_count_6 (by rw [cc2_6]; decide) (by rw [cc2_6]; decide) (by rw [cc2_6]; rfl) (by decide) ?_
    refine aw_aload_n (x := a0) d_Mo_count_77 rfl ?_
    obtain ⟨b18, hb18, w⟩ := w
    refine gs_Mo_68 rfl hk1 hb18 d_Mo_count_78 ?_
    refine aw_iload_n (x := x1) d_Mo_count_81 rfl ?_
    refine aw_bipush (v := (6 : Int32)) d_Mo_count_82 (by decide) ?_
    refine aw_isub d_Mo_count_84 ?_
    obtain ⟨hk19, w⟩ := w
    obtain ⟨j20, hj20a, hj20b, hj20c, w⟩ := w
    refine aw_iaload j20 hk19 hj20a hj20b hj20c d_Mo_count_85 ?_
    exact aw_ireturn .int rfl rfl d_Mo_count_86 w
  by_cases cc2_7 : x1 = 7
  · replace w := w.2.2.2.2.2.2.2.1 cc2_7
    refine aw_tableIn (off := 71) (tgt := 77) d_Mo_count_6 (by rw [cc2_7]; decide) (by rw [cc2_7]; decide) (by rw [cc2_7]; rfl) (by decide) ?_
    refine aw_aload_n (x := a0) d_Mo_count_77 rfl ?_
    obtain ⟨b21, hb21, w⟩ := w
    refine gs_Mo_68 rfl hk1 hb21 d_Mo_count_78 ?_
    refine aw_iload_n (x := x1) d_Mo_count_81 rfl ?_
    refine aw_bipush (v := (6 : Int32)) d_Mo_count_82 (by decide) ?_
    refine aw_isub d_Mo_count_84 ?_
    obtain ⟨hk22, w⟩ := w
    obtain ⟨j23, hj23a, hj23b, hj23c, w⟩ := w
    refine aw_iaload j23 hk22 hj23a hj23b hj23c d_Mo_count_85 ?_
    exact aw_ireturn .int rfl rfl d_Mo_count_86 w
  by_cases cc2_8 : x1 = 8
  · replace w := w.2.2.2.2.2.2.2.2.1 cc2_8
    refine aw_tableIn (off := 71) (tgt := 77) d_Mo_count_6 (by rw [cc2_8]; decide) (by rw [cc2_8]; decide) (by rw [cc2_8]; rfl) (by decide) ?_
    refine aw_aload_n (x := a0) d_Mo_count_77 rfl ?_
    obtain ⟨b24, hb24, w⟩ := w
    refine gs_Mo_68 rfl hk1 hb24 d_Mo_count_78 ?_
    refine aw_iload_n (x := x1) d_Mo_count_81 rfl ?_
    refine aw_bipush (v := (6 : Int32)) d_Mo_count_82 (by decide) ?_
    refine aw_isub d_Mo_count_84 ?_
    obtain ⟨hk25, w⟩ := w
    obtain ⟨j26, hj26a, hj26b, hj26c, w⟩ := w
    refine aw_iaload j26 hk25 hj26a hj26b hj26c d_Mo_count_85 ?_
    exact aw_ireturn .int rfl rfl d_Mo_count_86 w
  replace w := w.2.2.2.2.2.2.2.2.2 cc2_0 cc2_1 cc2_2 cc2_3 cc2_4 cc2_5 cc2_6 cc2_7 cc2_8
  have cc2_0_t : ¬ x1.toInt = 0 := lv_neT cc2_0 rfl
  have cc2_1_t : ¬ x1.toInt = 1 := lv_neT cc2_1 rfl
  have cc2_2_t : ¬ x1.toInt = 2 := lv_neT cc2_2 rfl
  have cc2_3_t : ¬ x1.toInt = 3 := lv_neT cc2_3 rfl
  have cc2_4_t : ¬ x1.toInt = 4 := lv_neT cc2_4 rfl
  have cc2_5_t : ¬ x1.toInt = 5 := lv_neT cc2_5 rfl
  have cc2_6_t : ¬ x1.toInt = 6 := lv_neT cc2_6 rfl
  have cc2_7_t : ¬ x1.toInt = 7 := lv_neT cc2_7 rfl
  have cc2_8_t : ¬ x1.toInt = 8 := lv_neT cc2_8 rfl
  refine aw_tableOut (tgt := 87) d_Mo_count_6 (by omega) (by decide) ?_
  refine aw_iconst (v := ((-1) : Int32)) d_Mo_count_87 (by decide) ?_
  exact aw_ireturn .int rfl rfl d_Mo_count_88 w
