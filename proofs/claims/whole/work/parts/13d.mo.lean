set_option maxRecDepth 20000 in
theorem r_Mo_record_0 {E : zE} {K n : Nat → Nat} {I : Nat → Nat → Int32} {F : Nat → Nat → Option Nat} {J : Nat → Nat → Int64} {cb sb : Nat} {Q : zO → zH → Prop} {a0 : Nat} {x1 : Int32}
    (w : K a0 = 9 ∧ ((x1 < 0 → Q (.inl (some (.int ((-1) : Int32)))) (K, n, (zup I a0 0 (0 : Int32)), F, J)) ∧ (¬ x1 < 0 → (((2 : Int32) < x1 → Q (.inl (some (.int ((-1) : Int32)))) (K, n, (zup I a0 0 (0 : Int32)), F, J)) ∧ (¬ (2 : Int32) < x1 → ((¬ ((zup I a0 0 (0 : Int32)) a0 15) = (150 : Int32) → (∃ b5 : Nat, F a0 14 = some b5 ∧ K b5 = 21 ∧ (∃ j7 : Nat, ((zup I a0 0 (0 : Int32)) a0 15) = nI j7 ∧ j7 < n b5 ∧ j7 < 2147483648 ∧ Q (.inl (some (.int (((zup (zup (zup I a0 0 (0 : Int32)) b5 j7 x1) a0 15 (((zup (zup I a0 0 (0 : Int32)) b5 j7 x1) a0 15) + (1 : Int32))) a0 15) - (1 : Int32))))) (K, n, (zup (zup (zup I a0 0 (0 : Int32)) b5 j7 x1) a0 15 (((zup (zup I a0 0 (0 : Int32)) b5 j7 x1) a0 15) + (1 : Int32))), F, J)))) ∧ (((zup I a0 0 (0 : Int32)) a0 15) = (150 : Int32) → Q (.inl (some (.int ((-1) : Int32)))) (K, n, (zup I a0 0 (0 : Int32)), F, J)))))))) :
    AW E m_Mo_record (K, n, I, F, J) cb sb Q 0 [some (.ref a0), some (.int x1)] [] := by
  refine aw_aload_n (x := a0) d_Mo_record_0 rfl ?_
  refine aw_iconst (v := (0 : Int32)) d_Mo_record_1 (by decide) ?_
  obtain ⟨hk1, w⟩ := w
  refine pf_Mo_114 rfl hk1 d_Mo_record_2 ?_
  refine aw_iload_n (x := x1) d_Mo_record_5 rfl ?_
  refine aw_if_lt (tgt := 24) d_Mo_record_6 (by decide) (fun cc2 => ?_) (fun cc2 => ?_)
  · replace w := w.1 cc2
    refine aw_iconst (v := ((-1) : Int32)) d_Mo_record_24 (by decide) ?_
    exact aw_ireturn .int rfl rfl d_Mo_record_25 w
  · replace w := w.2 cc2
    refine aw_iload_n (x := x1) d_Mo_record_9 rfl ?_
    refine aw_iconst (v := (2 : Int32)) d_Mo_record_10 (by decide) ?_
    refine aw_icmp_gt (tgt := 24) d_Mo_record_11 (by decide) (fun cc3 => ?_) (fun cc3 => ?_)
    · replace w := w.1 cc3
      refine aw_iconst (v := ((-1) : Int32)) d_Mo_record_24 (by decide) ?_
      exact aw_ireturn .int rfl rfl d_Mo_record_25 w
    · replace w := w.2 cc3
      refine aw_aload_n (x := a0) d_Mo_record_14 rfl ?_
      refine gf_Mo_191 rfl hk1 d_Mo_record_15 ?_
      refine aw_sipush (v := (150 : Int32)) d_Mo_record_18 (by decide) ?_
      refine aw_icmp_ne (tgt := 26) d_Mo_record_21 (by decide) (fun cc4 => ?_) (fun cc4 => ?_)
      · replace w := w.1 cc4
        refine aw_aload_n (x := a0) d_Mo_record_26 rfl ?_
        obtain ⟨b5, hb5, w⟩ := w
        refine gs_Mo_43 rfl hk1 hb5 d_Mo_record_27 ?_
        refine aw_aload_n (x := a0) d_Mo_record_30 rfl ?_
        refine gf_Mo_191 rfl hk1 d_Mo_record_31 ?_
        refine aw_iload_n (x := x1) d_Mo_record_34 rfl ?_
        obtain ⟨hk6, w⟩ := w
        obtain ⟨j7, hj7a, hj7b, hj7c, w⟩ := w
        refine aw_iastore j7 hk6 hj7a hj7b hj7c d_Mo_record_35 ?_
        refine aw_aload_n (x := a0) d_Mo_record_36 rfl ?_
        refine aw_dup d_Mo_record_37 rfl ?_
        refine gf_Mo_191 rfl hk1 d_Mo_record_38 ?_
        refine aw_iconst (v := (1 : Int32)) d_Mo_record_41 (by decide) ?_
        refine aw_iadd d_Mo_record_42 ?_
        refine pf_Mo_191 rfl hk1 d_Mo_record_43 ?_
        refine aw_aload_n (x := a0) d_Mo_record_46 rfl ?_
        refine gf_Mo_191 rfl hk1 d_Mo_record_47 ?_
        refine aw_iconst (v := (1 : Int32)) d_Mo_record_50 (by decide) ?_
        refine aw_isub d_Mo_record_51 ?_
        exact aw_ireturn .int rfl rfl d_Mo_record_52 w
      · replace w := w.2 cc4
        refine aw_iconst (v := ((-1) : Int32)) d_Mo_record_24 (by decide) ?_
        exact aw_ireturn .int rfl rfl d_Mo_record_25 w
set_option maxRecDepth 20000 in
theorem r_Mo_octet_0 {E : zE} {K n : Nat → Nat} {I : Nat → Nat → Int32} {F : Nat → Nat → Option Nat} {J : Nat → Nat → Int64} {cb sb : Nat} {Q : zO → zH → Prop} {a0 : Nat} {x1 : Int32} {x2 : Int32} {x3 : Int32}
    (w : ((x1 < 0 → K a0 = 9 ∧ Q (.inl none) (K, n, (zup I a0 0 (1 : Int32)), F, J)) ∧ (¬ x1 < 0 → K a0 = 9 ∧ (((I a0 15) ≤ x1 → Q (.inl none) (K, n, (zup I a0 0 (1 : Int32)), F, J)) ∧ (¬ (I a0 15) ≤ x1 → ((x2 < 0 → Q (.inl none) (K, n, (zup I a0 0 (1 : Int32)), F, J)) ∧ (¬ x2 < 0 → (((100 : Int32) ≤ x2 → Q (.inl none) (K, n, (zup I a0 0 (1 : Int32)), F, J)) ∧ (¬ (100 : Int32) ≤ x2 → (∃ b7 : Nat, F a0 13 = some b7 ∧ K b7 = 21 ∧ (∃ j9 : Nat, x1 = nI j9 ∧ j9 < n b7 ∧ j9 < 2147483648 ∧ AW E m_Mo_octet (K, n, (zup I a0 0 (0 : Int32)), F, J) cb sb Q 57 [some (.ref a0), some (.int x1), some (.int x2), some (.int x3), none, some (.int ((zup I a0 0 (0 : Int32)) b7 j9))] []))))))))))) :
    AW E m_Mo_octet (K, n, I, F, J) cb sb Q 0 [some (.ref a0), some (.int x1), some (.int x2), some (.int x3), none, none] [] := by
  refine aw_iload_n (x := x1) d_Mo_octet_0 rfl ?_
  refine aw_if_lt (tgt := 26) d_Mo_octet_1 (by decide) (fun cc1 => ?_) (fun cc1 => ?_)
  · replace w := w.1 cc1
    refine aw_iconst (v := (0 : Int32)) d_Mo_octet_26 (by decide) ?_
    refine aw_istore d_Mo_octet_27 (by decide) ?_
    refine aw_aload_n (x := a0) d_Mo_octet_29 rfl ?_
    refine aw_iload (x := (0 : Int32)) d_Mo_octet_30 rfl ?_
    refine aw_if_eq (tgt := 39) d_Mo_octet_32 (by decide) (fun _ => ?_) (fun q => absurd (by decide) q)
    refine aw_iconst (v := (1 : Int32)) d_Mo_octet_39 (by decide) ?_
    obtain ⟨hk2, w⟩ := w
    refine pf_Mo_114 rfl hk2 d_Mo_octet_40 ?_
    refine aw_iload (x := (0 : Int32)) d_Mo_octet_43 rfl ?_
    refine aw_if_ne (tgt := 49) d_Mo_octet_45 (by decide) (fun q => absurd q (by decide)) (fun _ => ?_)
    exact aw_return rfl d_Mo_octet_48 w
  · replace w := w.2 cc1
    refine aw_iload_n (x := x1) d_Mo_octet_4 rfl ?_
    refine aw_aload_n (x := a0) d_Mo_octet_5 rfl ?_
    obtain ⟨hk3, w⟩ := w
    refine gf_Mo_191 rfl hk3 d_Mo_octet_6 ?_
    refine aw_icmp_ge (tgt := 26) d_Mo_octet_9 (by decide) (fun cc4 => ?_) (fun cc4 => ?_)
    · replace w := w.1 cc4
      refine aw_iconst (v := (0 : Int32)) d_Mo_octet_26 (by decide) ?_
      refine aw_istore d_Mo_octet_27 (by decide) ?_
      refine aw_aload_n (x := a0) d_Mo_octet_29 rfl ?_
      refine aw_iload (x := (0 : Int32)) d_Mo_octet_30 rfl ?_
      refine aw_if_eq (tgt := 39) d_Mo_octet_32 (by decide) (fun _ => ?_) (fun q => absurd (by decide) q)
      refine aw_iconst (v := (1 : Int32)) d_Mo_octet_39 (by decide) ?_
      refine pf_Mo_114 rfl hk3 d_Mo_octet_40 ?_
      refine aw_iload (x := (0 : Int32)) d_Mo_octet_43 rfl ?_
      refine aw_if_ne (tgt := 49) d_Mo_octet_45 (by decide) (fun q => absurd q (by decide)) (fun _ => ?_)
      exact aw_return rfl d_Mo_octet_48 w
    · replace w := w.2 cc4
      refine aw_iload_n (x := x2) d_Mo_octet_12 rfl ?_
      refine aw_if_lt (tgt := 26) d_Mo_octet_13 (by decide) (fun cc5 => ?_) (fun cc5 => ?_)
      · replace w := w.1 cc5
        refine aw_iconst (v := (0 : Int32)) d_Mo_octet_26 (by decide) ?_
        refine aw_istore d_Mo_octet_27 (by decide) ?_
        refine aw_aload_n (x := a0) d_Mo_octet_29 rfl ?_
        refine aw_iload (x := (0 : Int32)) d_Mo_octet_30 rfl ?_
        refine aw_if_eq (tgt := 39) d_Mo_octet_32 (by decide) (fun _ => ?_) (fun q => absurd (by decide) q)
        refine aw_iconst (v := (1 : Int32)) d_Mo_octet_39 (by decide) ?_
        refine pf_Mo_114 rfl hk3 d_Mo_octet_40 ?_
        refine aw_iload (x := (0 : Int32)) d_Mo_octet_43 rfl ?_
        refine aw_if_ne (tgt := 49) d_Mo_octet_45 (by decide) (fun q => absurd q (by decide)) (fun _ => ?_)
        exact aw_return rfl d_Mo_octet_48 w
      · replace w := w.2 cc5
        refine aw_iload_n (x := x2) d_Mo_octet_16 rfl ?_
        refine aw_bipush (v := (100 : Int32)) d_Mo_octet_17 (by decide) ?_
        refine aw_icmp_ge (tgt := 26) d_Mo_octet_19 (by decide) (fun cc6 => ?_) (fun cc6 => ?_)
        · replace w := w.1 cc6
          refine aw_iconst (v := (0 : Int32)) d_Mo_octet_26 (by decide) ?_
          refine aw_istore d_Mo_octet_27 (by decide) ?_
          refine aw_aload_n (x := a0) d_Mo_octet_29 rfl ?_
          refine aw_iload (x := (0 : Int32)) d_Mo_octet_30 rfl ?_
          refine aw_if_eq (tgt := 39) d_Mo_octet_32 (by decide) (fun _ => ?_) (fun q => absurd (by decide) q)
          refine aw_iconst (v := (1 : Int32)) d_Mo_octet_39 (by decide) ?_
          refine pf_Mo_114 rfl hk3 d_Mo_octet_40 ?_
          refine aw_iload (x := (0 : Int32)) d_Mo_octet_43 rfl ?_
          refine aw_if_ne (tgt := 49) d_Mo_octet_45 (by decide) (fun q => absurd q (by decide)) (fun _ => ?_)
          exact aw_return rfl d_Mo_octet_48 w
        · replace w := w.2 cc6
          refine aw_iconst (v := (1 : Int32)) d_Mo_octet_22 (by decide) ?_
          refine aw_goto (tgt := 27) d_Mo_octet_23 (by decide) ?_
          refine aw_istore d_Mo_octet_27 (by decide) ?_
          refine aw_aload_n (x := a0) d_Mo_octet_29 rfl ?_
          refine aw_iload (x := (1 : Int32)) d_Mo_octet_30 rfl ?_
          refine aw_if_eq (tgt := 39) d_Mo_octet_32 (by decide) (fun q => absurd q (by decide)) (fun _ => ?_)
          refine aw_iconst (v := (0 : Int32)) d_Mo_octet_35 (by decide) ?_
          refine aw_goto (tgt := 40) d_Mo_octet_36 (by decide) ?_
          refine pf_Mo_114 rfl hk3 d_Mo_octet_40 ?_
          refine aw_iload (x := (1 : Int32)) d_Mo_octet_43 rfl ?_
          refine aw_if_ne (tgt := 49) d_Mo_octet_45 (by decide) (fun _ => ?_) (fun q => absurd q (by decide))
          refine aw_aload_n (x := a0) d_Mo_octet_49 rfl ?_
          obtain ⟨b7, hb7, w⟩ := w
          refine gs_Mo_40 rfl hk3 hb7 d_Mo_octet_50 ?_
          refine aw_iload_n (x := x1) d_Mo_octet_53 rfl ?_
          obtain ⟨hk8, w⟩ := w
          obtain ⟨j9, hj9a, hj9b, hj9c, w⟩ := w
          refine aw_iaload j9 hk8 hj9a hj9b hj9c d_Mo_octet_54 ?_
          refine aw_istore d_Mo_octet_55 (by decide) ?_
          exact aw_weak (lv' := [some (.ref a0), some (.int x1), some (.int x2), some (.int x3), none, some (.int ((zup I a0 0 (0 : Int32)) b7 j9))]) ⟨rfl, rfl, rfl, rfl, rfl, trivial⟩ w
set_option maxRecDepth 20000 in
theorem r_Mo_octet_57 {E : zE} {K n : Nat → Nat} {I : Nat → Nat → Int32} {F : Nat → Nat → Option Nat} {J : Nat → Nat → Int64} {cb sb : Nat} {Q : zO → zH → Prop} {a0 : Nat} {x1 : Int32} {x2 : Int32} {x3 : Int32} {x5 : Int32}
    (w : ((x2 ≤ x5 → K a0 = 9 ∧ (∃ b3 : Nat, F a0 12 = some b3 ∧ K b3 = 21 ∧ (∃ j5 : Nat, (((100 : Int32) * x1) + x2) = nI j5 ∧ j5 < n b3 ∧ j5 < 2147483648 ∧ (∃ b6 : Nat, F a0 13 = some b6 ∧ K b6 = 21 ∧ (∃ j8 : Nat, x1 = nI j8 ∧ j8 < n b6 ∧ j8 < 2147483648 ∧ ((x2 < ((zup I b3 j5 (x3 &&& (255 : Int32))) b6 j8) → Q (.inl none) (K, n, (zup (zup I b3 j5 (x3 &&& (255 : Int32))) b6 j8 ((zup I b3 j5 (x3 &&& (255 : Int32))) b6 j8)), F, J)) ∧ (¬ x2 < ((zup I b3 j5 (x3 &&& (255 : Int32))) b6 j8) → Q (.inl none) (K, n, (zup (zup I b3 j5 (x3 &&& (255 : Int32))) b6 j8 (x2 + (1 : Int32))), F, J)))))))) ∧ (¬ x2 ≤ x5 → K a0 = 9 ∧ (∃ b11 : Nat, F a0 12 = some b11 ∧ K b11 = 21 ∧ (∃ j13 : Nat, (((100 : Int32) * x1) + x5) = nI j13 ∧ j13 < n b11 ∧ j13 < 2147483648 ∧ AW E m_Mo_octet (K, n, (zup I b11 j13 (32 : Int32)), F, J) cb sb Q 57 [some (.ref a0), some (.int x1), some (.int x2), some (.int x3), none, some (.int (x5 + (1 : Int32)))] []))))) :
    AW E m_Mo_octet (K, n, I, F, J) cb sb Q 57 [some (.ref a0), some (.int x1), some (.int x2), some (.int x3), none, some (.int x5)] [] := by
  refine aw_iload (x := x5) d_Mo_octet_57 rfl ?_
  refine aw_iload_n (x := x2) d_Mo_octet_59 rfl ?_
  refine aw_icmp_ge (tgt := 83) d_Mo_octet_60 (by decide) (fun cc1 => ?_) (fun cc1 => ?_)
  · replace w := w.1 cc1
    refine aw_aload_n (x := a0) d_Mo_octet_83 rfl ?_
    obtain ⟨hk2, w⟩ := w
    obtain ⟨b3, hb3, w⟩ := w
    refine gs_Mo_37 rfl hk2 hb3 d_Mo_octet_84 ?_
    refine aw_bipush (v := (100 : Int32)) d_Mo_octet_87 (by decide) ?_
    refine aw_iload_n (x := x1) d_Mo_octet_89 rfl ?_
    refine aw_imul d_Mo_octet_90 ?_
    refine aw_iload_n (x := x2) d_Mo_octet_91 rfl ?_
    refine aw_iadd d_Mo_octet_92 ?_
    refine aw_iload_n (x := x3) d_Mo_octet_93 rfl ?_
    refine aw_sipush (v := (255 : Int32)) d_Mo_octet_94 (by decide) ?_
    refine aw_iand d_Mo_octet_97 ?_
    obtain ⟨hk4, w⟩ := w
    obtain ⟨j5, hj5a, hj5b, hj5c, w⟩ := w
    refine aw_iastore j5 hk4 hj5a hj5b hj5c d_Mo_octet_98 ?_
    refine aw_aload_n (x := a0) d_Mo_octet_99 rfl ?_
    obtain ⟨b6, hb6, w⟩ := w
    refine gs_Mo_40 rfl hk2 hb6 d_Mo_octet_100 ?_
    refine aw_iload_n (x := x1) d_Mo_octet_103 rfl ?_
    refine aw_iload_n (x := x2) d_Mo_octet_104 rfl ?_
    refine aw_aload_n (x := a0) d_Mo_octet_105 rfl ?_
    refine gs_Mo_40 rfl hk2 hb6 d_Mo_octet_106 ?_
    refine aw_iload_n (x := x1) d_Mo_octet_109 rfl ?_
    obtain ⟨hk7, w⟩ := w
    obtain ⟨j8, hj8a, hj8b, hj8c, w⟩ := w
    refine aw_iaload j8 hk7 hj8a hj8b hj8c d_Mo_octet_110 ?_
    refine aw_icmp_lt (tgt := 120) d_Mo_octet_111 (by decide) (fun cc9 => ?_) (fun cc9 => ?_)
    · replace w := w.1 cc9
      refine aw_aload_n (x := a0) d_Mo_octet_120 rfl ?_
      refine gs_Mo_40 rfl hk2 hb6 d_Mo_octet_121 ?_
      refine aw_iload_n (x := x1) d_Mo_octet_124 rfl ?_
      refine aw_iaload j8 hk7 hj8a hj8b hj8c d_Mo_octet_125 ?_
      refine aw_iastore j8 hk7 hj8a hj8b hj8c d_Mo_octet_126 ?_
      exact aw_return rfl d_Mo_octet_127 w
    · replace w := w.2 cc9
      refine aw_iload_n (x := x2) d_Mo_octet_114 rfl ?_
      refine aw_iconst (v := (1 : Int32)) d_Mo_octet_115 (by decide) ?_
      refine aw_iadd d_Mo_octet_116 ?_
      refine aw_goto (tgt := 126) d_Mo_octet_117 (by decide) ?_
      refine aw_iastore j8 hk7 hj8a hj8b hj8c d_Mo_octet_126 ?_
      exact aw_return rfl d_Mo_octet_127 w
  · replace w := w.2 cc1
    refine aw_aload_n (x := a0) d_Mo_octet_63 rfl ?_
    obtain ⟨hk10, w⟩ := w
    obtain ⟨b11, hb11, w⟩ := w
    refine gs_Mo_37 rfl hk10 hb11 d_Mo_octet_64 ?_
    refine aw_bipush (v := (100 : Int32)) d_Mo_octet_67 (by decide) ?_
    refine aw_iload_n (x := x1) d_Mo_octet_69 rfl ?_
    refine aw_imul d_Mo_octet_70 ?_
    refine aw_iload (x := x5) d_Mo_octet_71 rfl ?_
    refine aw_iadd d_Mo_octet_73 ?_
    refine aw_bipush (v := (32 : Int32)) d_Mo_octet_74 (by decide) ?_
    obtain ⟨hk12, w⟩ := w
    obtain ⟨j13, hj13a, hj13b, hj13c, w⟩ := w
    refine aw_iastore j13 hk12 hj13a hj13b hj13c d_Mo_octet_76 ?_
    refine aw_iinc (v := (x5 + (1 : Int32))) d_Mo_octet_77 rfl (by rfl) (by decide) ?_
    refine aw_goto (tgt := 57) d_Mo_octet_80 (by decide) ?_
    exact aw_weak (lv' := [some (.ref a0), some (.int x1), some (.int x2), some (.int x3), none, some (.int (x5 + (1 : Int32)))]) ⟨rfl, rfl, rfl, rfl, rfl, trivial⟩ w
set_option maxRecDepth 20000 in
theorem r_Mo_byteOf_0 {E : zE} {K n : Nat → Nat} {I : Nat → Nat → Int32} {F : Nat → Nat → Option Nat} {J : Nat → Nat → Int64} {cb sb : Nat} {Q : zO → zH → Prop} {a0 : Nat} {a1 : Nat} {x2 : Int32} {x3 : Int32}
    (w : K a1 = 21 ∧ (∃ j2 : Nat, x2 = nI j2 ∧ j2 < n a1 ∧ j2 < 2147483648 ∧ (((I a1 j2) ≤ x3 → Q (.inl (some (.int (32 : Int32)))) (K, n, I, F, J)) ∧ (¬ (I a1 j2) ≤ x3 → K a0 = 21 ∧ (∃ j5 : Nat, (((100 : Int32) * x2) + x3) = nI j5 ∧ j5 < n a0 ∧ j5 < 2147483648 ∧ Q (.inl (some (.int (I a0 j5)))) (K, n, I, F, J)))))) :
    AW E m_Mo_byteOf (K, n, I, F, J) cb sb Q 0 [some (.ref a0), some (.ref a1), some (.int x2), some (.int x3)] [] := by
  refine aw_iload_n (x := x3) d_Mo_byteOf_0 rfl ?_
  refine aw_aload_n (x := a1) d_Mo_byteOf_1 rfl ?_
  refine aw_iload_n (x := x2) d_Mo_byteOf_2 rfl ?_
  obtain ⟨hk1, w⟩ := w
  obtain ⟨j2, hj2a, hj2b, hj2c, w⟩ := w
  refine aw_iaload j2 hk1 hj2a hj2b hj2c d_Mo_byteOf_3 ?_
  refine aw_icmp_ge (tgt := 18) d_Mo_byteOf_4 (by decide) (fun cc3 => ?_) (fun cc3 => ?_)
  · replace w := w.1 cc3
    refine aw_bipush (v := (32 : Int32)) d_Mo_byteOf_18 (by decide) ?_
    exact aw_ireturn .int rfl rfl d_Mo_byteOf_20 w
  · replace w := w.2 cc3
    refine aw_aload_n (x := a0) d_Mo_byteOf_7 rfl ?_
    refine aw_bipush (v := (100 : Int32)) d_Mo_byteOf_8 (by decide) ?_
    refine aw_iload_n (x := x2) d_Mo_byteOf_10 rfl ?_
    refine aw_imul d_Mo_byteOf_11 ?_
    refine aw_iload_n (x := x3) d_Mo_byteOf_12 rfl ?_
    refine aw_iadd d_Mo_byteOf_13 ?_
    obtain ⟨hk4, w⟩ := w
    obtain ⟨j5, hj5a, hj5b, hj5c, w⟩ := w
    refine aw_iaload j5 hk4 hj5a hj5b hj5c d_Mo_byteOf_14 ?_
    refine aw_goto (tgt := 20) d_Mo_byteOf_15 (by decide) ?_
    exact aw_ireturn .int rfl rfl d_Mo_byteOf_20 w
set_option maxRecDepth 20000 in
theorem r_Mo_asNumber_0 {E : zE} {K n : Nat → Nat} {I : Nat → Nat → Int32} {F : Nat → Nat → Option Nat} {J : Nat → Nat → Int64} {cb sb : Nat} {Q : zO → zH → Prop} {a0 : Nat} {a1 : Nat} {x2 : Int32} {x3 : Int32} {x4 : Int32}
    (w : AW E m_Mo_asNumber (K, n, I, F, J) cb sb Q 6 [some (.ref a0), some (.ref a1), some (.int x2), some (.int x3), some (.int x4), some (.long (0 : Int64)), none, some (.int x3), none] []) :
    AW E m_Mo_asNumber (K, n, I, F, J) cb sb Q 0 [some (.ref a0), some (.ref a1), some (.int x2), some (.int x3), some (.int x4), none, none, none, none] [] := by
  refine aw_lconst (v := 0) d_Mo_asNumber_0 (by decide) ?_
  refine aw_lstore d_Mo_asNumber_1 (by decide) ?_
  refine aw_iload_n (x := x3) d_Mo_asNumber_3 rfl ?_
  refine aw_istore d_Mo_asNumber_4 (by decide) ?_
  exact aw_weak (lv' := [some (.ref a0), some (.ref a1), some (.int x2), some (.int x3), some (.int x4), some (.long (0 : Int64)), none, some (.int x3), none]) ⟨rfl, rfl, rfl, rfl, rfl, rfl, rfl, trivial⟩ w
set_option maxRecDepth 20000 in
theorem r_Mo_asNumber_6 {E : zE} {K n : Nat → Nat} {I : Nat → Nat → Int32} {F : Nat → Nat → Option Nat} {J : Nat → Nat → Int64} {cb sb : Nat} {Q : zO → zH → Prop} {a0 : Nat} {a1 : Nat} {x2 : Int32} {x3 : Int32} {x4 : Int32} {y5 : Int64} {x7 : Int32}
    (w : (((x3 + x4) ≤ x7 → Q (.inl (some (.long y5))) (K, n, I, F, J)) ∧ (¬ (x3 + x4) ≤ x7 → AW E m_Mo_byteOf (K, n, I, F, J) 0 0 (zAft E m_Mo_asNumber cb sb Q 20 [some (.ref a0), some (.ref a1), some (.int x2), some (.int x3), some (.int x4), some (.long y5), none, some (.int x7), none] []) 0 [some (.ref a0), some (.ref a1), some (.int x2), some (.int x7)] []))) :
    AW E m_Mo_asNumber (K, n, I, F, J) cb sb Q 6 [some (.ref a0), some (.ref a1), some (.int x2), some (.int x3), some (.int x4), some (.long y5), none, some (.int x7), none] [] := by
  refine aw_iload (x := x7) d_Mo_asNumber_6 rfl ?_
  refine aw_iload_n (x := x3) d_Mo_asNumber_8 rfl ?_
  refine aw_iload (x := x4) d_Mo_asNumber_9 rfl ?_
  refine aw_iadd d_Mo_asNumber_11 ?_
  refine aw_icmp_ge (tgt := 64) d_Mo_asNumber_12 (by decide) (fun cc1 => ?_) (fun cc1 => ?_)
  · replace w := w.1 cc1
    refine aw_lload (x := y5) d_Mo_asNumber_64 rfl ?_
    exact aw_lreturn rfl d_Mo_asNumber_66 w
  · replace w := w.2 cc1
    refine aw_aload_n (x := a0) d_Mo_asNumber_15 rfl ?_
    refine aw_aload_n (x := a1) d_Mo_asNumber_16 rfl ?_
    refine aw_iload_n (x := x2) d_Mo_asNumber_17 rfl ?_
    refine aw_iload (x := x7) d_Mo_asNumber_18 rfl ?_
    exact aw_room (cb' := 0 + cb) (sb' := 0 + sb) (by omega) (by omega) (aw_weak (lv' := [some (.ref a0), some (.ref a1), some (.int x2), some (.int x3), some (.int x4), some (.long y5), none, some (.int x7), none]) ⟨rfl, rfl, rfl, rfl, rfl, rfl, rfl, trivial⟩ (aw_callS (M' := m_Mo_byteOf) (lv0 := [some (.ref a0), some (.ref a1), some (.int x2), some (.int x7)]) (As := [.ref a0, .ref a1, .int x2, .int x7]) (rest := []) 1069 1070 1071 8 tb_1069 tb_1070 tb_1071 tb_8 rfl rfl 4 0 rfl rfl ⟨by decide, by decide, by decide +kernel, by decide +kernel, by decide, by decide⟩ (Nat.le_of_ble_eq_true rfl) ⟨rfl, rfl, rfl, rfl, trivial⟩ rfl d_Mo_asNumber_20 w))
set_option maxRecDepth 20000 in
theorem r_Mo_asNumber_23 {E : zE} {K n : Nat → Nat} {I : Nat → Nat → Int32} {F : Nat → Nat → Option Nat} {J : Nat → Nat → Int64} {cb sb : Nat} {Q : zO → zH → Prop} {a0 : Nat} {a1 : Nat} {x2 : Int32} {x3 : Int32} {x4 : Int32} {y5 : Int64} {x7 : Int32} {sx0 : Int32}
    (w : ((sx0 < (48 : Int32) → AW E m_Mo_asNumber (K, n, I, F, J) cb sb Q 6 [some (.ref a0), some (.ref a1), some (.int x2), some (.int x3), some (.int x4), some (.long (((10 : Int64) * y5) + (0 : Int32).toInt64)), none, some (.int (x7 + (1 : Int32))), none] []) ∧ (¬ sx0 < (48 : Int32) → (((57 : Int32) < sx0 → AW E m_Mo_asNumber (K, n, I, F, J) cb sb Q 6 [some (.ref a0), some (.ref a1), some (.int x2), some (.int x3), some (.int x4), some (.long (((10 : Int64) * y5) + (0 : Int32).toInt64)), none, some (.int (x7 + (1 : Int32))), none] []) ∧ (¬ (57 : Int32) < sx0 → AW E m_Mo_asNumber (K, n, I, F, J) cb sb Q 6 [some (.ref a0), some (.ref a1), some (.int x2), some (.int x3), some (.int x4), some (.long (((10 : Int64) * y5) + (sx0 - (48 : Int32)).toInt64)), none, some (.int (x7 + (1 : Int32))), none] []))))) :
    AW E m_Mo_asNumber (K, n, I, F, J) cb sb Q 23 [some (.ref a0), some (.ref a1), some (.int x2), some (.int x3), some (.int x4), some (.long y5), none, some (.int x7), none] [.int sx0] := by
  refine aw_istore d_Mo_asNumber_23 (by decide) ?_
  refine aw_ldc2 (v := 10) 1099 tb_1099 d_Mo_asNumber_25 ?_
  refine aw_lload (x := y5) d_Mo_asNumber_28 rfl ?_
  refine aw_lmul d_Mo_asNumber_30 ?_
  refine aw_iload (x := sx0) d_Mo_asNumber_31 rfl ?_
  refine aw_bipush (v := (48 : Int32)) d_Mo_asNumber_33 (by decide) ?_
  refine aw_icmp_lt (tgt := 53) d_Mo_asNumber_35 (by decide) (fun cc1 => ?_) (fun cc1 => ?_)
  · replace w := w.1 cc1
    refine aw_iconst (v := (0 : Int32)) d_Mo_asNumber_53 (by decide) ?_
    refine aw_i2l (v := (0 : Int32).toInt64) d_Mo_asNumber_54 rfl ?_
    refine aw_ladd d_Mo_asNumber_55 ?_
    refine aw_lstore d_Mo_asNumber_56 (by decide) ?_
    refine aw_iinc (v := (x7 + (1 : Int32))) d_Mo_asNumber_58 rfl (by rfl) (by decide) ?_
    refine aw_goto (tgt := 6) d_Mo_asNumber_61 (by decide) ?_
    exact aw_weak (lv' := [some (.ref a0), some (.ref a1), some (.int x2), some (.int x3), some (.int x4), some (.long (((10 : Int64) * y5) + (0 : Int32).toInt64)), none, some (.int (x7 + (1 : Int32))), none]) ⟨rfl, rfl, rfl, rfl, rfl, rfl, rfl, trivial⟩ w
  · replace w := w.2 cc1
    refine aw_iload (x := sx0) d_Mo_asNumber_38 rfl ?_
    refine aw_bipush (v := (57 : Int32)) d_Mo_asNumber_40 (by decide) ?_
    refine aw_icmp_gt (tgt := 53) d_Mo_asNumber_42 (by decide) (fun cc2 => ?_) (fun cc2 => ?_)
    · replace w := w.1 cc2
      refine aw_iconst (v := (0 : Int32)) d_Mo_asNumber_53 (by decide) ?_
      refine aw_i2l (v := (0 : Int32).toInt64) d_Mo_asNumber_54 rfl ?_
      refine aw_ladd d_Mo_asNumber_55 ?_
      refine aw_lstore d_Mo_asNumber_56 (by decide) ?_
      refine aw_iinc (v := (x7 + (1 : Int32))) d_Mo_asNumber_58 rfl (by rfl) (by decide) ?_
      refine aw_goto (tgt := 6) d_Mo_asNumber_61 (by decide) ?_
      exact aw_weak (lv' := [some (.ref a0), some (.ref a1), some (.int x2), some (.int x3), some (.int x4), some (.long (((10 : Int64) * y5) + (0 : Int32).toInt64)), none, some (.int (x7 + (1 : Int32))), none]) ⟨rfl, rfl, rfl, rfl, rfl, rfl, rfl, trivial⟩ w
    · replace w := w.2 cc2
      refine aw_iload (x := sx0) d_Mo_asNumber_45 rfl ?_
      refine aw_bipush (v := (48 : Int32)) d_Mo_asNumber_47 (by decide) ?_
      refine aw_isub d_Mo_asNumber_49 ?_
      refine aw_goto (tgt := 54) d_Mo_asNumber_50 (by decide) ?_
      refine aw_i2l (v := (sx0 - (48 : Int32)).toInt64) d_Mo_asNumber_54 rfl ?_
      refine aw_ladd d_Mo_asNumber_55 ?_
      refine aw_lstore d_Mo_asNumber_56 (by decide) ?_
      refine aw_iinc (v := (x7 + (1 : Int32))) d_Mo_asNumber_58 rfl (by rfl) (by decide) ?_
      refine aw_goto (tgt := 6) d_Mo_asNumber_61 (by decide) ?_
      exact aw_weak (lv' := [some (.ref a0), some (.ref a1), some (.int x2), some (.int x3), some (.int x4), some (.long (((10 : Int64) * y5) + (sx0 - (48 : Int32)).toInt64)), none, some (.int (x7 + (1 : Int32))), none]) ⟨rfl, rfl, rfl, rfl, rfl, rfl, rfl, trivial⟩ w
set_option maxRecDepth 20000 in
theorem r_Mo_digitAt_0 {E : zE} {K n : Nat → Nat} {I : Nat → Nat → Int32} {F : Nat → Nat → Option Nat} {J : Nat → Nat → Int64} {cb sb : Nat} {Q : zO → zH → Prop} {x0 : Int32}
    (w : ((x0 < (48 : Int32) → Q (.inl (some (.int (0 : Int32)))) (K, n, I, F, J)) ∧ (¬ x0 < (48 : Int32) → (((57 : Int32) < x0 → Q (.inl (some (.int (0 : Int32)))) (K, n, I, F, J)) ∧ (¬ (57 : Int32) < x0 → Q (.inl (some (.int (x0 - (48 : Int32))))) (K, n, I, F, J)))))) :
    AW E m_Mo_digitAt (K, n, I, F, J) cb sb Q 0 [some (.int x0)] [] := by
  refine aw_iload_n (x := x0) d_Mo_digitAt_0 rfl ?_
  refine aw_bipush (v := (48 : Int32)) d_Mo_digitAt_1 (by decide) ?_
  refine aw_icmp_lt (tgt := 19) d_Mo_digitAt_3 (by decide) (fun cc1 => ?_) (fun cc1 => ?_)
  · replace w := w.1 cc1
    refine aw_iconst (v := (0 : Int32)) d_Mo_digitAt_19 (by decide) ?_
    exact aw_ireturn .int rfl rfl d_Mo_digitAt_20 w
  · replace w := w.2 cc1
    refine aw_iload_n (x := x0) d_Mo_digitAt_6 rfl ?_
    refine aw_bipush (v := (57 : Int32)) d_Mo_digitAt_7 (by decide) ?_
    refine aw_icmp_gt (tgt := 19) d_Mo_digitAt_9 (by decide) (fun cc2 => ?_) (fun cc2 => ?_)
    · replace w := w.1 cc2
      refine aw_iconst (v := (0 : Int32)) d_Mo_digitAt_19 (by decide) ?_
      exact aw_ireturn .int rfl rfl d_Mo_digitAt_20 w
    · replace w := w.2 cc2
      refine aw_iload_n (x := x0) d_Mo_digitAt_12 rfl ?_
      refine aw_bipush (v := (48 : Int32)) d_Mo_digitAt_13 (by decide) ?_
      refine aw_isub d_Mo_digitAt_15 ?_
      refine aw_goto (tgt := 20) d_Mo_digitAt_16 (by decide) ?_
      exact aw_ireturn .int rfl rfl d_Mo_digitAt_20 w
set_option maxRecDepth 20000 in
theorem r_Mo_byKey_0 {E : zE} {K n : Nat → Nat} {I : Nat → Nat → Int32} {F : Nat → Nat → Option Nat} {J : Nat → Nat → Int64} {cb sb : Nat} {Q : zO → zH → Prop} {a0 : Nat} {x1 : Int32} {a2 : Nat} {a3 : Nat} {x4 : Int32} {a5 : Nat} {a6 : Nat} {x7 : Int32}
    (w : K a0 = 9 ∧ (∃ b2 : Nat, F a0 7 = some b2 ∧ K b2 = 21 ∧ (∃ j4 : Nat, ((4 : Int32) * x1) = nI j4 ∧ j4 < n b2 ∧ j4 < 2147483648 ∧ (∃ j5 : Nat, (((4 : Int32) * x1) + (3 : Int32)) = nI j5 ∧ j5 < n b2 ∧ j5 < 2147483648 ∧ ((¬ (I b2 j5) = (1 : Int32) → AW E m_Mo_byKey (K, n, I, F, J) cb sb Q 37 [some (.ref a0), some (.int x1), some (.ref a2), some (.ref a3), some (.int x4), some (.ref a5), some (.ref a6), some (.int x7), some (.int ((I b2 j4) - (1 : Int32))), some (.int (0 : Int32)), some (.int ((I b2 j4) - (1 : Int32))), none, none] []) ∧ ((I b2 j5) = (1 : Int32) → AW E m_Mo_byKey (K, n, I, F, J) cb sb Q 37 [some (.ref a0), some (.int x1), some (.ref a2), some (.ref a3), some (.int x4), some (.ref a5), some (.ref a6), some (.int x7), some (.int ((I b2 j4) - (1 : Int32))), some (.int (1 : Int32)), some (.int ((I b2 j4) - (1 : Int32))), none, none] [])))))) :
    AW E m_Mo_byKey (K, n, I, F, J) cb sb Q 0 [some (.ref a0), some (.int x1), some (.ref a2), some (.ref a3), some (.int x4), some (.ref a5), some (.ref a6), some (.int x7), none, none, none, none, none] [] := by
  refine aw_aload_n (x := a0) d_Mo_byKey_0 rfl ?_
  obtain ⟨hk1, w⟩ := w
  obtain ⟨b2, hb2, w⟩ := w
  refine gs_Mo_22 rfl hk1 hb2 d_Mo_byKey_1 ?_
  refine aw_iconst (v := (4 : Int32)) d_Mo_byKey_4 (by decide) ?_
  refine aw_iload_n (x := x1) d_Mo_byKey_5 rfl ?_
  refine aw_imul d_Mo_byKey_6 ?_
  obtain ⟨hk3, w⟩ := w
  obtain ⟨j4, hj4a, hj4b, hj4c, w⟩ := w
  refine aw_iaload j4 hk3 hj4a hj4b hj4c d_Mo_byKey_7 ?_
  refine aw_iconst (v := (1 : Int32)) d_Mo_byKey_8 (by decide) ?_
  refine aw_isub d_Mo_byKey_9 ?_
  refine aw_istore d_Mo_byKey_10 (by decide) ?_
  refine aw_aload_n (x := a0) d_Mo_byKey_12 rfl ?_
  refine gs_Mo_22 rfl hk1 hb2 d_Mo_byKey_13 ?_
  refine aw_iconst (v := (4 : Int32)) d_Mo_byKey_16 (by decide) ?_
  refine aw_iload_n (x := x1) d_Mo_byKey_17 rfl ?_
  refine aw_imul d_Mo_byKey_18 ?_
  refine aw_iconst (v := (3 : Int32)) d_Mo_byKey_19 (by decide) ?_
  refine aw_iadd d_Mo_byKey_20 ?_
  obtain ⟨j5, hj5a, hj5b, hj5c, w⟩ := w
  refine aw_iaload j5 hk3 hj5a hj5b hj5c d_Mo_byKey_21 ?_
  refine aw_iconst (v := (1 : Int32)) d_Mo_byKey_22 (by decide) ?_
  refine aw_icmp_ne (tgt := 30) d_Mo_byKey_23 (by decide) (fun cc6 => ?_) (fun cc6 => ?_)
  · replace w := w.1 cc6
    refine aw_iconst (v := (0 : Int32)) d_Mo_byKey_30 (by decide) ?_
    refine aw_istore d_Mo_byKey_31 (by decide) ?_
    refine aw_iload (x := ((I b2 j4) - (1 : Int32))) d_Mo_byKey_33 rfl ?_
    refine aw_istore d_Mo_byKey_35 (by decide) ?_
    exact aw_weak (lv' := [some (.ref a0), some (.int x1), some (.ref a2), some (.ref a3), some (.int x4), some (.ref a5), some (.ref a6), some (.int x7), some (.int ((I b2 j4) - (1 : Int32))), some (.int (0 : Int32)), some (.int ((I b2 j4) - (1 : Int32))), none, none]) ⟨rfl, rfl, rfl, rfl, rfl, rfl, rfl, rfl, rfl, rfl, rfl, trivial⟩ w
  · replace w := w.2 cc6
    refine aw_iconst (v := (1 : Int32)) d_Mo_byKey_26 (by decide) ?_
    refine aw_goto (tgt := 31) d_Mo_byKey_27 (by decide) ?_
    refine aw_istore d_Mo_byKey_31 (by decide) ?_
    refine aw_iload (x := ((I b2 j4) - (1 : Int32))) d_Mo_byKey_33 rfl ?_
    refine aw_istore d_Mo_byKey_35 (by decide) ?_
    exact aw_weak (lv' := [some (.ref a0), some (.int x1), some (.ref a2), some (.ref a3), some (.int x4), some (.ref a5), some (.ref a6), some (.int x7), some (.int ((I b2 j4) - (1 : Int32))), some (.int (1 : Int32)), some (.int ((I b2 j4) - (1 : Int32))), none, none]) ⟨rfl, rfl, rfl, rfl, rfl, rfl, rfl, rfl, rfl, rfl, rfl, trivial⟩ w
set_option maxRecDepth 20000 in
theorem r_Mo_byKey_37 {E : zE} {K n : Nat → Nat} {I : Nat → Nat → Int32} {F : Nat → Nat → Option Nat} {J : Nat → Nat → Int64} {cb sb : Nat} {Q : zO → zH → Prop} {a0 : Nat} {x1 : Int32} {a2 : Nat} {a3 : Nat} {x4 : Int32} {a5 : Nat} {a6 : Nat} {x7 : Int32} {x8 : Int32} {x9 : Int32} {x10 : Int32}
    (w : K a0 = 9 ∧ (∃ b2 : Nat, F a0 7 = some b2 ∧ K b2 = 21 ∧ (∃ j4 : Nat, (((4 : Int32) * x1) + (1 : Int32)) = nI j4 ∧ j4 < n b2 ∧ j4 < 2147483648 ∧ (((x8 + (I b2 j4)) ≤ x10 → Q (.inl (some (.int (0 : Int32)))) (K, n, I, F, J)) ∧ (¬ (x8 + (I b2 j4)) ≤ x10 → AW E m_Mo_byteOf (K, n, I, F, J) 0 0 (zAft E m_Mo_byKey cb sb Q 61 [some (.ref a0), some (.int x1), some (.ref a2), some (.ref a3), some (.int x4), some (.ref a5), some (.ref a6), some (.int x7), some (.int x8), some (.int x9), some (.int x10), none, none] []) 0 [some (.ref a2), some (.ref a3), some (.int x4), some (.int x10)] []))))) :
    AW E m_Mo_byKey (K, n, I, F, J) cb sb Q 37 [some (.ref a0), some (.int x1), some (.ref a2), some (.ref a3), some (.int x4), some (.ref a5), some (.ref a6), some (.int x7), some (.int x8), some (.int x9), some (.int x10), none, none] [] := by
  refine aw_iload (x := x10) d_Mo_byKey_37 rfl ?_
  refine aw_iload (x := x8) d_Mo_byKey_39 rfl ?_
  refine aw_aload_n (x := a0) d_Mo_byKey_41 rfl ?_
  obtain ⟨hk1, w⟩ := w
  obtain ⟨b2, hb2, w⟩ := w
  refine gs_Mo_22 rfl hk1 hb2 d_Mo_byKey_42 ?_
  refine aw_iconst (v := (4 : Int32)) d_Mo_byKey_45 (by decide) ?_
  refine aw_iload_n (x := x1) d_Mo_byKey_46 rfl ?_
  refine aw_imul d_Mo_byKey_47 ?_
  refine aw_iconst (v := (1 : Int32)) d_Mo_byKey_48 (by decide) ?_
  refine aw_iadd d_Mo_byKey_49 ?_
  obtain ⟨hk3, w⟩ := w
  obtain ⟨j4, hj4a, hj4b, hj4c, w⟩ := w
  refine aw_iaload j4 hk3 hj4a hj4b hj4c d_Mo_byKey_50 ?_
  refine aw_iadd d_Mo_byKey_51 ?_
  refine aw_icmp_ge (tgt := 139) d_Mo_byKey_52 (by decide) (fun cc5 => ?_) (fun cc5 => ?_)
  · replace w := w.1 cc5
    refine aw_iconst (v := (0 : Int32)) d_Mo_byKey_139 (by decide) ?_
    exact aw_ireturn .int rfl rfl d_Mo_byKey_140 w
  · replace w := w.2 cc5
    refine aw_aload_n (x := a2) d_Mo_byKey_55 rfl ?_
    refine aw_aload_n (x := a3) d_Mo_byKey_56 rfl ?_
    refine aw_iload (x := x4) d_Mo_byKey_57 rfl ?_
    refine aw_iload (x := x10) d_Mo_byKey_59 rfl ?_
    exact aw_room (cb' := 0 + cb) (sb' := 0 + sb) (by omega) (by omega) (aw_weak (lv' := [some (.ref a0), some (.int x1), some (.ref a2), some (.ref a3), some (.int x4), some (.ref a5), some (.ref a6), some (.int x7), some (.int x8), some (.int x9), some (.int x10), none, none]) ⟨rfl, rfl, rfl, rfl, rfl, rfl, rfl, rfl, rfl, rfl, rfl, trivial⟩ (aw_callS (M' := m_Mo_byteOf) (lv0 := [some (.ref a2), some (.ref a3), some (.int x4), some (.int x10)]) (As := [.ref a2, .ref a3, .int x4, .int x10]) (rest := []) 1069 1070 1071 8 tb_1069 tb_1070 tb_1071 tb_8 rfl rfl 4 0 rfl rfl ⟨by decide, by decide, by decide +kernel, by decide +kernel, by decide, by decide⟩ (Nat.le_of_ble_eq_true rfl) ⟨rfl, rfl, rfl, rfl, trivial⟩ rfl d_Mo_byKey_61 w))
set_option maxRecDepth 20000 in
theorem r_Mo_byKey_64 {E : zE} {K n : Nat → Nat} {I : Nat → Nat → Int32} {F : Nat → Nat → Option Nat} {J : Nat → Nat → Int64} {cb sb : Nat} {Q : zO → zH → Prop} {a0 : Nat} {x1 : Int32} {a2 : Nat} {a3 : Nat} {x4 : Int32} {a5 : Nat} {a6 : Nat} {x7 : Int32} {x8 : Int32} {x9 : Int32} {x10 : Int32} {sx0 : Int32}
    (w : AW E m_Mo_byteOf (K, n, I, F, J) 0 0 (zAft E m_Mo_byKey cb sb Q 74 [some (.ref a0), some (.int x1), some (.ref a2), some (.ref a3), some (.int x4), some (.ref a5), some (.ref a6), some (.int x7), some (.int x8), some (.int x9), some (.int x10), some (.int sx0), none] []) 0 [some (.ref a5), some (.ref a6), some (.int x7), some (.int x10)] []) :
    AW E m_Mo_byKey (K, n, I, F, J) cb sb Q 64 [some (.ref a0), some (.int x1), some (.ref a2), some (.ref a3), some (.int x4), some (.ref a5), some (.ref a6), some (.int x7), some (.int x8), some (.int x9), some (.int x10), none, none] [.int sx0] := by
  refine aw_istore d_Mo_byKey_64 (by decide) ?_
  refine aw_aload (x := a5) d_Mo_byKey_66 rfl ?_
  refine aw_aload (x := a6) d_Mo_byKey_68 rfl ?_
  refine aw_iload (x := x7) d_Mo_byKey_70 rfl ?_
  refine aw_iload (x := x10) d_Mo_byKey_72 rfl ?_
  exact aw_room (cb' := 0 + cb) (sb' := 0 + sb) (by omega) (by omega) (aw_weak (lv' := [some (.ref a0), some (.int x1), some (.ref a2), some (.ref a3), some (.int x4), some (.ref a5), some (.ref a6), some (.int x7), some (.int x8), some (.int x9), some (.int x10), some (.int sx0), none]) ⟨rfl, rfl, rfl, rfl, rfl, rfl, rfl, rfl, rfl, rfl, rfl, rfl, trivial⟩ (aw_callS (M' := m_Mo_byteOf) (lv0 := [some (.ref a5), some (.ref a6), some (.int x7), some (.int x10)]) (As := [.ref a5, .ref a6, .int x7, .int x10]) (rest := []) 1069 1070 1071 8 tb_1069 tb_1070 tb_1071 tb_8 rfl rfl 4 0 rfl rfl ⟨by decide, by decide, by decide +kernel, by decide +kernel, by decide, by decide⟩ (Nat.le_of_ble_eq_true rfl) ⟨rfl, rfl, rfl, rfl, trivial⟩ rfl d_Mo_byKey_74 w))
set_option maxRecDepth 20000 in
theorem r_Mo_byKey_77 {E : zE} {K n : Nat → Nat} {I : Nat → Nat → Int32} {F : Nat → Nat → Option Nat} {J : Nat → Nat → Int64} {cb sb : Nat} {Q : zO → zH → Prop} {a0 : Nat} {x1 : Int32} {a2 : Nat} {a3 : Nat} {x4 : Int32} {a5 : Nat} {a6 : Nat} {x7 : Int32} {x8 : Int32} {x9 : Int32} {x10 : Int32} {x11 : Int32} {sx0 : Int32}
    (w : ((x9 = 0 → ((x9 = 0 → ((x11 = sx0 → AW E m_Mo_byKey (K, n, I, F, J) cb sb Q 37 [some (.ref a0), some (.int x1), some (.ref a2), some (.ref a3), some (.int x4), some (.ref a5), some (.ref a6), some (.int x7), some (.int x8), some (.int x9), some (.int (x10 + (1 : Int32))), none, none] []) ∧ (¬ x11 = sx0 → ((sx0 ≤ x11 → Q (.inl (some (.int (1 : Int32)))) (K, n, I, F, J)) ∧ (¬ sx0 ≤ x11 → Q (.inl (some (.int ((-1) : Int32)))) (K, n, I, F, J)))))) ∧ (¬ x9 = 0 → AW E m_Mo_digitAt (K, n, I, F, J) 0 0 (zAft E m_Mo_byKey cb sb Q 103 [some (.ref a0), some (.int x1), some (.ref a2), some (.ref a3), some (.int x4), some (.ref a5), some (.ref a6), some (.int x7), some (.int x8), some (.int x9), some (.int x10), some (.int x11), none] []) 0 [some (.int sx0)] []))) ∧ (¬ x9 = 0 → AW E m_Mo_digitAt (K, n, I, F, J) 0 0 (zAft E m_Mo_byKey cb sb Q 86 [some (.ref a0), some (.int x1), some (.ref a2), some (.ref a3), some (.int x4), some (.ref a5), some (.ref a6), some (.int x7), some (.int x8), some (.int x9), some (.int x10), none, some (.int sx0)] []) 0 [some (.int x11)] []))) :
    AW E m_Mo_byKey (K, n, I, F, J) cb sb Q 77 [some (.ref a0), some (.int x1), some (.ref a2), some (.ref a3), some (.int x4), some (.ref a5), some (.ref a6), some (.int x7), some (.int x8), some (.int x9), some (.int x10), some (.int x11), none] [.int sx0] := by
  refine aw_istore d_Mo_byKey_77 (by decide) ?_
  refine aw_iload (x := x9) d_Mo_byKey_79 rfl ?_
  refine aw_if_eq (tgt := 92) d_Mo_byKey_81 (by decide) (fun cc1 => ?_) (fun cc1 => ?_)
  · replace w := w.1 cc1
    refine aw_iload (x := x11) d_Mo_byKey_92 rfl ?_
    refine aw_istore d_Mo_byKey_94 (by decide) ?_
    refine aw_iload (x := x9) d_Mo_byKey_96 rfl ?_
    refine aw_if_eq (tgt := 109) d_Mo_byKey_98 (by decide) (fun cc2 => ?_) (fun cc2 => ?_)
    · replace w := w.1 cc2
      refine aw_iload (x := sx0) d_Mo_byKey_109 rfl ?_
      refine aw_istore d_Mo_byKey_111 (by decide) ?_
      refine aw_iload (x := x11) d_Mo_byKey_113 rfl ?_
      refine aw_iload (x := sx0) d_Mo_byKey_115 rfl ?_
      refine aw_icmp_eq (tgt := 133) d_Mo_byKey_117 (by decide) (fun cc3 => ?_) (fun cc3 => ?_)
      · replace w := w.1 cc3
        refine aw_iinc (v := (x10 + (1 : Int32))) d_Mo_byKey_133 rfl (by rfl) (by decide) ?_
        refine aw_goto (tgt := 37) d_Mo_byKey_136 (by decide) ?_
        exact aw_weak (lv' := [some (.ref a0), some (.int x1), some (.ref a2), some (.ref a3), some (.int x4), some (.ref a5), some (.ref a6), some (.int x7), some (.int x8), some (.int x9), some (.int (x10 + (1 : Int32))), none, none]) ⟨rfl, rfl, rfl, rfl, rfl, rfl, rfl, rfl, rfl, rfl, rfl, trivial⟩ w
      · replace w := w.2 cc3
        refine aw_iload (x := x11) d_Mo_byKey_120 rfl ?_
        refine aw_iload (x := sx0) d_Mo_byKey_122 rfl ?_
        refine aw_icmp_ge (tgt := 131) d_Mo_byKey_124 (by decide) (fun cc4 => ?_) (fun cc4 => ?_)
        · replace w := w.1 cc4
          refine aw_iconst (v := (1 : Int32)) d_Mo_byKey_131 (by decide) ?_
          exact aw_ireturn .int rfl rfl d_Mo_byKey_132 w
        · replace w := w.2 cc4
          refine aw_iconst (v := ((-1) : Int32)) d_Mo_byKey_127 (by decide) ?_
          refine aw_goto (tgt := 132) d_Mo_byKey_128 (by decide) ?_
          exact aw_ireturn .int rfl rfl d_Mo_byKey_132 w
    · replace w := w.2 cc2
      refine aw_iload (x := sx0) d_Mo_byKey_101 rfl ?_
      exact aw_room (cb' := 0 + cb) (sb' := 0 + sb) (by omega) (by omega) (aw_weak (lv' := [some (.ref a0), some (.int x1), some (.ref a2), some (.ref a3), some (.int x4), some (.ref a5), some (.ref a6), some (.int x7), some (.int x8), some (.int x9), some (.int x10), some (.int x11), none]) ⟨rfl, rfl, rfl, rfl, rfl, rfl, rfl, rfl, rfl, rfl, rfl, rfl, trivial⟩ (aw_callS (M' := m_Mo_digitAt) (lv0 := [some (.int sx0)]) (As := [.int sx0]) (rest := []) 1088 1089 1090 8 tb_1088 tb_1089 tb_1090 tb_8 rfl rfl 1 0 rfl rfl ⟨by decide, by decide, by decide +kernel, by decide +kernel, by decide, by decide⟩ (Nat.le_of_ble_eq_true rfl) ⟨rfl, trivial⟩ rfl d_Mo_byKey_103 w))
  · replace w := w.2 cc1
    refine aw_iload (x := x11) d_Mo_byKey_84 rfl ?_
    exact aw_room (cb' := 0 + cb) (sb' := 0 + sb) (by omega) (by omega) (aw_weak (lv' := [some (.ref a0), some (.int x1), some (.ref a2), some (.ref a3), some (.int x4), some (.ref a5), some (.ref a6), some (.int x7), some (.int x8), some (.int x9), some (.int x10), none, some (.int sx0)]) ⟨rfl, rfl, rfl, rfl, rfl, rfl, rfl, rfl, rfl, rfl, rfl, rfl, trivial⟩ (aw_callS (M' := m_Mo_digitAt) (lv0 := [some (.int x11)]) (As := [.int x11]) (rest := []) 1088 1089 1090 8 tb_1088 tb_1089 tb_1090 tb_8 rfl rfl 1 0 rfl rfl ⟨by decide, by decide, by decide +kernel, by decide +kernel, by decide, by decide⟩ (Nat.le_of_ble_eq_true rfl) ⟨rfl, trivial⟩ rfl d_Mo_byKey_86 w))
set_option maxRecDepth 20000 in
theorem r_Mo_byKey_89 {E : zE} {K n : Nat → Nat} {I : Nat → Nat → Int32} {F : Nat → Nat → Option Nat} {J : Nat → Nat → Int64} {cb sb : Nat} {Q : zO → zH → Prop} {a0 : Nat} {x1 : Int32} {a2 : Nat} {a3 : Nat} {x4 : Int32} {a5 : Nat} {a6 : Nat} {x7 : Int32} {x8 : Int32} {x9 : Int32} {x10 : Int32} {x12 : Int32} {sx0 : Int32}
    (w : ((x9 = 0 → ((sx0 = x12 → AW E m_Mo_byKey (K, n, I, F, J) cb sb Q 37 [some (.ref a0), some (.int x1), some (.ref a2), some (.ref a3), some (.int x4), some (.ref a5), some (.ref a6), some (.int x7), some (.int x8), some (.int x9), some (.int (x10 + (1 : Int32))), none, none] []) ∧ (¬ sx0 = x12 → ((x12 ≤ sx0 → Q (.inl (some (.int (1 : Int32)))) (K, n, I, F, J)) ∧ (¬ x12 ≤ sx0 → Q (.inl (some (.int ((-1) : Int32)))) (K, n, I, F, J)))))) ∧ (¬ x9 = 0 → AW E m_Mo_digitAt (K, n, I, F, J) 0 0 (zAft E m_Mo_byKey cb sb Q 103 [some (.ref a0), some (.int x1), some (.ref a2), some (.ref a3), some (.int x4), some (.ref a5), some (.ref a6), some (.int x7), some (.int x8), some (.int x9), some (.int x10), some (.int sx0), none] []) 0 [some (.int x12)] []))) :
    AW E m_Mo_byKey (K, n, I, F, J) cb sb Q 89 [some (.ref a0), some (.int x1), some (.ref a2), some (.ref a3), some (.int x4), some (.ref a5), some (.ref a6), some (.int x7), some (.int x8), some (.int x9), some (.int x10), none, some (.int x12)] [.int sx0] := by
  refine aw_goto (tgt := 94) d_Mo_byKey_89 (by decide) ?_
  refine aw_istore d_Mo_byKey_94 (by decide) ?_
  refine aw_iload (x := x9) d_Mo_byKey_96 rfl ?_
  refine aw_if_eq (tgt := 109) d_Mo_byKey_98 (by decide) (fun cc1 => ?_) (fun cc1 => ?_)
  · replace w := w.1 cc1
    refine aw_iload (x := x12) d_Mo_byKey_109 rfl ?_
    refine aw_istore d_Mo_byKey_111 (by decide) ?_
    refine aw_iload (x := sx0) d_Mo_byKey_113 rfl ?_
    refine aw_iload (x := x12) d_Mo_byKey_115 rfl ?_
    refine aw_icmp_eq (tgt := 133) d_Mo_byKey_117 (by decide) (fun cc2 => ?_) (fun cc2 => ?_)
    · replace w := w.1 cc2
      refine aw_iinc (v := (x10 + (1 : Int32))) d_Mo_byKey_133 rfl (by rfl) (by decide) ?_
      refine aw_goto (tgt := 37) d_Mo_byKey_136 (by decide) ?_
      exact aw_weak (lv' := [some (.ref a0), some (.int x1), some (.ref a2), some (.ref a3), some (.int x4), some (.ref a5), some (.ref a6), some (.int x7), some (.int x8), some (.int x9), some (.int (x10 + (1 : Int32))), none, none]) ⟨rfl, rfl, rfl, rfl, rfl, rfl, rfl, rfl, rfl, rfl, rfl, trivial⟩ w
    · replace w := w.2 cc2
      refine aw_iload (x := sx0) d_Mo_byKey_120 rfl ?_
      refine aw_iload (x := x12) d_Mo_byKey_122 rfl ?_
      refine aw_icmp_ge (tgt := 131) d_Mo_byKey_124 (by decide) (fun cc3 => ?_) (fun cc3 => ?_)
      · replace w := w.1 cc3
        refine aw_iconst (v := (1 : Int32)) d_Mo_byKey_131 (by decide) ?_
        exact aw_ireturn .int rfl rfl d_Mo_byKey_132 w
      · replace w := w.2 cc3
        refine aw_iconst (v := ((-1) : Int32)) d_Mo_byKey_127 (by decide) ?_
        refine aw_goto (tgt := 132) d_Mo_byKey_128 (by decide) ?_
        exact aw_ireturn .int rfl rfl d_Mo_byKey_132 w
  · replace w := w.2 cc1
    refine aw_iload (x := x12) d_Mo_byKey_101 rfl ?_
    exact aw_room (cb' := 0 + cb) (sb' := 0 + sb) (by omega) (by omega) (aw_weak (lv' := [some (.ref a0), some (.int x1), some (.ref a2), some (.ref a3), some (.int x4), some (.ref a5), some (.ref a6), some (.int x7), some (.int x8), some (.int x9), some (.int x10), some (.int sx0), none]) ⟨rfl, rfl, rfl, rfl, rfl, rfl, rfl, rfl, rfl, rfl, rfl, rfl, trivial⟩ (aw_callS (M' := m_Mo_digitAt) (lv0 := [some (.int x12)]) (As := [.int x12]) (rest := []) 1088 1089 1090 8 tb_1088 tb_1089 tb_1090 tb_8 rfl rfl 1 0 rfl rfl ⟨by decide, by decide, by decide +kernel, by decide +kernel, by decide, by decide⟩ (Nat.le_of_ble_eq_true rfl) ⟨rfl, trivial⟩ rfl d_Mo_byKey_103 w))
set_option maxRecDepth 20000 in
theorem r_Mo_byKey_106 {E : zE} {K n : Nat → Nat} {I : Nat → Nat → Int32} {F : Nat → Nat → Option Nat} {J : Nat → Nat → Int64} {cb sb : Nat} {Q : zO → zH → Prop} {a0 : Nat} {x1 : Int32} {a2 : Nat} {a3 : Nat} {x4 : Int32} {a5 : Nat} {a6 : Nat} {x7 : Int32} {x8 : Int32} {x9 : Int32} {x10 : Int32} {x11 : Int32} {sx0 : Int32}
    (w : ((x11 = sx0 → AW E m_Mo_byKey (K, n, I, F, J) cb sb Q 37 [some (.ref a0), some (.int x1), some (.ref a2), some (.ref a3), some (.int x4), some (.ref a5), some (.ref a6), some (.int x7), some (.int x8), some (.int x9), some (.int (x10 + (1 : Int32))), none, none] []) ∧ (¬ x11 = sx0 → ((sx0 ≤ x11 → Q (.inl (some (.int (1 : Int32)))) (K, n, I, F, J)) ∧ (¬ sx0 ≤ x11 → Q (.inl (some (.int ((-1) : Int32)))) (K, n, I, F, J)))))) :
    AW E m_Mo_byKey (K, n, I, F, J) cb sb Q 106 [some (.ref a0), some (.int x1), some (.ref a2), some (.ref a3), some (.int x4), some (.ref a5), some (.ref a6), some (.int x7), some (.int x8), some (.int x9), some (.int x10), some (.int x11), none] [.int sx0] := by
  refine aw_goto (tgt := 111) d_Mo_byKey_106 (by decide) ?_
  refine aw_istore d_Mo_byKey_111 (by decide) ?_
  refine aw_iload (x := x11) d_Mo_byKey_113 rfl ?_
  refine aw_iload (x := sx0) d_Mo_byKey_115 rfl ?_
  refine aw_icmp_eq (tgt := 133) d_Mo_byKey_117 (by decide) (fun cc1 => ?_) (fun cc1 => ?_)
  · replace w := w.1 cc1
    refine aw_iinc (v := (x10 + (1 : Int32))) d_Mo_byKey_133 rfl (by rfl) (by decide) ?_
    refine aw_goto (tgt := 37) d_Mo_byKey_136 (by decide) ?_
    exact aw_weak (lv' := [some (.ref a0), some (.int x1), some (.ref a2), some (.ref a3), some (.int x4), some (.ref a5), some (.ref a6), some (.int x7), some (.int x8), some (.int x9), some (.int (x10 + (1 : Int32))), none, none]) ⟨rfl, rfl, rfl, rfl, rfl, rfl, rfl, rfl, rfl, rfl, rfl, trivial⟩ w
  · replace w := w.2 cc1
    refine aw_iload (x := x11) d_Mo_byKey_120 rfl ?_
    refine aw_iload (x := sx0) d_Mo_byKey_122 rfl ?_
    refine aw_icmp_ge (tgt := 131) d_Mo_byKey_124 (by decide) (fun cc2 => ?_) (fun cc2 => ?_)
    · replace w := w.1 cc2
      refine aw_iconst (v := (1 : Int32)) d_Mo_byKey_131 (by decide) ?_
      exact aw_ireturn .int rfl rfl d_Mo_byKey_132 w
    · replace w := w.2 cc2
      refine aw_iconst (v := ((-1) : Int32)) d_Mo_byKey_127 (by decide) ?_
      refine aw_goto (tgt := 132) d_Mo_byKey_128 (by decide) ?_
      exact aw_ireturn .int rfl rfl d_Mo_byKey_132 w
set_option maxRecDepth 20000 in
theorem r_Mo_byKeys_0 {E : zE} {K n : Nat → Nat} {I : Nat → Nat → Int32} {F : Nat → Nat → Option Nat} {J : Nat → Nat → Int64} {cb sb : Nat} {Q : zO → zH → Prop} {a0 : Nat} {a1 : Nat} {a2 : Nat} {x3 : Int32} {a4 : Nat} {a5 : Nat} {x6 : Int32}
    (w : AW E m_Mo_byKeys (K, n, I, F, J) cb sb Q 3 [some (.ref a0), some (.ref a1), some (.ref a2), some (.int x3), some (.ref a4), some (.ref a5), some (.int x6), some (.int (0 : Int32)), none] []) :
    AW E m_Mo_byKeys (K, n, I, F, J) cb sb Q 0 [some (.ref a0), some (.ref a1), some (.ref a2), some (.int x3), some (.ref a4), some (.ref a5), some (.int x6), none, none] [] := by
  refine aw_iconst (v := (0 : Int32)) d_Mo_byKeys_0 (by decide) ?_
  refine aw_istore d_Mo_byKeys_1 (by decide) ?_
  exact aw_weak (lv' := [some (.ref a0), some (.ref a1), some (.ref a2), some (.int x3), some (.ref a4), some (.ref a5), some (.int x6), some (.int (0 : Int32)), none]) ⟨rfl, rfl, rfl, rfl, rfl, rfl, rfl, rfl, trivial⟩ w
set_option maxRecDepth 20000 in
theorem r_Mo_byKeys_3 {E : zE} {K n : Nat → Nat} {I : Nat → Nat → Int32} {F : Nat → Nat → Option Nat} {J : Nat → Nat → Int64} {cb sb : Nat} {Q : zO → zH → Prop} {a0 : Nat} {a1 : Nat} {a2 : Nat} {x3 : Int32} {a4 : Nat} {a5 : Nat} {x6 : Int32} {x7 : Int32}
    (w : K a0 = 9 ∧ (∃ b2 : Nat, F a0 5 = some b2 ∧ K b2 = 21 ∧ (∃ j4 : Nat, (1 : Int32) = nI j4 ∧ j4 < n b2 ∧ j4 < 2147483648 ∧ (((I b2 j4) ≤ x7 → Q (.inl (some (.int (0 : Int32)))) (K, n, I, F, J)) ∧ (¬ (I b2 j4) ≤ x7 → AW E m_Mo_byKey (K, n, I, F, J) 0 0 (zAft E m_Mo_byKeys cb sb Q 26 [some (.ref a0), some (.ref a1), some (.ref a2), some (.int x3), some (.ref a4), some (.ref a5), some (.int x6), some (.int x7), none] []) 0 [some (.ref a0), some (.int x7), some (.ref a1), some (.ref a2), some (.int x3), some (.ref a4), some (.ref a5), some (.int x6), none, none, none, none, none] []))))) :
    AW E m_Mo_byKeys (K, n, I, F, J) cb sb Q 3 [some (.ref a0), some (.ref a1), some (.ref a2), some (.int x3), some (.ref a4), some (.ref a5), some (.int x6), some (.int x7), none] [] := by
  refine aw_iload (x := x7) d_Mo_byKeys_3 rfl ?_
  refine aw_aload_n (x := a0) d_Mo_byKeys_5 rfl ?_
  obtain ⟨hk1, w⟩ := w
  obtain ⟨b2, hb2, w⟩ := w
  refine gs_Mo_16 rfl hk1 hb2 d_Mo_byKeys_6 ?_
  refine aw_iconst (v := (1 : Int32)) d_Mo_byKeys_9 (by decide) ?_
  obtain ⟨hk3, w⟩ := w
  obtain ⟨j4, hj4a, hj4b, hj4c, w⟩ := w
  refine aw_iaload j4 hk3 hj4a hj4b hj4c d_Mo_byKeys_10 ?_
  refine aw_icmp_ge (tgt := 67) d_Mo_byKeys_11 (by decide) (fun cc5 => ?_) (fun cc5 => ?_)
  · replace w := w.1 cc5
    refine aw_iconst (v := (0 : Int32)) d_Mo_byKeys_67 (by decide) ?_
    exact aw_ireturn .int rfl rfl d_Mo_byKeys_68 w
  · replace w := w.2 cc5
    refine aw_aload_n (x := a0) d_Mo_byKeys_14 rfl ?_
    refine aw_iload (x := x7) d_Mo_byKeys_15 rfl ?_
    refine aw_aload_n (x := a1) d_Mo_byKeys_17 rfl ?_
    refine aw_aload_n (x := a2) d_Mo_byKeys_18 rfl ?_
    refine aw_iload_n (x := x3) d_Mo_byKeys_19 rfl ?_
    refine aw_aload (x := a4) d_Mo_byKeys_20 rfl ?_
    refine aw_aload (x := a5) d_Mo_byKeys_22 rfl ?_
    refine aw_iload (x := x6) d_Mo_byKeys_24 rfl ?_
    exact aw_room (cb' := 0 + cb) (sb' := 0 + sb) (by omega) (by omega) (aw_weak (lv' := [some (.ref a0), some (.ref a1), some (.ref a2), some (.int x3), some (.ref a4), some (.ref a5), some (.int x6), some (.int x7), none]) ⟨rfl, rfl, rfl, rfl, rfl, rfl, rfl, rfl, trivial⟩ (aw_callV (M' := m_Mo_byKey) (lv0 := [some (.ref a0), some (.int x7), some (.ref a1), some (.ref a2), some (.int x3), some (.ref a4), some (.ref a5), some (.int x6), none, none, none, none, none]) (As := [.int x7, .ref a1, .ref a2, .int x3, .ref a4, .ref a5, .int x6]) (rest := []) 8 1084 1086 1087 rfl (by decide) rfl hk1 tb_1084 tb_1086 tb_1087 (fun U hU => hU.p 55 rfl) rfl rfl 7 0 rfl rfl ⟨by decide, by decide, by decide +kernel, by decide +kernel, by decide, by decide⟩ (Nat.le_of_ble_eq_true rfl) ⟨rfl, rfl, rfl, rfl, rfl, rfl, rfl, rfl, trivial⟩ rfl d_Mo_byKeys_26 w))
set_option maxRecDepth 20000 in
theorem r_Mo_byKeys_29 {E : zE} {K n : Nat → Nat} {I : Nat → Nat → Int32} {F : Nat → Nat → Option Nat} {J : Nat → Nat → Int64} {cb sb : Nat} {Q : zO → zH → Prop} {a0 : Nat} {a1 : Nat} {a2 : Nat} {x3 : Int32} {a4 : Nat} {a5 : Nat} {x6 : Int32} {x7 : Int32} {sx0 : Int32}
    (w : ((sx0 = 0 → AW E m_Mo_byKeys (K, n, I, F, J) cb sb Q 3 [some (.ref a0), some (.ref a1), some (.ref a2), some (.int x3), some (.ref a4), some (.ref a5), some (.int x6), some (.int (x7 + (1 : Int32))), none] []) ∧ (¬ sx0 = 0 → K a0 = 9 ∧ (∃ b3 : Nat, F a0 7 = some b3 ∧ K b3 = 21 ∧ (∃ j5 : Nat, (((4 : Int32) * x7) + (2 : Int32)) = nI j5 ∧ j5 < n b3 ∧ j5 < 2147483648 ∧ ((¬ (I b3 j5) = (1 : Int32) → Q (.inl (some (.int sx0))) (K, n, I, F, J)) ∧ ((I b3 j5) = (1 : Int32) → Q (.inl (some (.int ((0 : Int32) - sx0)))) (K, n, I, F, J)))))))) :
    AW E m_Mo_byKeys (K, n, I, F, J) cb sb Q 29 [some (.ref a0), some (.ref a1), some (.ref a2), some (.int x3), some (.ref a4), some (.ref a5), some (.int x6), some (.int x7), none] [.int sx0] := by
  refine aw_istore d_Mo_byKeys_29 (by decide) ?_
  refine aw_iload (x := sx0) d_Mo_byKeys_31 rfl ?_
  refine aw_if_eq (tgt := 61) d_Mo_byKeys_33 (by decide) (fun cc1 => ?_) (fun cc1 => ?_)
  · replace w := w.1 cc1
    refine aw_iinc (v := (x7 + (1 : Int32))) d_Mo_byKeys_61 rfl (by rfl) (by decide) ?_
    refine aw_goto (tgt := 3) d_Mo_byKeys_64 (by decide) ?_
    exact aw_weak (lv' := [some (.ref a0), some (.ref a1), some (.ref a2), some (.int x3), some (.ref a4), some (.ref a5), some (.int x6), some (.int (x7 + (1 : Int32))), none]) ⟨rfl, rfl, rfl, rfl, rfl, rfl, rfl, rfl, trivial⟩ w
  · replace w := w.2 cc1
    refine aw_aload_n (x := a0) d_Mo_byKeys_36 rfl ?_
    obtain ⟨hk2, w⟩ := w
    obtain ⟨b3, hb3, w⟩ := w
    refine gs_Mo_22 rfl hk2 hb3 d_Mo_byKeys_37 ?_
    refine aw_iconst (v := (4 : Int32)) d_Mo_byKeys_40 (by decide) ?_
    refine aw_iload (x := x7) d_Mo_byKeys_41 rfl ?_
    refine aw_imul d_Mo_byKeys_43 ?_
    refine aw_iconst (v := (2 : Int32)) d_Mo_byKeys_44 (by decide) ?_
    refine aw_iadd d_Mo_byKeys_45 ?_
    obtain ⟨hk4, w⟩ := w
    obtain ⟨j5, hj5a, hj5b, hj5c, w⟩ := w
    refine aw_iaload j5 hk4 hj5a hj5b hj5c d_Mo_byKeys_46 ?_
    refine aw_iconst (v := (1 : Int32)) d_Mo_byKeys_47 (by decide) ?_
    refine aw_icmp_ne (tgt := 58) d_Mo_byKeys_48 (by decide) (fun cc6 => ?_) (fun cc6 => ?_)
    · replace w := w.1 cc6
      refine aw_iload (x := sx0) d_Mo_byKeys_58 rfl ?_
      exact aw_ireturn .int rfl rfl d_Mo_byKeys_60 w
    · replace w := w.2 cc6
      refine aw_iconst (v := (0 : Int32)) d_Mo_byKeys_51 (by decide) ?_
      refine aw_iload (x := sx0) d_Mo_byKeys_52 rfl ?_
      refine aw_isub d_Mo_byKeys_54 ?_
      refine aw_goto (tgt := 60) d_Mo_byKeys_55 (by decide) ?_
      exact aw_ireturn .int rfl rfl d_Mo_byKeys_60 w
set_option maxRecDepth 20000 in
theorem r_Mo_holds_0 {E : zE} {K n : Nat → Nat} {I : Nat → Nat → Int32} {F : Nat → Nat → Option Nat} {J : Nat → Nat → Int64} {cb sb : Nat} {Q : zO → zH → Prop} {a0 : Nat} {x1 : Int32} {x2 : Int32}
    (w : K a0 = 9 ∧ (∃ b2 : Nat, F a0 8 = some b2 ∧ K b2 = 21 ∧ (∃ j4 : Nat, (((6 : Int32) * x1) + (2 : Int32)) = nI j4 ∧ j4 < n b2 ∧ j4 < 2147483648 ∧ (∃ j5 : Nat, (((6 : Int32) * x1) + (5 : Int32)) = nI j5 ∧ j5 < n b2 ∧ j5 < 2147483648 ∧ (((I b2 j4) ≤ (I b2 j5) → AW E m_Mo_holds (K, n, I, F, J) cb sb Q 51 [some (.ref a0), some (.int x1), some (.int x2), some (.int ((6 : Int32) * x1)), some (.int (I b2 j5)), some (.int (0 : Int32)), some (.int (0 : Int32)), none, none] []) ∧ (¬ (I b2 j4) ≤ (I b2 j5) → AW E m_Mo_holds (K, n, I, F, J) cb sb Q 51 [some (.ref a0), some (.int x1), some (.int x2), some (.int ((6 : Int32) * x1)), some (.int (I b2 j4)), some (.int (0 : Int32)), some (.int (0 : Int32)), none, none] [])))))) :
    AW E m_Mo_holds (K, n, I, F, J) cb sb Q 0 [some (.ref a0), some (.int x1), some (.int x2), none, none, none, none, none, none] [] := by
  refine aw_bipush (v := (6 : Int32)) d_Mo_holds_0 (by decide) ?_
  refine aw_iload_n (x := x1) d_Mo_holds_2 rfl ?_
  refine aw_imul d_Mo_holds_3 ?_
  refine aw_istore_n d_Mo_holds_4 (by decide) ?_
  refine aw_aload_n (x := a0) d_Mo_holds_5 rfl ?_
  obtain ⟨hk1, w⟩ := w
  obtain ⟨b2, hb2, w⟩ := w
  refine gs_Mo_25 rfl hk1 hb2 d_Mo_holds_6 ?_
  refine aw_iload_n (x := ((6 : Int32) * x1)) d_Mo_holds_9 rfl ?_
  refine aw_iconst (v := (2 : Int32)) d_Mo_holds_10 (by decide) ?_
  refine aw_iadd d_Mo_holds_11 ?_
  obtain ⟨hk3, w⟩ := w
  obtain ⟨j4, hj4a, hj4b, hj4c, w⟩ := w
  refine aw_iaload j4 hk3 hj4a hj4b hj4c d_Mo_holds_12 ?_
  refine aw_aload_n (x := a0) d_Mo_holds_13 rfl ?_
  refine gs_Mo_25 rfl hk1 hb2 d_Mo_holds_14 ?_
  refine aw_iload_n (x := ((6 : Int32) * x1)) d_Mo_holds_17 rfl ?_
  refine aw_iconst (v := (5 : Int32)) d_Mo_holds_18 (by decide) ?_
  refine aw_iadd d_Mo_holds_19 ?_
  obtain ⟨j5, hj5a, hj5b, hj5c, w⟩ := w
  refine aw_iaload j5 hk3 hj5a hj5b hj5c d_Mo_holds_20 ?_
  refine aw_icmp_le (tgt := 35) d_Mo_holds_21 (by decide) (fun cc6 => ?_) (fun cc6 => ?_)
  · replace w := w.1 cc6
    refine aw_aload_n (x := a0) d_Mo_holds_35 rfl ?_
    refine gs_Mo_25 rfl hk1 hb2 d_Mo_holds_36 ?_
    refine aw_iload_n (x := ((6 : Int32) * x1)) d_Mo_holds_39 rfl ?_
    refine aw_iconst (v := (5 : Int32)) d_Mo_holds_40 (by decide) ?_
    refine aw_iadd d_Mo_holds_41 ?_
    refine aw_iaload j5 hk3 hj5a hj5b hj5c d_Mo_holds_42 ?_
    refine aw_istore d_Mo_holds_43 (by decide) ?_
    refine aw_iconst (v := (0 : Int32)) d_Mo_holds_45 (by decide) ?_
    refine aw_istore d_Mo_holds_46 (by decide) ?_
    refine aw_iconst (v := (0 : Int32)) d_Mo_holds_48 (by decide) ?_
    refine aw_istore d_Mo_holds_49 (by decide) ?_
    exact aw_weak (lv' := [some (.ref a0), some (.int x1), some (.int x2), some (.int ((6 : Int32) * x1)), some (.int (I b2 j5)), some (.int (0 : Int32)), some (.int (0 : Int32)), none, none]) ⟨rfl, rfl, rfl, rfl, rfl, rfl, rfl, trivial⟩ w
  · replace w := w.2 cc6
    refine aw_aload_n (x := a0) d_Mo_holds_24 rfl ?_
    refine gs_Mo_25 rfl hk1 hb2 d_Mo_holds_25 ?_
    refine aw_iload_n (x := ((6 : Int32) * x1)) d_Mo_holds_28 rfl ?_
    refine aw_iconst (v := (2 : Int32)) d_Mo_holds_29 (by decide) ?_
    refine aw_iadd d_Mo_holds_30 ?_
    refine aw_iaload j4 hk3 hj4a hj4b hj4c d_Mo_holds_31 ?_
    refine aw_goto (tgt := 43) d_Mo_holds_32 (by decide) ?_
    refine aw_istore d_Mo_holds_43 (by decide) ?_
    refine aw_iconst (v := (0 : Int32)) d_Mo_holds_45 (by decide) ?_
    refine aw_istore d_Mo_holds_46 (by decide) ?_
    refine aw_iconst (v := (0 : Int32)) d_Mo_holds_48 (by decide) ?_
    refine aw_istore d_Mo_holds_49 (by decide) ?_
    exact aw_weak (lv' := [some (.ref a0), some (.int x1), some (.int x2), some (.int ((6 : Int32) * x1)), some (.int (I b2 j4)), some (.int (0 : Int32)), some (.int (0 : Int32)), none, none]) ⟨rfl, rfl, rfl, rfl, rfl, rfl, rfl, trivial⟩ w
set_option maxRecDepth 20000 in
theorem r_Mo_holds_51 {E : zE} {K n : Nat → Nat} {I : Nat → Nat → Int32} {F : Nat → Nat → Option Nat} {J : Nat → Nat → Int64} {cb sb : Nat} {Q : zO → zH → Prop} {a0 : Nat} {x1 : Int32} {x2 : Int32} {x3 : Int32} {x4 : Int32} {x5 : Int32} {x6 : Int32}
    (w : ((x4 ≤ x6 → K a0 = 9 ∧ (∃ b3 : Nat, F a0 8 = some b3 ∧ K b3 = 21 ∧ (∃ j5 : Nat, (x3 + (3 : Int32)) = nI j5 ∧ j5 < n b3 ∧ j5 < 2147483648 ∧ (((I b3 j5) = 35 → ((x5 = 0 → Q (.inl (some (.int (0 : Int32)))) (K, n, I, F, J)) ∧ (¬ x5 = 0 → Q (.inl (some (.int (1 : Int32)))) (K, n, I, F, J)))) ∧ ((I b3 j5) = 60 → ((0 ≤ x5 → Q (.inl (some (.int (0 : Int32)))) (K, n, I, F, J)) ∧ (¬ 0 ≤ x5 → Q (.inl (some (.int (1 : Int32)))) (K, n, I, F, J)))) ∧ ((I b3 j5) = 61 → ((¬ x5 = 0 → Q (.inl (some (.int (0 : Int32)))) (K, n, I, F, J)) ∧ (x5 = 0 → Q (.inl (some (.int (1 : Int32)))) (K, n, I, F, J)))) ∧ (¬ (I b3 j5) = 35 → ¬ (I b3 j5) = 60 → ¬ (I b3 j5) = 61 → ((x5 ≤ 0 → Q (.inl (some (.int (0 : Int32)))) (K, n, I, F, J)) ∧ (¬ x5 ≤ 0 → Q (.inl (some (.int (1 : Int32)))) (K, n, I, F, J)))))))) ∧ (¬ x4 ≤ x6 → ((¬ x5 = 0 → K a0 = 9 ∧ (∃ b13 : Nat, F a0 8 = some b13 ∧ K b13 = 21 ∧ (∃ j15 : Nat, (x3 + (3 : Int32)) = nI j15 ∧ j15 < n b13 ∧ j15 < 2147483648 ∧ (((I b13 j15) = 35 → ((x5 = 0 → Q (.inl (some (.int (0 : Int32)))) (K, n, I, F, J)) ∧ (¬ x5 = 0 → Q (.inl (some (.int (1 : Int32)))) (K, n, I, F, J)))) ∧ ((I b13 j15) = 60 → ((0 ≤ x5 → Q (.inl (some (.int (0 : Int32)))) (K, n, I, F, J)) ∧ (¬ 0 ≤ x5 → Q (.inl (some (.int (1 : Int32)))) (K, n, I, F, J)))) ∧ ((I b13 j15) = 61 → ((¬ x5 = 0 → Q (.inl (some (.int (0 : Int32)))) (K, n, I, F, J)) ∧ (x5 = 0 → Q (.inl (some (.int (1 : Int32)))) (K, n, I, F, J)))) ∧ (¬ (I b13 j15) = 35 → ¬ (I b13 j15) = 60 → ¬ (I b13 j15) = 61 → ((x5 ≤ 0 → Q (.inl (some (.int (0 : Int32)))) (K, n, I, F, J)) ∧ (¬ x5 ≤ 0 → Q (.inl (some (.int (1 : Int32)))) (K, n, I, F, J)))))))) ∧ (x5 = 0 → K a0 = 9 ∧ (∃ b22 : Nat, F a0 8 = some b22 ∧ K b22 = 21 ∧ (∃ j24 : Nat, (x3 + (2 : Int32)) = nI j24 ∧ j24 < n b22 ∧ j24 < 2147483648 ∧ (((I b22 j24) ≤ x6 → (∃ j26 : Nat, (x3 + (5 : Int32)) = nI j26 ∧ j26 < n b22 ∧ j26 < 2147483648 ∧ ((x6 < (I b22 j26) → (∃ j28 : Nat, (x3 + (4 : Int32)) = nI j28 ∧ j28 < n b22 ∧ j28 < 2147483648 ∧ ((¬ (I b22 j28) = 0 → (∃ b30 : Nat, F a0 12 = some b30 ∧ (∃ b31 : Nat, F a0 13 = some b31 ∧ AW E m_Mo_byteOf (K, n, I, F, J) 0 0 (zAft E m_Mo_holds cb sb Q 174 [some (.ref a0), some (.int x1), some (.int x2), some (.int x3), some (.int x4), none, some (.int x6), some (.int (32 : Int32)), none] []) 0 [some (.ref b30), some (.ref b31), some (.int x2), some (.int (((I b22 j28) - (1 : Int32)) + x6))] []))) ∧ ((I b22 j28) = 0 → (∃ b32 : Nat, F a0 11 = some b32 ∧ K b32 = 21 ∧ (∃ j34 : Nat, (((20 : Int32) * x1) + x6) = nI j34 ∧ j34 < n b32 ∧ j34 < 2147483648 ∧ AW E m_Mo_holds (K, n, I, F, J) cb sb Q 177 [some (.ref a0), some (.int x1), some (.int x2), some (.int x3), some (.int x4), none, some (.int x6), some (.int (32 : Int32)), none] [.int (I b32 j34)])))))) ∧ (¬ x6 < (I b22 j26) → AW E m_Mo_holds (K, n, I, F, J) cb sb Q 177 [some (.ref a0), some (.int x1), some (.int x2), some (.int x3), some (.int x4), none, some (.int x6), some (.int (32 : Int32)), none] [.int (32 : Int32)])))) ∧ (¬ (I b22 j24) ≤ x6 → (∃ b35 : Nat, F a0 12 = some b35 ∧ (∃ b36 : Nat, F a0 13 = some b36 ∧ (∃ j37 : Nat, (x3 + (1 : Int32)) = nI j37 ∧ j37 < n b22 ∧ j37 < 2147483648 ∧ AW E m_Mo_byteOf (K, n, I, F, J) 0 0 (zAft E m_Mo_holds cb sb Q 98 [some (.ref a0), some (.int x1), some (.int x2), some (.int x3), some (.int x4), none, some (.int x6), none, none] []) 0 [some (.ref b35), some (.ref b36), some (.int x2), some (.int (((I b22 j37) - (1 : Int32)) + x6))] [])))))))))))) :
    AW E m_Mo_holds (K, n, I, F, J) cb sb Q 51 [some (.ref a0), some (.int x1), some (.int x2), some (.int x3), some (.int x4), some (.int x5), some (.int x6), none, none] [] := by
  refine aw_iload (x := x6) d_Mo_holds_51 rfl ?_
  refine aw_iload (x := x4) d_Mo_holds_53 rfl ?_
  refine aw_icmp_ge (tgt := 210) d_Mo_holds_55 (by decide) (fun cc1 => ?_) (fun cc1 => ?_)
  · replace w := w.1 cc1
    refine aw_aload_n (x := a0) d_Mo_holds_210 rfl ?_
    obtain ⟨hk2, w⟩ := w
    obtain ⟨b3, hb3, w⟩ := w
    refine gs_Mo_25 rfl hk2 hb3 d_Mo_holds_211 ?_
    refine aw_iload_n (x := x3) d_Mo_holds_214 rfl ?_
    refine aw_iconst (v := (3 : Int32)) d_Mo_holds_215 (by decide) ?_
    refine aw_iadd d_Mo_holds_216 ?_
    obtain ⟨hk4, w⟩ := w
    obtain ⟨j5, hj5a, hj5b, hj5c, w⟩ := w
    refine aw_iaload j5 hk4 hj5a hj5b hj5c d_Mo_holds_217 ?_
    by_cases cc6_0 : (I b3 j5) = 35
    · replace w := w.1 cc6_0
      refine aw_lookup (off := 45) (tgt := 263) d_Mo_holds_218 (by decide) (by rw [cc6_0]; rfl) (by decide) ?_
      refine aw_iload (x := x5) d_Mo_holds_263 rfl ?_
      refine aw_if_eq (tgt := 272) d_Mo_holds_265 (by decide) (fun cc7 => ?_) (fun cc7 => ?_)
      · replace w := w.1 cc7
        refine aw_iconst (v := (0 : Int32)) d_Mo_holds_272 (by decide) ?_
        exact aw_ireturn .boolean rfl rfl d_Mo_holds_273 w
      · replace w := w.2 cc7
        refine aw_iconst (v := (1 : Int32)) d_Mo_holds_268 (by decide) ?_
        refine aw_goto (tgt := 273) d_Mo_holds_269 (by decide) ?_
        exact aw_ireturn .boolean rfl rfl d_Mo_holds_273 w
    by_cases cc6_1 : (I b3 j5) = 60
    · replace w := w.2.1 cc6_1
      refine aw_lookup (off := 56) (tgt := 274) d_Mo_holds_218 (by decide) (by rw [cc6_1]; rfl) (by decide) ?_
      refine aw_iload (x := x5) d_Mo_holds_274 rfl ?_
      refine aw_if_ge (tgt := 283) d_Mo_holds_276 (by decide) (fun cc8 => ?_) (fun cc8 => ?_)
      · replace w := w.1 cc8
        refine aw_iconst (v := (0 : Int32)) d_Mo_holds_283 (by decide) ?_
        exact aw_ireturn .boolean rfl rfl d_Mo_holds_284 w
      · replace w := w.2 cc8
        refine aw_iconst (v := (1 : Int32)) d_Mo_holds_279 (by decide) ?_
        refine aw_goto (tgt := 284) d_Mo_holds_280 (by decide) ?_
        exact aw_ireturn .boolean rfl rfl d_Mo_holds_284 w
    by_cases cc6_2 : (I b3 j5) = 61
    · replace w := w.2.2.1 cc6_2
      refine aw_lookup (off := 34) (tgt := 252) d_Mo_holds_218 (by decide) (by rw [cc6_2]; rfl) (by decide) ?_
      refine aw_iload (x := x5) d_Mo_holds_252 rfl ?_
      refine aw_if_ne (tgt := 261) d_Mo_holds_254 (by decide) (fun cc9 => ?_) (fun cc9 => ?_)
      · replace w := w.1 cc9
        refine aw_iconst (v := (0 : Int32)) d_Mo_holds_261 (by decide) ?_
        exact aw_ireturn .boolean rfl rfl d_Mo_holds_262 w
      · replace w := w.2 cc9
        refine aw_iconst (v := (1 : Int32)) d_Mo_holds_257 (by decide) ?_
        refine aw_goto (tgt := 262) d_Mo_holds_258 (by decide) ?_
        exact aw_ireturn .boolean rfl rfl d_Mo_holds_262 w
    replace w := w.2.2.2 cc6_0 cc6_1 cc6_2
    refine aw_lookup (off := 67) (tgt := 285) d_Mo_holds_218 (by decide) ((lv_osw cc6_0 rfl).trans ((lv_osw cc6_1 rfl).trans ((lv_osw cc6_2 rfl).trans rfl))) (by decide) ?_
    refine aw_iload (x := x5) d_Mo_holds_285 rfl ?_
    refine aw_if_le (tgt := 294) d_Mo_holds_287 (by decide) (fun cc10 => ?_) (fun cc10 => ?_)
    · replace w := w.1 cc10
      refine aw_iconst (v := (0 : Int32)) d_Mo_holds_294 (by decide) ?_
      exact aw_ireturn .boolean rfl rfl d_Mo_holds_295 w
    · replace w := w.2 cc10
      refine aw_iconst (v := (1 : Int32)) d_Mo_holds_290 (by decide) ?_
      refine aw_goto (tgt := 295) d_Mo_holds_291 (by decide) ?_
      exact aw_ireturn .boolean rfl rfl d_Mo_holds_295 w
  · replace w := w.2 cc1
    refine aw_iload (x := x5) d_Mo_holds_58 rfl ?_
    refine aw_if_ne (tgt := 210) d_Mo_holds_60 (by decide) (fun cc11 => ?_) (fun cc11 => ?_)
    · replace w := w.1 cc11
      refine aw_aload_n (x := a0) d_Mo_holds_210 rfl ?_
      obtain ⟨hk12, w⟩ := w
      obtain ⟨b13, hb13, w⟩ := w
      refine gs_Mo_25 rfl hk12 hb13 d_Mo_holds_211 ?_
      refine aw_iload_n (x := x3) d_Mo_holds_214 rfl ?_
      refine aw_iconst (v := (3 : Int32)) d_Mo_holds_215 (by decide) ?_
      refine aw_iadd d_Mo_holds_216 ?_
      obtain ⟨hk14, w⟩ := w
      obtain ⟨j15, hj15a, hj15b, hj15c, w⟩ := w
      refine aw_iaload j15 hk14 hj15a hj15b hj15c d_Mo_holds_217 ?_
      by_cases cc16_0 : (I b13 j15) = 35
      · replace w := w.1 cc16_0
        refine aw_lookup (off := 45) (tgt := 263) d_Mo_holds_218 (by decide) (by rw [cc16_0]; rfl) (by decide) ?_
        refine aw_iload (x := x5) d_Mo_holds_263 rfl ?_
        refine aw_if_eq (tgt := 272) d_Mo_holds_265 (by decide) (fun cc17 => ?_) (fun cc17 => ?_)
        · replace w := w.1 cc17
          refine aw_iconst (v := (0 : Int32)) d_Mo_holds_272 (by decide) ?_
          exact aw_ireturn .boolean rfl rfl d_Mo_holds_273 w
        · replace w := w.2 cc17
          refine aw_iconst (v := (1 : Int32)) d_Mo_holds_268 (by decide) ?_
          refine aw_goto (tgt := 273) d_Mo_holds_269 (by decide) ?_
          exact aw_ireturn .boolean rfl rfl d_Mo_holds_273 w
      by_cases cc16_1 : (I b13 j15) = 60
      · replace w := w.2.1 cc16_1
        refine aw_lookup (off := 56) (tgt := 274) d_Mo_holds_218 (by decide) (by rw [cc16_1]; rfl) (by decide) ?_
        refine aw_iload (x := x5) d_Mo_holds_274 rfl ?_
        refine aw_if_ge (tgt := 283) d_Mo_holds_276 (by decide) (fun cc18 => ?_) (fun cc18 => ?_)
        · replace w := w.1 cc18
          refine aw_iconst (v := (0 : Int32)) d_Mo_holds_283 (by decide) ?_
          exact aw_ireturn .boolean rfl rfl d_Mo_holds_284 w
        · replace w := w.2 cc18
          refine aw_iconst (v := (1 : Int32)) d_Mo_holds_279 (by decide) ?_
          refine aw_goto (tgt := 284) d_Mo_holds_280 (by decide) ?_
          exact aw_ireturn .boolean rfl rfl d_Mo_holds_284 w
      by_cases cc16_2 : (I b13 j15) = 61
      · replace w := w.2.2.1 cc16_2
        refine aw_lookup (off := 34) (tgt := 252) d_Mo_holds_218 (by decide) (by rw [cc16_2]; rfl) (by decide) ?_
        refine aw_iload (x := x5) d_Mo_holds_252 rfl ?_
        refine aw_if_ne (tgt := 261) d_Mo_holds_254 (by decide) (fun cc19 => ?_) (fun cc19 => ?_)
        · replace w := w.1 cc19
          refine aw_iconst (v := (0 : Int32)) d_Mo_holds_261 (by decide) ?_
          exact aw_ireturn .boolean rfl rfl d_Mo_holds_262 w
        · replace w := w.2 cc19
          refine aw_iconst (v := (1 : Int32)) d_Mo_holds_257 (by decide) ?_
          refine aw_goto (tgt := 262) d_Mo_holds_258 (by decide) ?_
          exact aw_ireturn .boolean rfl rfl d_Mo_holds_262 w
      replace w := w.2.2.2 cc16_0 cc16_1 cc16_2
      refine aw_lookup (off := 67) (tgt := 285) d_Mo_holds_218 (by decide) ((lv_osw cc16_0 rfl).trans ((lv_osw cc16_1 rfl).trans ((lv_osw cc16_2 rfl).trans rfl))) (by decide) ?_
      refine aw_iload (x := x5) d_Mo_holds_285 rfl ?_
      refine aw_if_le (tgt := 294) d_Mo_holds_287 (by decide) (fun cc20 => ?_) (fun cc20 => ?_)
      · replace w := w.1 cc20
        refine aw_iconst (v := (0 : Int32)) d_Mo_holds_294 (by decide) ?_
        exact aw_ireturn .boolean rfl rfl d_Mo_holds_295 w
      · replace w := w.2 cc20
        refine aw_iconst (v := (1 : Int32)) d_Mo_holds_290 (by decide) ?_
        refine aw_goto (tgt := 295) d_Mo_holds_291 (by decide) ?_
        exact aw_ireturn .boolean rfl rfl d_Mo_holds_295 w
    · replace w := w.2 cc11
      refine aw_iload (x := x6) d_Mo_holds_63 rfl ?_
      refine aw_aload_n (x := a0) d_Mo_holds_65 rfl ?_
      obtain ⟨hk21, w⟩ := w
      obtain ⟨b22, hb22, w⟩ := w
      refine gs_Mo_25 rfl hk21 hb22 d_Mo_holds_66 ?_
      refine aw_iload_n (x := x3) d_Mo_holds_69 rfl ?_
      refine aw_iconst (v := (2 : Int32)) d_Mo_holds_70 (by decide) ?_
      refine aw_iadd d_Mo_holds_71 ?_
      obtain ⟨hk23, w⟩ := w
      obtain ⟨j24, hj24a, hj24b, hj24c, w⟩ := w
      refine aw_iaload j24 hk23 hj24a hj24b hj24c d_Mo_holds_72 ?_
      refine aw_icmp_ge (tgt := 104) d_Mo_holds_73 (by decide) (fun cc25 => ?_) (fun cc25 => ?_)
      · replace w := w.1 cc25
        refine aw_bipush (v := (32 : Int32)) d_Mo_holds_104 (by decide) ?_
        refine aw_istore d_Mo_holds_106 (by decide) ?_
        refine aw_iload (x := x6) d_Mo_holds_108 rfl ?_
        refine aw_aload_n (x := a0) d_Mo_holds_110 rfl ?_
        refine gs_Mo_25 rfl hk21 hb22 d_Mo_holds_111 ?_
        refine aw_iload_n (x := x3) d_Mo_holds_114 rfl ?_
        refine aw_iconst (v := (5 : Int32)) d_Mo_holds_115 (by decide) ?_
        refine aw_iadd d_Mo_holds_116 ?_
        obtain ⟨j26, hj26a, hj26b, hj26c, w⟩ := w
        refine aw_iaload j26 hk23 hj26a hj26b hj26c d_Mo_holds_117 ?_
        refine aw_icmp_lt (tgt := 126) d_Mo_holds_118 (by decide) (fun cc27 => ?_) (fun cc27 => ?_)
        · replace w := w.1 cc27
          refine aw_aload_n (x := a0) d_Mo_holds_126 rfl ?_
          refine gs_Mo_25 rfl hk21 hb22 d_Mo_holds_127 ?_
          refine aw_iload_n (x := x3) d_Mo_holds_130 rfl ?_
          refine aw_iconst (v := (4 : Int32)) d_Mo_holds_131 (by decide) ?_
          refine aw_iadd d_Mo_holds_132 ?_
          obtain ⟨j28, hj28a, hj28b, hj28c, w⟩ := w
          refine aw_iaload j28 hk23 hj28a hj28b hj28c d_Mo_holds_133 ?_
          refine aw_if_ne (tgt := 152) d_Mo_holds_134 (by decide) (fun cc29 => ?_) (fun cc29 => ?_)
          · replace w := w.1 cc29
            refine aw_aload_n (x := a0) d_Mo_holds_152 rfl ?_
            obtain ⟨b30, hb30, w⟩ := w
            refine gs_Mo_37 rfl hk21 hb30 d_Mo_holds_153 ?_
            refine aw_aload_n (x := a0) d_Mo_holds_156 rfl ?_
            obtain ⟨b31, hb31, w⟩ := w
            refine gs_Mo_40 rfl hk21 hb31 d_Mo_holds_157 ?_
            refine aw_iload_n (x := x2) d_Mo_holds_160 rfl ?_
            refine aw_aload_n (x := a0) d_Mo_holds_161 rfl ?_
            refine gs_Mo_25 rfl hk21 hb22 d_Mo_holds_162 ?_
            refine aw_iload_n (x := x3) d_Mo_holds_165 rfl ?_
            refine aw_iconst (v := (4 : Int32)) d_Mo_holds_166 (by decide) ?_
            refine aw_iadd d_Mo_holds_167 ?_
            refine aw_iaload j28 hk23 hj28a hj28b hj28c d_Mo_holds_168 ?_
            refine aw_iconst (v := (1 : Int32)) d_Mo_holds_169 (by decide) ?_
            refine aw_isub d_Mo_holds_170 ?_
            refine aw_iload (x := x6) d_Mo_holds_171 rfl ?_
            refine aw_iadd d_Mo_holds_173 ?_
            exact aw_room (cb' := 0 + cb) (sb' := 0 + sb) (by omega) (by omega) (aw_weak (lv' := [some (.ref a0), some (.int x1), some (.int x2), some (.int x3), some (.int x4), none, some (.int x6), some (.int (32 : Int32)), none]) ⟨rfl, rfl, rfl, rfl, rfl, rfl, rfl, trivial⟩ (aw_callS (M' := m_Mo_byteOf) (lv0 := [some (.ref b30), some (.ref b31), some (.int x2), some (.int (((I b22 j28) - (1 : Int32)) + x6))]) (As := [.ref b30, .ref b31, .int x2, .int (((I b22 j28) - (1 : Int32)) + x6)]) (rest := []) 1069 1070 1071 8 tb_1069 tb_1070 tb_1071 tb_8 rfl rfl 4 0 rfl rfl ⟨by decide, by decide, by decide +kernel, by decide +kernel, by decide, by decide⟩ (Nat.le_of_ble_eq_true rfl) ⟨rfl, rfl, rfl, rfl, trivial⟩ rfl d_Mo_holds_174 w))
          · replace w := w.2 cc29
            refine aw_aload_n (x := a0) d_Mo_holds_137 rfl ?_
            obtain ⟨b32, hb32, w⟩ := w
            refine gs_Mo_34 rfl hk21 hb32 d_Mo_holds_138 ?_
            refine aw_bipush (v := (20 : Int32)) d_Mo_holds_141 (by decide) ?_
            refine aw_iload_n (x := x1) d_Mo_holds_143 rfl ?_
            refine aw_imul d_Mo_holds_144 ?_
            refine aw_iload (x := x6) d_Mo_holds_145 rfl ?_
            refine aw_iadd d_Mo_holds_147 ?_
            obtain ⟨hk33, w⟩ := w
            obtain ⟨j34, hj34a, hj34b, hj34c, w⟩ := w
            refine aw_iaload j34 hk33 hj34a hj34b hj34c d_Mo_holds_148 ?_
            refine aw_goto (tgt := 177) d_Mo_holds_149 (by decide) ?_
            exact aw_weak (lv' := [some (.ref a0), some (.int x1), some (.int x2), some (.int x3), some (.int x4), none, some (.int x6), some (.int (32 : Int32)), none]) ⟨rfl, rfl, rfl, rfl, rfl, rfl, rfl, trivial⟩ w
        · replace w := w.2 cc27
          refine aw_bipush (v := (32 : Int32)) d_Mo_holds_121 (by decide) ?_
          refine aw_goto (tgt := 177) d_Mo_holds_123 (by decide) ?_
          exact aw_weak (lv' := [some (.ref a0), some (.int x1), some (.int x2), some (.int x3), some (.int x4), none, some (.int x6), some (.int (32 : Int32)), none]) ⟨rfl, rfl, rfl, rfl, rfl, rfl, rfl, trivial⟩ w
      · replace w := w.2 cc25
        refine aw_aload_n (x := a0) d_Mo_holds_76 rfl ?_
        obtain ⟨b35, hb35, w⟩ := w
        refine gs_Mo_37 rfl hk21 hb35 d_Mo_holds_77 ?_
        refine aw_aload_n (x := a0) d_Mo_holds_80 rfl ?_
        obtain ⟨b36, hb36, w⟩ := w
        refine gs_Mo_40 rfl hk21 hb36 d_Mo_holds_81 ?_
        refine aw_iload_n (x := x2) d_Mo_holds_84 rfl ?_
        refine aw_aload_n (x := a0) d_Mo_holds_85 rfl ?_
        refine gs_Mo_25 rfl hk21 hb22 d_Mo_holds_86 ?_
        refine aw_iload_n (x := x3) d_Mo_holds_89 rfl ?_
        refine aw_iconst (v := (1 : Int32)) d_Mo_holds_90 (by decide) ?_
        refine aw_iadd d_Mo_holds_91 ?_
        obtain ⟨j37, hj37a, hj37b, hj37c, w⟩ := w
        refine aw_iaload j37 hk23 hj37a hj37b hj37c d_Mo_holds_92 ?_
        refine aw_iconst (v := (1 : Int32)) d_Mo_holds_93 (by decide) ?_
        refine aw_isub d_Mo_holds_94 ?_
        refine aw_iload (x := x6) d_Mo_holds_95 rfl ?_
        refine aw_iadd d_Mo_holds_97 ?_
        exact aw_room (cb' := 0 + cb) (sb' := 0 + sb) (by omega) (by omega) (aw_weak (lv' := [some (.ref a0), some (.int x1), some (.int x2), some (.int x3), some (.int x4), none, some (.int x6), none, none]) ⟨rfl, rfl, rfl, rfl, rfl, rfl, trivial⟩ (aw_callS (M' := m_Mo_byteOf) (lv0 := [some (.ref b35), some (.ref b36), some (.int x2), some (.int (((I b22 j37) - (1 : Int32)) + x6))]) (As := [.ref b35, .ref b36, .int x2, .int (((I b22 j37) - (1 : Int32)) + x6)]) (rest := []) 1069 1070 1071 8 tb_1069 tb_1070 tb_1071 tb_8 rfl rfl 4 0 rfl rfl ⟨by decide, by decide, by decide +kernel, by decide +kernel, by decide, by decide⟩ (Nat.le_of_ble_eq_true rfl) ⟨rfl, rfl, rfl, rfl, trivial⟩ rfl d_Mo_holds_98 w))
set_option maxRecDepth 20000 in
theorem r_Mo_holds_101 {E : zE} {K n : Nat → Nat} {I : Nat → Nat → Int32} {F : Nat → Nat → Option Nat} {J : Nat → Nat → Int64} {cb sb : Nat} {Q : zO → zH → Prop} {a0 : Nat} {x1 : Int32} {x2 : Int32} {x3 : Int32} {x4 : Int32} {x6 : Int32} {sx0 : Int32}
    (w : K a0 = 9 ∧ (∃ b2 : Nat, F a0 8 = some b2 ∧ K b2 = 21 ∧ (∃ j4 : Nat, (x3 + (5 : Int32)) = nI j4 ∧ j4 < n b2 ∧ j4 < 2147483648 ∧ ((x6 < (I b2 j4) → (∃ j6 : Nat, (x3 + (4 : Int32)) = nI j6 ∧ j6 < n b2 ∧ j6 < 2147483648 ∧ ((¬ (I b2 j6) = 0 → (∃ b8 : Nat, F a0 12 = some b8 ∧ (∃ b9 : Nat, F a0 13 = some b9 ∧ AW E m_Mo_byteOf (K, n, I, F, J) 0 0 (zAft E m_Mo_holds cb sb Q 174 [some (.ref a0), some (.int x1), some (.int x2), some (.int x3), some (.int x4), none, some (.int x6), some (.int sx0), none] []) 0 [some (.ref b8), some (.ref b9), some (.int x2), some (.int (((I b2 j6) - (1 : Int32)) + x6))] []))) ∧ ((I b2 j6) = 0 → (∃ b10 : Nat, F a0 11 = some b10 ∧ K b10 = 21 ∧ (∃ j12 : Nat, (((20 : Int32) * x1) + x6) = nI j12 ∧ j12 < n b10 ∧ j12 < 2147483648 ∧ AW E m_Mo_holds (K, n, I, F, J) cb sb Q 177 [some (.ref a0), some (.int x1), some (.int x2), some (.int x3), some (.int x4), none, some (.int x6), some (.int sx0), none] [.int (I b10 j12)])))))) ∧ (¬ x6 < (I b2 j4) → AW E m_Mo_holds (K, n, I, F, J) cb sb Q 177 [some (.ref a0), some (.int x1), some (.int x2), some (.int x3), some (.int x4), none, some (.int x6), some (.int sx0), none] [.int (32 : Int32)]))))) :
    AW E m_Mo_holds (K, n, I, F, J) cb sb Q 101 [some (.ref a0), some (.int x1), some (.int x2), some (.int x3), some (.int x4), none, some (.int x6), none, none] [.int sx0] := by
  refine aw_goto (tgt := 106) d_Mo_holds_101 (by decide) ?_
  refine aw_istore d_Mo_holds_106 (by decide) ?_
  refine aw_iload (x := x6) d_Mo_holds_108 rfl ?_
  refine aw_aload_n (x := a0) d_Mo_holds_110 rfl ?_
  obtain ⟨hk1, w⟩ := w
  obtain ⟨b2, hb2, w⟩ := w
  refine gs_Mo_25 rfl hk1 hb2 d_Mo_holds_111 ?_
  refine aw_iload_n (x := x3) d_Mo_holds_114 rfl ?_
  refine aw_iconst (v := (5 : Int32)) d_Mo_holds_115 (by decide) ?_
  refine aw_iadd d_Mo_holds_116 ?_
  obtain ⟨hk3, w⟩ := w
  obtain ⟨j4, hj4a, hj4b, hj4c, w⟩ := w
  refine aw_iaload j4 hk3 hj4a hj4b hj4c d_Mo_holds_117 ?_
  refine aw_icmp_lt (tgt := 126) d_Mo_holds_118 (by decide) (fun cc5 => ?_) (fun cc5 => ?_)
  · replace w := w.1 cc5
    refine aw_aload_n (x := a0) d_Mo_holds_126 rfl ?_
    refine gs_Mo_25 rfl hk1 hb2 d_Mo_holds_127 ?_
    refine aw_iload_n (x := x3) d_Mo_holds_130 rfl ?_
    refine aw_iconst (v := (4 : Int32)) d_Mo_holds_131 (by decide) ?_
    refine aw_iadd d_Mo_holds_132 ?_
    obtain ⟨j6, hj6a, hj6b, hj6c, w⟩ := w
    refine aw_iaload j6 hk3 hj6a hj6b hj6c d_Mo_holds_133 ?_
    refine aw_if_ne (tgt := 152) d_Mo_holds_134 (by decide) (fun cc7 => ?_) (fun cc7 => ?_)
    · replace w := w.1 cc7
      refine aw_aload_n (x := a0) d_Mo_holds_152 rfl ?_
      obtain ⟨b8, hb8, w⟩ := w
      refine gs_Mo_37 rfl hk1 hb8 d_Mo_holds_153 ?_
      refine aw_aload_n (x := a0) d_Mo_holds_156 rfl ?_
      obtain ⟨b9, hb9, w⟩ := w
      refine gs_Mo_40 rfl hk1 hb9 d_Mo_holds_157 ?_
      refine aw_iload_n (x := x2) d_Mo_holds_160 rfl ?_
      refine aw_aload_n (x := a0) d_Mo_holds_161 rfl ?_
      refine gs_Mo_25 rfl hk1 hb2 d_Mo_holds_162 ?_
      refine aw_iload_n (x := x3) d_Mo_holds_165 rfl ?_
      refine aw_iconst (v := (4 : Int32)) d_Mo_holds_166 (by decide) ?_
      refine aw_iadd d_Mo_holds_167 ?_
      refine aw_iaload j6 hk3 hj6a hj6b hj6c d_Mo_holds_168 ?_
      refine aw_iconst (v := (1 : Int32)) d_Mo_holds_169 (by decide) ?_
      refine aw_isub d_Mo_holds_170 ?_
      refine aw_iload (x := x6) d_Mo_holds_171 rfl ?_
      refine aw_iadd d_Mo_holds_173 ?_
      exact aw_room (cb' := 0 + cb) (sb' := 0 + sb) (by omega) (by omega) (aw_weak (lv' := [some (.ref a0), some (.int x1), some (.int x2), some (.int x3), some (.int x4), none, some (.int x6), some (.int sx0), none]) ⟨rfl, rfl, rfl, rfl, rfl, rfl, rfl, trivial⟩ (aw_callS (M' := m_Mo_byteOf) (lv0 := [some (.ref b8), some (.ref b9), some (.int x2), some (.int (((I b2 j6) - (1 : Int32)) + x6))]) (As := [.ref b8, .ref b9, .int x2, .int (((I b2 j6) - (1 : Int32)) + x6)]) (rest := []) 1069 1070 1071 8 tb_1069 tb_1070 tb_1071 tb_8 rfl rfl 4 0 rfl rfl ⟨by decide, by decide, by decide +kernel, by decide +kernel, by decide, by decide⟩ (Nat.le_of_ble_eq_true rfl) ⟨rfl, rfl, rfl, rfl, trivial⟩ rfl d_Mo_holds_174 w))
    · replace w := w.2 cc7
      refine aw_aload_n (x := a0) d_Mo_holds_137 rfl ?_
      obtain ⟨b10, hb10, w⟩ := w
      refine gs_Mo_34 rfl hk1 hb10 d_Mo_holds_138 ?_
      refine aw_bipush (v := (20 : Int32)) d_Mo_holds_141 (by decide) ?_
      refine aw_iload_n (x := x1) d_Mo_holds_143 rfl ?_
      refine aw_imul d_Mo_holds_144 ?_
      refine aw_iload (x := x6) d_Mo_holds_145 rfl ?_
      refine aw_iadd d_Mo_holds_147 ?_
      obtain ⟨hk11, w⟩ := w
      obtain ⟨j12, hj12a, hj12b, hj12c, w⟩ := w
      refine aw_iaload j12 hk11 hj12a hj12b hj12c d_Mo_holds_148 ?_
      refine aw_goto (tgt := 177) d_Mo_holds_149 (by decide) ?_
      exact aw_weak (lv' := [some (.ref a0), some (.int x1), some (.int x2), some (.int x3), some (.int x4), none, some (.int x6), some (.int sx0), none]) ⟨rfl, rfl, rfl, rfl, rfl, rfl, rfl, trivial⟩ w
  · replace w := w.2 cc5
    refine aw_bipush (v := (32 : Int32)) d_Mo_holds_121 (by decide) ?_
    refine aw_goto (tgt := 177) d_Mo_holds_123 (by decide) ?_
    exact aw_weak (lv' := [some (.ref a0), some (.int x1), some (.int x2), some (.int x3), some (.int x4), none, some (.int x6), some (.int sx0), none]) ⟨rfl, rfl, rfl, rfl, rfl, rfl, rfl, trivial⟩ w
set_option maxRecDepth 20000 in
theorem r_Mo_holds_177 {E : zE} {K n : Nat → Nat} {I : Nat → Nat → Int32} {F : Nat → Nat → Option Nat} {J : Nat → Nat → Int64} {cb sb : Nat} {Q : zO → zH → Prop} {a0 : Nat} {x1 : Int32} {x2 : Int32} {x3 : Int32} {x4 : Int32} {x6 : Int32} {x7 : Int32} {sx0 : Int32}
    (w : ((sx0 ≤ x7 → ((x7 ≤ sx0 → AW E m_Mo_holds (K, n, I, F, J) cb sb Q 51 [some (.ref a0), some (.int x1), some (.int x2), some (.int x3), some (.int x4), some (.int (0 : Int32)), some (.int (x6 + (1 : Int32))), none, none] []) ∧ (¬ x7 ≤ sx0 → AW E m_Mo_holds (K, n, I, F, J) cb sb Q 51 [some (.ref a0), some (.int x1), some (.int x2), some (.int x3), some (.int x4), some (.int (1 : Int32)), some (.int (x6 + (1 : Int32))), none, none] []))) ∧ (¬ sx0 ≤ x7 → AW E m_Mo_holds (K, n, I, F, J) cb sb Q 51 [some (.ref a0), some (.int x1), some (.int x2), some (.int x3), some (.int x4), some (.int ((-1) : Int32)), some (.int (x6 + (1 : Int32))), none, none] []))) :
    AW E m_Mo_holds (K, n, I, F, J) cb sb Q 177 [some (.ref a0), some (.int x1), some (.int x2), some (.int x3), some (.int x4), none, some (.int x6), some (.int x7), none] [.int sx0] := by
  refine aw_istore d_Mo_holds_177 (by decide) ?_
  refine aw_iload (x := x7) d_Mo_holds_179 rfl ?_
  refine aw_iload (x := sx0) d_Mo_holds_181 rfl ?_
  refine aw_icmp_ge (tgt := 190) d_Mo_holds_183 (by decide) (fun cc1 => ?_) (fun cc1 => ?_)
  · replace w := w.1 cc1
    refine aw_iload (x := x7) d_Mo_holds_190 rfl ?_
    refine aw_iload (x := sx0) d_Mo_holds_192 rfl ?_
    refine aw_icmp_le (tgt := 201) d_Mo_holds_194 (by decide) (fun cc2 => ?_) (fun cc2 => ?_)
    · replace w := w.1 cc2
      refine aw_iconst (v := (0 : Int32)) d_Mo_holds_201 (by decide) ?_
      refine aw_istore d_Mo_holds_202 (by decide) ?_
      refine aw_iinc (v := (x6 + (1 : Int32))) d_Mo_holds_204 rfl (by rfl) (by decide) ?_
      refine aw_goto (tgt := 51) d_Mo_holds_207 (by decide) ?_
      exact aw_weak (lv' := [some (.ref a0), some (.int x1), some (.int x2), some (.int x3), some (.int x4), some (.int (0 : Int32)), some (.int (x6 + (1 : Int32))), none, none]) ⟨rfl, rfl, rfl, rfl, rfl, rfl, rfl, trivial⟩ w
    · replace w := w.2 cc2
      refine aw_iconst (v := (1 : Int32)) d_Mo_holds_197 (by decide) ?_
      refine aw_goto (tgt := 202) d_Mo_holds_198 (by decide) ?_
      refine aw_istore d_Mo_holds_202 (by decide) ?_
      refine aw_iinc (v := (x6 + (1 : Int32))) d_Mo_holds_204 rfl (by rfl) (by decide) ?_
      refine aw_goto (tgt := 51) d_Mo_holds_207 (by decide) ?_
      exact aw_weak (lv' := [some (.ref a0), some (.int x1), some (.int x2), some (.int x3), some (.int x4), some (.int (1 : Int32)), some (.int (x6 + (1 : Int32))), none, none]) ⟨rfl, rfl, rfl, rfl, rfl, rfl, rfl, trivial⟩ w
  · replace w := w.2 cc1
    refine aw_iconst (v := ((-1) : Int32)) d_Mo_holds_186 (by decide) ?_
    refine aw_goto (tgt := 202) d_Mo_holds_187 (by decide) ?_
    refine aw_istore d_Mo_holds_202 (by decide) ?_
    refine aw_iinc (v := (x6 + (1 : Int32))) d_Mo_holds_204 rfl (by rfl) (by decide) ?_
    refine aw_goto (tgt := 51) d_Mo_holds_207 (by decide) ?_
    exact aw_weak (lv' := [some (.ref a0), some (.int x1), some (.int x2), some (.int x3), some (.int x4), some (.int ((-1) : Int32)), some (.int (x6 + (1 : Int32))), none, none]) ⟨rfl, rfl, rfl, rfl, rfl, rfl, rfl, trivial⟩ w
set_option maxRecDepth 20000 in
theorem r_Mo_comes_0 {E : zE} {K n : Nat → Nat} {I : Nat → Nat → Int32} {F : Nat → Nat → Option Nat} {J : Nat → Nat → Int64} {cb sb : Nat} {Q : zO → zH → Prop} {a0 : Nat} {x1 : Int32}
    (w : K a0 = 9 ∧ (∃ b2 : Nat, F a0 4 = some b2 ∧ K b2 = 21 ∧ (∃ j4 : Nat, (1 : Int32) = nI j4 ∧ j4 < n b2 ∧ j4 < 2147483648 ∧ (∃ j5 : Nat, (2 : Int32) = nI j5 ∧ j5 < n b2 ∧ j5 < 2147483648 ∧ ((¬ ((I b2 j4) + (I b2 j5)) = 0 → AW E m_Mo_holds (K, n, I, F, J) 0 0 (zAft E m_Mo_comes cb sb Q 21 [some (.ref a0), some (.int x1), none, none] []) 0 [some (.ref a0), some (.int (0 : Int32)), some (.int x1), none, none, none, none, none, none] []) ∧ (((I b2 j4) + (I b2 j5)) = 0 → Q (.inl (some (.int (1 : Int32)))) (K, n, I, F, J))))))) :
    AW E m_Mo_comes (K, n, I, F, J) cb sb Q 0 [some (.ref a0), some (.int x1), none, none] [] := by
  refine aw_aload_n (x := a0) d_Mo_comes_0 rfl ?_
  obtain ⟨hk1, w⟩ := w
  obtain ⟨b2, hb2, w⟩ := w
  refine gs_Mo_13 rfl hk1 hb2 d_Mo_comes_1 ?_
  refine aw_iconst (v := (1 : Int32)) d_Mo_comes_4 (by decide) ?_
  obtain ⟨hk3, w⟩ := w
  obtain ⟨j4, hj4a, hj4b, hj4c, w⟩ := w
  refine aw_iaload j4 hk3 hj4a hj4b hj4c d_Mo_comes_5 ?_
  refine aw_aload_n (x := a0) d_Mo_comes_6 rfl ?_
  refine gs_Mo_13 rfl hk1 hb2 d_Mo_comes_7 ?_
  refine aw_iconst (v := (2 : Int32)) d_Mo_comes_10 (by decide) ?_
  obtain ⟨j5, hj5a, hj5b, hj5c, w⟩ := w
  refine aw_iaload j5 hk3 hj5a hj5b hj5c d_Mo_comes_11 ?_
  refine aw_iadd d_Mo_comes_12 ?_
  refine aw_if_ne (tgt := 18) d_Mo_comes_13 (by decide) (fun cc6 => ?_) (fun cc6 => ?_)
  · replace w := w.1 cc6
    refine aw_aload_n (x := a0) d_Mo_comes_18 rfl ?_
    refine aw_iconst (v := (0 : Int32)) d_Mo_comes_19 (by decide) ?_
    refine aw_iload_n (x := x1) d_Mo_comes_20 rfl ?_
    exact aw_room (cb' := 0 + cb) (sb' := 0 + sb) (by omega) (by omega) (aw_weak (lv' := [some (.ref a0), some (.int x1), none, none]) ⟨rfl, rfl, trivial⟩ (aw_callV (M' := m_Mo_holds) (lv0 := [some (.ref a0), some (.int (0 : Int32)), some (.int x1), none, none, none, none, none, none]) (As := [.int (0 : Int32), .int x1]) (rest := []) 8 1065 1067 1068 rfl (by decide) rfl hk1 tb_1065 tb_1067 tb_1068 (fun U hU => hU.p 51 rfl) rfl rfl 2 0 rfl rfl ⟨by decide, by decide, by decide +kernel, by decide +kernel, by decide, by decide⟩ (Nat.le_of_ble_eq_true rfl) ⟨rfl, rfl, rfl, trivial⟩ rfl d_Mo_comes_21 w))
  · replace w := w.2 cc6
    refine aw_iconst (v := (1 : Int32)) d_Mo_comes_16 (by decide) ?_
    exact aw_ireturn .boolean rfl rfl d_Mo_comes_17 w
set_option maxRecDepth 20000 in
theorem r_Mo_comes_24 {E : zE} {K n : Nat → Nat} {I : Nat → Nat → Int32} {F : Nat → Nat → Option Nat} {J : Nat → Nat → Int64} {cb sb : Nat} {Q : zO → zH → Prop} {a0 : Nat} {x1 : Int32} {sx0 : Int32}
    (w : AW E m_Mo_comes (K, n, I, F, J) cb sb Q 27 [some (.ref a0), some (.int x1), some (.int sx0), some (.int (1 : Int32))] []) :
    AW E m_Mo_comes (K, n, I, F, J) cb sb Q 24 [some (.ref a0), some (.int x1), none, none] [.int sx0] := by
  refine aw_istore_n d_Mo_comes_24 (by decide) ?_
  refine aw_iconst (v := (1 : Int32)) d_Mo_comes_25 (by decide) ?_
  refine aw_istore_n d_Mo_comes_26 (by decide) ?_
  exact aw_weak (lv' := [some (.ref a0), some (.int x1), some (.int sx0), some (.int (1 : Int32))]) ⟨rfl, rfl, rfl, rfl, trivial⟩ w
set_option maxRecDepth 20000 in
theorem r_Mo_comes_27 {E : zE} {K n : Nat → Nat} {I : Nat → Nat → Int32} {F : Nat → Nat → Option Nat} {J : Nat → Nat → Int64} {cb sb : Nat} {Q : zO → zH → Prop} {a0 : Nat} {x1 : Int32} {x2 : Int32} {x3 : Int32}
    (w : K a0 = 9 ∧ (∃ b2 : Nat, F a0 5 = some b2 ∧ K b2 = 21 ∧ (∃ j4 : Nat, (2 : Int32) = nI j4 ∧ j4 < n b2 ∧ j4 < 2147483648 ∧ (((I b2 j4) ≤ x3 → (∃ b6 : Nat, F a0 4 = some b6 ∧ K b6 = 21 ∧ (∃ j8 : Nat, (1 : Int32) = nI j8 ∧ j8 < n b6 ∧ j8 < 2147483648 ∧ (((I b6 j8) ≤ 0 → ((¬ x2 = 0 → Q (.inl (some (.int (0 : Int32)))) (K, n, I, F, J)) ∧ (x2 = 0 → Q (.inl (some (.int (1 : Int32)))) (K, n, I, F, J)))) ∧ (¬ (I b6 j8) ≤ 0 → (x2 = 0 ∨ x2 = 1) ∧ Q (.inl (some (.int x2))) (K, n, I, F, J)))))) ∧ (¬ (I b2 j4) ≤ x3 → (∃ b12 : Nat, F a0 8 = some b12 ∧ K b12 = 21 ∧ (∃ j14 : Nat, ((6 : Int32) * x3) = nI j14 ∧ j14 < n b12 ∧ j14 < 2147483648 ∧ ((¬ (I b12 j14) = (1 : Int32) → ((¬ x2 = 0 → AW E m_Mo_comes (K, n, I, F, J) cb sb Q 27 [some (.ref a0), some (.int x1), some (.int (1 : Int32)), some (.int (x3 + (1 : Int32)))] []) ∧ (x2 = 0 → AW E m_Mo_holds (K, n, I, F, J) 0 0 (zAft E m_Mo_comes cb sb Q 78 [some (.ref a0), some (.int x1), none, some (.int x3)] []) 0 [some (.ref a0), some (.int x3), some (.int x1), none, none, none, none, none, none] []))) ∧ ((I b12 j14) = (1 : Int32) → ((x2 = 0 → AW E m_Mo_comes (K, n, I, F, J) cb sb Q 27 [some (.ref a0), some (.int x1), some (.int (0 : Int32)), some (.int (x3 + (1 : Int32)))] []) ∧ (¬ x2 = 0 → AW E m_Mo_holds (K, n, I, F, J) 0 0 (zAft E m_Mo_comes cb sb Q 57 [some (.ref a0), some (.int x1), none, some (.int x3)] []) 0 [some (.ref a0), some (.int x3), some (.int x1), none, none, none, none, none, none] []))))))))))) :
    AW E m_Mo_comes (K, n, I, F, J) cb sb Q 27 [some (.ref a0), some (.int x1), some (.int x2), some (.int x3)] [] := by
  refine aw_iload_n (x := x3) d_Mo_comes_27 rfl ?_
  refine aw_aload_n (x := a0) d_Mo_comes_28 rfl ?_
  obtain ⟨hk1, w⟩ := w
  obtain ⟨b2, hb2, w⟩ := w
  refine gs_Mo_16 rfl hk1 hb2 d_Mo_comes_29 ?_
  refine aw_iconst (v := (2 : Int32)) d_Mo_comes_32 (by decide) ?_
  obtain ⟨hk3, w⟩ := w
  obtain ⟨j4, hj4a, hj4b, hj4c, w⟩ := w
  refine aw_iaload j4 hk3 hj4a hj4b hj4c d_Mo_comes_33 ?_
  refine aw_icmp_ge (tgt := 96) d_Mo_comes_34 (by decide) (fun cc5 => ?_) (fun cc5 => ?_)
  · replace w := w.1 cc5
    refine aw_aload_n (x := a0) d_Mo_comes_96 rfl ?_
    obtain ⟨b6, hb6, w⟩ := w
    refine gs_Mo_13 rfl hk1 hb6 d_Mo_comes_97 ?_
    refine aw_iconst (v := (1 : Int32)) d_Mo_comes_100 (by decide) ?_
    obtain ⟨hk7, w⟩ := w
    obtain ⟨j8, hj8a, hj8b, hj8c, w⟩ := w
    refine aw_iaload j8 hk7 hj8a hj8b hj8c d_Mo_comes_101 ?_
    refine aw_if_le (tgt := 109) d_Mo_comes_102 (by decide) (fun cc9 => ?_) (fun cc9 => ?_)
    · replace w := w.1 cc9
      refine aw_iload_n (x := x2) d_Mo_comes_109 rfl ?_
      refine aw_if_ne (tgt := 117) d_Mo_comes_110 (by decide) (fun cc10 => ?_) (fun cc10 => ?_)
      · replace w := w.1 cc10
        refine aw_iconst (v := (0 : Int32)) d_Mo_comes_117 (by decide) ?_
        exact aw_ireturn .boolean rfl rfl d_Mo_comes_118 w
      · replace w := w.2 cc10
        refine aw_iconst (v := (1 : Int32)) d_Mo_comes_113 (by decide) ?_
        refine aw_goto (tgt := 118) d_Mo_comes_114 (by decide) ?_
        exact aw_ireturn .boolean rfl rfl d_Mo_comes_118 w
    · replace w := w.2 cc9
      refine aw_iload_n (x := x2) d_Mo_comes_105 rfl ?_
      refine aw_goto (tgt := 118) d_Mo_comes_106 (by decide) ?_
      obtain ⟨hz11, w⟩ := w
      exact aw_ireturn .boolean rfl (by rcases hz11 with q | q <;> rw [q] <;> rfl) d_Mo_comes_118 w
  · replace w := w.2 cc5
    refine aw_aload_n (x := a0) d_Mo_comes_37 rfl ?_
    obtain ⟨b12, hb12, w⟩ := w
    refine gs_Mo_25 rfl hk1 hb12 d_Mo_comes_38 ?_
    refine aw_bipush (v := (6 : Int32)) d_Mo_comes_41 (by decide) ?_
    refine aw_iload_n (x := x3) d_Mo_comes_43 rfl ?_
    refine aw_imul d_Mo_comes_44 ?_
    obtain ⟨hk13, w⟩ := w
    obtain ⟨j14, hj14a, hj14b, hj14c, w⟩ := w
    refine aw_iaload j14 hk13 hj14a hj14b hj14c d_Mo_comes_45 ?_
    refine aw_iconst (v := (1 : Int32)) d_Mo_comes_46 (by decide) ?_
    refine aw_icmp_ne (tgt := 71) d_Mo_comes_47 (by decide) (fun cc15 => ?_) (fun cc15 => ?_)
    · replace w := w.1 cc15
      refine aw_iload_n (x := x2) d_Mo_comes_71 rfl ?_
      refine aw_if_ne (tgt := 84) d_Mo_comes_72 (by decide) (fun cc16 => ?_) (fun cc16 => ?_)
      · replace w := w.1 cc16
        refine aw_iconst (v := (1 : Int32)) d_Mo_comes_84 (by decide) ?_
        refine aw_goto (tgt := 89) d_Mo_comes_85 (by decide) ?_
        refine aw_istore_n d_Mo_comes_89 (by decide) ?_
        refine aw_iinc (v := (x3 + (1 : Int32))) d_Mo_comes_90 rfl (by rfl) (by decide) ?_
        refine aw_goto (tgt := 27) d_Mo_comes_93 (by decide) ?_
        exact aw_weak (lv' := [some (.ref a0), some (.int x1), some (.int (1 : Int32)), some (.int (x3 + (1 : Int32)))]) ⟨rfl, rfl, rfl, rfl, trivial⟩ w
      · replace w := w.2 cc16
        refine aw_aload_n (x := a0) d_Mo_comes_75 rfl ?_
        refine aw_iload_n (x := x3) d_Mo_comes_76 rfl ?_
        refine aw_iload_n (x := x1) d_Mo_comes_77 rfl ?_
        exact aw_room (cb' := 0 + cb) (sb' := 0 + sb) (by omega) (by omega) (aw_weak (lv' := [some (.ref a0), some (.int x1), none, some (.int x3)]) ⟨rfl, rfl, rfl, trivial⟩ (aw_callV (M' := m_Mo_holds) (lv0 := [some (.ref a0), some (.int x3), some (.int x1), none, none, none, none, none, none]) (As := [.int x3, .int x1]) (rest := []) 8 1065 1067 1068 rfl (by decide) rfl hk1 tb_1065 tb_1067 tb_1068 (fun U hU => hU.p 51 rfl) rfl rfl 2 0 rfl rfl ⟨by decide, by decide, by decide +kernel, by decide +kernel, by decide, by decide⟩ (Nat.le_of_ble_eq_true rfl) ⟨rfl, rfl, rfl, trivial⟩ rfl d_Mo_comes_78 w))
    · replace w := w.2 cc15
      refine aw_iload_n (x := x2) d_Mo_comes_50 rfl ?_
      refine aw_if_eq (tgt := 67) d_Mo_comes_51 (by decide) (fun cc17 => ?_) (fun cc17 => ?_)
      · replace w := w.1 cc17
        refine aw_iconst (v := (0 : Int32)) d_Mo_comes_67 (by decide) ?_
        refine aw_goto (tgt := 89) d_Mo_comes_68 (by decide) ?_
        refine aw_istore_n d_Mo_comes_89 (by decide) ?_
        refine aw_iinc (v := (x3 + (1 : Int32))) d_Mo_comes_90 rfl (by rfl) (by decide) ?_
        refine aw_goto (tgt := 27) d_Mo_comes_93 (by decide) ?_
        exact aw_weak (lv' := [some (.ref a0), some (.int x1), some (.int (0 : Int32)), some (.int (x3 + (1 : Int32)))]) ⟨rfl, rfl, rfl, rfl, trivial⟩ w
      · replace w := w.2 cc17
        refine aw_aload_n (x := a0) d_Mo_comes_54 rfl ?_
        refine aw_iload_n (x := x3) d_Mo_comes_55 rfl ?_
        refine aw_iload_n (x := x1) d_Mo_comes_56 rfl ?_
        exact aw_room (cb' := 0 + cb) (sb' := 0 + sb) (by omega) (by omega) (aw_weak (lv' := [some (.ref a0), some (.int x1), none, some (.int x3)]) ⟨rfl, rfl, rfl, trivial⟩ (aw_callV (M' := m_Mo_holds) (lv0 := [some (.ref a0), some (.int x3), some (.int x1), none, none, none, none, none, none]) (As := [.int x3, .int x1]) (rest := []) 8 1065 1067 1068 rfl (by decide) rfl hk1 tb_1065 tb_1067 tb_1068 (fun U hU => hU.p 51 rfl) rfl rfl 2 0 rfl rfl ⟨by decide, by decide, by decide +kernel, by decide +kernel, by decide, by decide⟩ (Nat.le_of_ble_eq_true rfl) ⟨rfl, rfl, rfl, trivial⟩ rfl d_Mo_comes_57 w))
set_option maxRecDepth 20000 in
theorem r_Mo_comes_60 {E : zE} {K n : Nat → Nat} {I : Nat → Nat → Int32} {F : Nat → Nat → Option Nat} {J : Nat → Nat → Int64} {cb sb : Nat} {Q : zO → zH → Prop} {a0 : Nat} {x1 : Int32} {x3 : Int32} {sx0 : Int32}
    (w : ((sx0 = 0 → AW E m_Mo_comes (K, n, I, F, J) cb sb Q 27 [some (.ref a0), some (.int x1), some (.int (0 : Int32)), some (.int (x3 + (1 : Int32)))] []) ∧ (¬ sx0 = 0 → AW E m_Mo_comes (K, n, I, F, J) cb sb Q 27 [some (.ref a0), some (.int x1), some (.int (1 : Int32)), some (.int (x3 + (1 : Int32)))] []))) :
    AW E m_Mo_comes (K, n, I, F, J) cb sb Q 60 [some (.ref a0), some (.int x1), none, some (.int x3)] [.int sx0] := by
  refine aw_if_eq (tgt := 67) d_Mo_comes_60 (by decide) (fun cc1 => ?_) (fun cc1 => ?_)
  · replace w := w.1 cc1
    refine aw_iconst (v := (0 : Int32)) d_Mo_comes_67 (by decide) ?_
    refine aw_goto (tgt := 89) d_Mo_comes_68 (by decide) ?_
    refine aw_istore_n d_Mo_comes_89 (by decide) ?_
    refine aw_iinc (v := (x3 + (1 : Int32))) d_Mo_comes_90 rfl (by rfl) (by decide) ?_
    refine aw_goto (tgt := 27) d_Mo_comes_93 (by decide) ?_
    exact aw_weak (lv' := [some (.ref a0), some (.int x1), some (.int (0 : Int32)), some (.int (x3 + (1 : Int32)))]) ⟨rfl, rfl, rfl, rfl, trivial⟩ w
  · replace w := w.2 cc1
    refine aw_iconst (v := (1 : Int32)) d_Mo_comes_63 (by decide) ?_
    refine aw_goto (tgt := 89) d_Mo_comes_64 (by decide) ?_
    refine aw_istore_n d_Mo_comes_89 (by decide) ?_
    refine aw_iinc (v := (x3 + (1 : Int32))) d_Mo_comes_90 rfl (by rfl) (by decide) ?_
    refine aw_goto (tgt := 27) d_Mo_comes_93 (by decide) ?_
    exact aw_weak (lv' := [some (.ref a0), some (.int x1), some (.int (1 : Int32)), some (.int (x3 + (1 : Int32)))]) ⟨rfl, rfl, rfl, rfl, trivial⟩ w
set_option maxRecDepth 20000 in
theorem r_Mo_comes_81 {E : zE} {K n : Nat → Nat} {I : Nat → Nat → Int32} {F : Nat → Nat → Option Nat} {J : Nat → Nat → Int64} {cb sb : Nat} {Q : zO → zH → Prop} {a0 : Nat} {x1 : Int32} {x3 : Int32} {sx0 : Int32}
    (w : ((sx0 = 0 → AW E m_Mo_comes (K, n, I, F, J) cb sb Q 27 [some (.ref a0), some (.int x1), some (.int (0 : Int32)), some (.int (x3 + (1 : Int32)))] []) ∧ (¬ sx0 = 0 → AW E m_Mo_comes (K, n, I, F, J) cb sb Q 27 [some (.ref a0), some (.int x1), some (.int (1 : Int32)), some (.int (x3 + (1 : Int32)))] []))) :
    AW E m_Mo_comes (K, n, I, F, J) cb sb Q 81 [some (.ref a0), some (.int x1), none, some (.int x3)] [.int sx0] := by
  refine aw_if_eq (tgt := 88) d_Mo_comes_81 (by decide) (fun cc1 => ?_) (fun cc1 => ?_)
  · replace w := w.1 cc1
    refine aw_iconst (v := (0 : Int32)) d_Mo_comes_88 (by decide) ?_
    refine aw_istore_n d_Mo_comes_89 (by decide) ?_
    refine aw_iinc (v := (x3 + (1 : Int32))) d_Mo_comes_90 rfl (by rfl) (by decide) ?_
    refine aw_goto (tgt := 27) d_Mo_comes_93 (by decide) ?_
    exact aw_weak (lv' := [some (.ref a0), some (.int x1), some (.int (0 : Int32)), some (.int (x3 + (1 : Int32)))]) ⟨rfl, rfl, rfl, rfl, trivial⟩ w
  · replace w := w.2 cc1
    refine aw_iconst (v := (1 : Int32)) d_Mo_comes_84 (by decide) ?_
    refine aw_goto (tgt := 89) d_Mo_comes_85 (by decide) ?_
    refine aw_istore_n d_Mo_comes_89 (by decide) ?_
    refine aw_iinc (v := (x3 + (1 : Int32))) d_Mo_comes_90 rfl (by rfl) (by decide) ?_
    refine aw_goto (tgt := 27) d_Mo_comes_93 (by decide) ?_
    exact aw_weak (lv' := [some (.ref a0), some (.int x1), some (.int (1 : Int32)), some (.int (x3 + (1 : Int32)))]) ⟨rfl, rfl, rfl, rfl, trivial⟩ w
set_option maxRecDepth 20000 in
theorem r_Mo_put_0 {E : zE} {K n : Nat → Nat} {I : Nat → Nat → Int32} {F : Nat → Nat → Option Nat} {J : Nat → Nat → Int64} {cb sb : Nat} {Q : zO → zH → Prop} {a0 : Nat} {x1 : Int32} {x2 : Int32}
    (w : K a0 = 9 ∧ (∃ b2 : Nat, F a0 26 = some b2 ∧ K b2 = 21 ∧ (∃ j4 : Nat, x1 = nI j4 ∧ j4 < n b2 ∧ j4 < 2147483648 ∧ (∃ b5 : Nat, F a0 25 = some b5 ∧ K b5 = 21 ∧ (∃ j7 : Nat, (((150 : Int32) * x1) + (I b2 j4)) = nI j7 ∧ j7 < n b5 ∧ j7 < 2147483648 ∧ ((¬ (I b5 j7) = (100 : Int32) → (∃ b9 : Nat, F a0 24 = some b9 ∧ K b9 = 21 ∧ (∃ j11 : Nat, ((((15000 : Int32) * x1) + ((100 : Int32) * (I b2 j4))) + (I b5 j7)) = nI j11 ∧ j11 < n b9 ∧ j11 < 2147483648 ∧ Q (.inl none) (K, n, (zup (zup I b9 j11 x2) b5 j7 (((zup I b9 j11 x2) b5 j7) + (1 : Int32))), F, J)))) ∧ ((I b5 j7) = (100 : Int32) → Q (.inl none) (K, n, I, F, J)))))))) :
    AW E m_Mo_put (K, n, I, F, J) cb sb Q 0 [some (.ref a0), some (.int x1), some (.int x2), none, none] [] := by
  refine aw_aload_n (x := a0) d_Mo_put_0 rfl ?_
  obtain ⟨hk1, w⟩ := w
  obtain ⟨b2, hb2, w⟩ := w
  refine gs_Mo_68 rfl hk1 hb2 d_Mo_put_1 ?_
  refine aw_iload_n (x := x1) d_Mo_put_4 rfl ?_
  obtain ⟨hk3, w⟩ := w
  obtain ⟨j4, hj4a, hj4b, hj4c, w⟩ := w
  refine aw_iaload j4 hk3 hj4a hj4b hj4c d_Mo_put_5 ?_
  refine aw_istore_n d_Mo_put_6 (by decide) ?_
  refine aw_aload_n (x := a0) d_Mo_put_7 rfl ?_
  obtain ⟨b5, hb5, w⟩ := w
  refine gs_Mo_65 rfl hk1 hb5 d_Mo_put_8 ?_
  refine aw_sipush (v := (150 : Int32)) d_Mo_put_11 (by decide) ?_
  refine aw_iload_n (x := x1) d_Mo_put_14 rfl ?_
  refine aw_imul d_Mo_put_15 ?_
  refine aw_iload_n (x := (I b2 j4)) d_Mo_put_16 rfl ?_
  refine aw_iadd d_Mo_put_17 ?_
  obtain ⟨hk6, w⟩ := w
  obtain ⟨j7, hj7a, hj7b, hj7c, w⟩ := w
  refine aw_iaload j7 hk6 hj7a hj7b hj7c d_Mo_put_18 ?_
  refine aw_istore d_Mo_put_19 (by decide) ?_
  refine aw_iload (x := (I b5 j7)) d_Mo_put_21 rfl ?_
  refine aw_bipush (v := (100 : Int32)) d_Mo_put_23 (by decide) ?_
  refine aw_icmp_ne (tgt := 29) d_Mo_put_25 (by decide) (fun cc8 => ?_) (fun cc8 => ?_)
  · replace w := w.1 cc8
    refine aw_aload_n (x := a0) d_Mo_put_29 rfl ?_
    obtain ⟨b9, hb9, w⟩ := w
    refine gs_Mo_62 rfl hk1 hb9 d_Mo_put_30 ?_
    refine aw_sipush (v := (15000 : Int32)) d_Mo_put_33 (by decide) ?_
    refine aw_iload_n (x := x1) d_Mo_put_36 rfl ?_
    refine aw_imul d_Mo_put_37 ?_
    refine aw_bipush (v := (100 : Int32)) d_Mo_put_38 (by decide) ?_
    refine aw_iload_n (x := (I b2 j4)) d_Mo_put_40 rfl ?_
    refine aw_imul d_Mo_put_41 ?_
    refine aw_iadd d_Mo_put_42 ?_
    refine aw_iload (x := (I b5 j7)) d_Mo_put_43 rfl ?_
    refine aw_iadd d_Mo_put_45 ?_
    refine aw_iload_n (x := x2) d_Mo_put_46 rfl ?_
    obtain ⟨hk10, w⟩ := w
    obtain ⟨j11, hj11a, hj11b, hj11c, w⟩ := w
    refine aw_iastore j11 hk10 hj11a hj11b hj11c d_Mo_put_47 ?_
    refine aw_aload_n (x := a0) d_Mo_put_48 rfl ?_
    refine gs_Mo_65 rfl hk1 hb5 d_Mo_put_49 ?_
    refine aw_sipush (v := (150 : Int32)) d_Mo_put_52 (by decide) ?_
    refine aw_iload_n (x := x1) d_Mo_put_55 rfl ?_
    refine aw_imul d_Mo_put_56 ?_
    refine aw_iload_n (x := (I b2 j4)) d_Mo_put_57 rfl ?_
    refine aw_iadd d_Mo_put_58 ?_
    refine aw_dup2 d_Mo_put_59 rfl rfl ?_
    refine aw_iaload j7 hk6 hj7a hj7b hj7c d_Mo_put_60 ?_
    refine aw_iconst (v := (1 : Int32)) d_Mo_put_61 (by decide) ?_
    refine aw_iadd d_Mo_put_62 ?_
    refine aw_iastore j7 hk6 hj7a hj7b hj7c d_Mo_put_63 ?_
    exact aw_return rfl d_Mo_put_64 w
  · replace w := w.2 cc8
    exact aw_return rfl d_Mo_put_28 w
set_option maxRecDepth 20000 in
theorem r_Mo_begin_0 {E : zE} {K n : Nat → Nat} {I : Nat → Nat → Int32} {F : Nat → Nat → Option Nat} {J : Nat → Nat → Int64} {cb sb : Nat} {Q : zO → zH → Prop} {a0 : Nat} {x1 : Int32}
    (w : K a0 = 9 ∧ (∃ b2 : Nat, F a0 25 = some b2 ∧ (∃ b3 : Nat, F a0 26 = some b3 ∧ K b3 = 21 ∧ (∃ j5 : Nat, x1 = nI j5 ∧ j5 < n b3 ∧ j5 < 2147483648 ∧ K b2 = 21 ∧ (∃ j7 : Nat, (((150 : Int32) * x1) + (I b3 j5)) = nI j7 ∧ j7 < n b2 ∧ j7 < 2147483648 ∧ Q (.inl none) (K, n, (zup I b2 j7 (0 : Int32)), F, J)))))) :
    AW E m_Mo_begin (K, n, I, F, J) cb sb Q 0 [some (.ref a0), some (.int x1)] [] := by
  refine aw_aload_n (x := a0) d_Mo_begin_0 rfl ?_
  obtain ⟨hk1, w⟩ := w
  obtain ⟨b2, hb2, w⟩ := w
  refine gs_Mo_65 rfl hk1 hb2 d_Mo_begin_1 ?_
  refine aw_sipush (v := (150 : Int32)) d_Mo_begin_4 (by decide) ?_
  refine aw_iload_n (x := x1) d_Mo_begin_7 rfl ?_
  refine aw_imul d_Mo_begin_8 ?_
  refine aw_aload_n (x := a0) d_Mo_begin_9 rfl ?_
  obtain ⟨b3, hb3, w⟩ := w
  refine gs_Mo_68 rfl hk1 hb3 d_Mo_begin_10 ?_
  refine aw_iload_n (x := x1) d_Mo_begin_13 rfl ?_
  obtain ⟨hk4, w⟩ := w
  obtain ⟨j5, hj5a, hj5b, hj5c, w⟩ := w
  refine aw_iaload j5 hk4 hj5a hj5b hj5c d_Mo_begin_14 ?_
  refine aw_iadd d_Mo_begin_15 ?_
  refine aw_iconst (v := (0 : Int32)) d_Mo_begin_16 (by decide) ?_
  obtain ⟨hk6, w⟩ := w
  obtain ⟨j7, hj7a, hj7b, hj7c, w⟩ := w
  refine aw_iastore j7 hk6 hj7a hj7b hj7c d_Mo_begin_17 ?_
  exact aw_return rfl d_Mo_begin_18 w
