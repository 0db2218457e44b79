set_option maxRecDepth 20000 in
theorem r_Mo_init_0 {E : zE} {K n : Nat → Nat} {I : Nat → Nat → Int32} {F : Nat → Nat → Option Nat} {J : Nat → Nat → Int64} {cb sb : Nat} {Q : zO → zH → Prop} {a0 : Nat}
    (w : (∃ cb9 sb9 : Nat, cb9 + 1 ≤ cb ∧ sb9 + 500 ≤ sb ∧ ∀ q : Nat, K q = 0 → AW E m_Mo_init ((va_up K q 21), (va_up n q 500), (va_up I q (fun _ => 0)), F, J) cb9 sb9 Q 10 [some (.ref a0)] [.ref q, .ref a0])) :
    AW E m_Mo_init (K, n, I, F, J) cb sb Q 0 [some (.ref a0)] [] := by
  refine aw_aload_n (x := a0) d_Mo_init_0 rfl ?_
  refine aw_objInit 829 tb_829 (by decide) (by decide) d_Mo_init_1 ?_
  refine aw_aload_n (x := a0) d_Mo_init_4 rfl ?_
  refine aw_sipush (v := (500 : Int32)) d_Mo_init_5 (by decide) ?_
  obtain ⟨cb9, sb9, hq1, hq2, w⟩ := w
  exact aw_room hq1 hq2 (aw_weak (lv' := [some (.ref a0)]) ⟨rfl, trivial⟩ (aw_newI 500 (by rfl) (by decide) 69 tb_69 d_Mo_init_8 w))
set_option maxRecDepth 20000 in
theorem r_Mo_init_10 {E : zE} {K n : Nat → Nat} {I : Nat → Nat → Int32} {F : Nat → Nat → Option Nat} {J : Nat → Nat → Int64} {cb sb : Nat} {Q : zO → zH → Prop} {a0 : Nat} {sa0 : Nat} {sa1 : Nat}
    (w : K sa0 = 9 ∧ (∃ cb9 sb9 : Nat, cb9 + 1 ≤ cb ∧ sb9 + 14 ≤ sb ∧ ∀ q : Nat, K q = 0 → AW E m_Mo_init ((va_up K q 21), (va_up n q 14), (va_up I q (fun _ => 0)), (zup F sa0 1 (some sa1)), J) cb9 sb9 Q 18 [some (.ref a0)] [.ref q, .ref a0])) :
    AW E m_Mo_init (K, n, I, F, J) cb sb Q 10 [some (.ref a0)] [.ref sa1, .ref sa0] := by
  obtain ⟨hk1, w⟩ := w
  refine pf_Mo_7 (r := (some sa1)) rfl hk1 rfl d_Mo_init_10 ?_
  refine aw_aload_n (x := a0) d_Mo_init_13 rfl ?_
  refine aw_bipush (v := (14 : Int32)) d_Mo_init_14 (by decide) ?_
  obtain ⟨cb9, sb9, hq1, hq2, w⟩ := w
  exact aw_room hq1 hq2 (aw_weak (lv' := [some (.ref a0)]) ⟨rfl, trivial⟩ (aw_newI 14 (by rfl) (by decide) 69 tb_69 d_Mo_init_16 w))
set_option maxRecDepth 20000 in
theorem r_Mo_init_18 {E : zE} {K n : Nat → Nat} {I : Nat → Nat → Int32} {F : Nat → Nat → Option Nat} {J : Nat → Nat → Int64} {cb sb : Nat} {Q : zO → zH → Prop} {a0 : Nat} {sa0 : Nat} {sa1 : Nat}
    (w : K sa0 = 9 ∧ (∃ cb9 sb9 : Nat, cb9 + 1 ≤ cb ∧ sb9 + 10 ≤ sb ∧ ∀ q : Nat, K q = 0 → AW E m_Mo_init ((va_up K q 21), (va_up n q 10), (va_up I q (fun _ => 0)), (zup F sa0 4 (some sa1)), J) cb9 sb9 Q 26 [some (.ref a0)] [.ref q, .ref a0])) :
    AW E m_Mo_init (K, n, I, F, J) cb sb Q 18 [some (.ref a0)] [.ref sa1, .ref sa0] := by
  obtain ⟨hk1, w⟩ := w
  refine pf_Mo_13 (r := (some sa1)) rfl hk1 rfl d_Mo_init_18 ?_
  refine aw_aload_n (x := a0) d_Mo_init_21 rfl ?_
  refine aw_bipush (v := (10 : Int32)) d_Mo_init_22 (by decide) ?_
  obtain ⟨cb9, sb9, hq1, hq2, w⟩ := w
  exact aw_room hq1 hq2 (aw_weak (lv' := [some (.ref a0)]) ⟨rfl, trivial⟩ (aw_newI 10 (by rfl) (by decide) 69 tb_69 d_Mo_init_24 w))
set_option maxRecDepth 20000 in
theorem r_Mo_init_26 {E : zE} {K n : Nat → Nat} {I : Nat → Nat → Int32} {F : Nat → Nat → Option Nat} {J : Nat → Nat → Int64} {cb sb : Nat} {Q : zO → zH → Prop} {a0 : Nat} {sa0 : Nat} {sa1 : Nat}
    (w : K sa0 = 9 ∧ (∃ cb9 sb9 : Nat, cb9 + 1 ≤ cb ∧ sb9 + 4 ≤ sb ∧ ∀ q : Nat, K q = 0 → AW E m_Mo_init ((va_up K q 21), (va_up n q 4), (va_up I q (fun _ => 0)), (zup F sa0 5 (some sa1)), J) cb9 sb9 Q 33 [some (.ref a0)] [.ref q, .ref a0])) :
    AW E m_Mo_init (K, n, I, F, J) cb sb Q 26 [some (.ref a0)] [.ref sa1, .ref sa0] := by
  obtain ⟨hk1, w⟩ := w
  refine pf_Mo_16 (r := (some sa1)) rfl hk1 rfl d_Mo_init_26 ?_
  refine aw_aload_n (x := a0) d_Mo_init_29 rfl ?_
  refine aw_iconst (v := (4 : Int32)) d_Mo_init_30 (by decide) ?_
  obtain ⟨cb9, sb9, hq1, hq2, w⟩ := w
  exact aw_room hq1 hq2 (aw_weak (lv' := [some (.ref a0)]) ⟨rfl, trivial⟩ (aw_newI 4 (by rfl) (by decide) 69 tb_69 d_Mo_init_31 w))
set_option maxRecDepth 20000 in
theorem r_Mo_init_33 {E : zE} {K n : Nat → Nat} {I : Nat → Nat → Int32} {F : Nat → Nat → Option Nat} {J : Nat → Nat → Int64} {cb sb : Nat} {Q : zO → zH → Prop} {a0 : Nat} {sa0 : Nat} {sa1 : Nat}
    (w : K sa0 = 9 ∧ (∃ cb9 sb9 : Nat, cb9 + 1 ≤ cb ∧ sb9 + 48 ≤ sb ∧ ∀ q : Nat, K q = 0 → AW E m_Mo_init ((va_up K q 21), (va_up n q 48), (va_up I q (fun _ => 0)), (zup F sa0 6 (some sa1)), J) cb9 sb9 Q 41 [some (.ref a0)] [.ref q, .ref a0])) :
    AW E m_Mo_init (K, n, I, F, J) cb sb Q 33 [some (.ref a0)] [.ref sa1, .ref sa0] := by
  obtain ⟨hk1, w⟩ := w
  refine pf_Mo_19 (r := (some sa1)) rfl hk1 rfl d_Mo_init_33 ?_
  refine aw_aload_n (x := a0) d_Mo_init_36 rfl ?_
  refine aw_bipush (v := (48 : Int32)) d_Mo_init_37 (by decide) ?_
  obtain ⟨cb9, sb9, hq1, hq2, w⟩ := w
  exact aw_room hq1 hq2 (aw_weak (lv' := [some (.ref a0)]) ⟨rfl, trivial⟩ (aw_newI 48 (by rfl) (by decide) 69 tb_69 d_Mo_init_39 w))
set_option maxRecDepth 20000 in
theorem r_Mo_init_41 {E : zE} {K n : Nat → Nat} {I : Nat → Nat → Int32} {F : Nat → Nat → Option Nat} {J : Nat → Nat → Int64} {cb sb : Nat} {Q : zO → zH → Prop} {a0 : Nat} {sa0 : Nat} {sa1 : Nat}
    (w : K sa0 = 9 ∧ (∃ cb9 sb9 : Nat, cb9 + 1 ≤ cb ∧ sb9 + 120 ≤ sb ∧ ∀ q : Nat, K q = 0 → AW E m_Mo_init ((va_up K q 21), (va_up n q 120), (va_up I q (fun _ => 0)), (zup F sa0 7 (some sa1)), J) cb9 sb9 Q 49 [some (.ref a0)] [.ref q, .ref a0])) :
    AW E m_Mo_init (K, n, I, F, J) cb sb Q 41 [some (.ref a0)] [.ref sa1, .ref sa0] := by
  obtain ⟨hk1, w⟩ := w
  refine pf_Mo_22 (r := (some sa1)) rfl hk1 rfl d_Mo_init_41 ?_
  refine aw_aload_n (x := a0) d_Mo_init_44 rfl ?_
  refine aw_bipush (v := (120 : Int32)) d_Mo_init_45 (by decide) ?_
  obtain ⟨cb9, sb9, hq1, hq2, w⟩ := w
  exact aw_room hq1 hq2 (aw_weak (lv' := [some (.ref a0)]) ⟨rfl, trivial⟩ (aw_newI 120 (by rfl) (by decide) 69 tb_69 d_Mo_init_47 w))
set_option maxRecDepth 20000 in
theorem r_Mo_init_49 {E : zE} {K n : Nat → Nat} {I : Nat → Nat → Int32} {F : Nat → Nat → Option Nat} {J : Nat → Nat → Int64} {cb sb : Nat} {Q : zO → zH → Prop} {a0 : Nat} {sa0 : Nat} {sa1 : Nat}
    (w : K sa0 = 9 ∧ (∃ cb9 sb9 : Nat, cb9 + 1 ≤ cb ∧ sb9 + 16 ≤ sb ∧ ∀ q : Nat, K q = 0 → AW E m_Mo_init ((va_up K q 21), (va_up n q 16), (va_up I q (fun _ => 0)), (zup F sa0 8 (some sa1)), J) cb9 sb9 Q 57 [some (.ref a0)] [.ref q, .ref a0])) :
    AW E m_Mo_init (K, n, I, F, J) cb sb Q 49 [some (.ref a0)] [.ref sa1, .ref sa0] := by
  obtain ⟨hk1, w⟩ := w
  refine pf_Mo_25 (r := (some sa1)) rfl hk1 rfl d_Mo_init_49 ?_
  refine aw_aload_n (x := a0) d_Mo_init_52 rfl ?_
  refine aw_bipush (v := (16 : Int32)) d_Mo_init_53 (by decide) ?_
  obtain ⟨cb9, sb9, hq1, hq2, w⟩ := w
  exact aw_room hq1 hq2 (aw_weak (lv' := [some (.ref a0)]) ⟨rfl, trivial⟩ (aw_newI 16 (by rfl) (by decide) 69 tb_69 d_Mo_init_55 w))
set_option maxRecDepth 20000 in
theorem r_Mo_init_57 {E : zE} {K n : Nat → Nat} {I : Nat → Nat → Int32} {F : Nat → Nat → Option Nat} {J : Nat → Nat → Int64} {cb sb : Nat} {Q : zO → zH → Prop} {a0 : Nat} {sa0 : Nat} {sa1 : Nat}
    (w : K sa0 = 9 ∧ (∃ cb9 sb9 : Nat, cb9 + 1 ≤ cb ∧ sb9 + 48 ≤ sb ∧ ∀ q : Nat, K q = 0 → AW E m_Mo_init ((va_up K q 21), (va_up n q 48), (va_up I q (fun _ => 0)), (zup F sa0 9 (some sa1)), J) cb9 sb9 Q 65 [some (.ref a0)] [.ref q, .ref a0])) :
    AW E m_Mo_init (K, n, I, F, J) cb sb Q 57 [some (.ref a0)] [.ref sa1, .ref sa0] := by
  obtain ⟨hk1, w⟩ := w
  refine pf_Mo_28 (r := (some sa1)) rfl hk1 rfl d_Mo_init_57 ?_
  refine aw_aload_n (x := a0) d_Mo_init_60 rfl ?_
  refine aw_bipush (v := (48 : Int32)) d_Mo_init_61 (by decide) ?_
  obtain ⟨cb9, sb9, hq1, hq2, w⟩ := w
  exact aw_room hq1 hq2 (aw_weak (lv' := [some (.ref a0)]) ⟨rfl, trivial⟩ (aw_newI 48 (by rfl) (by decide) 69 tb_69 d_Mo_init_63 w))
set_option maxRecDepth 20000 in
theorem r_Mo_init_65 {E : zE} {K n : Nat → Nat} {I : Nat → Nat → Int32} {F : Nat → Nat → Option Nat} {J : Nat → Nat → Int64} {cb sb : Nat} {Q : zO → zH → Prop} {a0 : Nat} {sa0 : Nat} {sa1 : Nat}
    (w : K sa0 = 9 ∧ (∃ cb9 sb9 : Nat, cb9 + 1 ≤ cb ∧ sb9 + 880 ≤ sb ∧ ∀ q : Nat, K q = 0 → AW E m_Mo_init ((va_up K q 21), (va_up n q 880), (va_up I q (fun _ => 0)), (zup F sa0 10 (some sa1)), J) cb9 sb9 Q 74 [some (.ref a0)] [.ref q, .ref a0])) :
    AW E m_Mo_init (K, n, I, F, J) cb sb Q 65 [some (.ref a0)] [.ref sa1, .ref sa0] := by
  obtain ⟨hk1, w⟩ := w
  refine pf_Mo_31 (r := (some sa1)) rfl hk1 rfl d_Mo_init_65 ?_
  refine aw_aload_n (x := a0) d_Mo_init_68 rfl ?_
  refine aw_sipush (v := (880 : Int32)) d_Mo_init_69 (by decide) ?_
  obtain ⟨cb9, sb9, hq1, hq2, w⟩ := w
  exact aw_room hq1 hq2 (aw_weak (lv' := [some (.ref a0)]) ⟨rfl, trivial⟩ (aw_newI 880 (by rfl) (by decide) 69 tb_69 d_Mo_init_72 w))
set_option maxRecDepth 20000 in
theorem r_Mo_init_74 {E : zE} {K n : Nat → Nat} {I : Nat → Nat → Int32} {F : Nat → Nat → Option Nat} {J : Nat → Nat → Int64} {cb sb : Nat} {Q : zO → zH → Prop} {a0 : Nat} {sa0 : Nat} {sa1 : Nat}
    (w : K sa0 = 9 ∧ (∃ cb9 sb9 : Nat, cb9 + 1 ≤ cb ∧ sb9 + 15000 ≤ sb ∧ ∀ q : Nat, K q = 0 → AW E m_Mo_init ((va_up K q 21), (va_up n q 15000), (va_up I q (fun _ => 0)), (zup F sa0 11 (some sa1)), J) cb9 sb9 Q 83 [some (.ref a0)] [.ref q, .ref a0])) :
    AW E m_Mo_init (K, n, I, F, J) cb sb Q 74 [some (.ref a0)] [.ref sa1, .ref sa0] := by
  obtain ⟨hk1, w⟩ := w
  refine pf_Mo_34 (r := (some sa1)) rfl hk1 rfl d_Mo_init_74 ?_
  refine aw_aload_n (x := a0) d_Mo_init_77 rfl ?_
  refine aw_sipush (v := (15000 : Int32)) d_Mo_init_78 (by decide) ?_
  obtain ⟨cb9, sb9, hq1, hq2, w⟩ := w
  exact aw_room hq1 hq2 (aw_weak (lv' := [some (.ref a0)]) ⟨rfl, trivial⟩ (aw_newI 15000 (by rfl) (by decide) 69 tb_69 d_Mo_init_81 w))
set_option maxRecDepth 20000 in
theorem r_Mo_init_83 {E : zE} {K n : Nat → Nat} {I : Nat → Nat → Int32} {F : Nat → Nat → Option Nat} {J : Nat → Nat → Int64} {cb sb : Nat} {Q : zO → zH → Prop} {a0 : Nat} {sa0 : Nat} {sa1 : Nat}
    (w : K sa0 = 9 ∧ (∃ cb9 sb9 : Nat, cb9 + 1 ≤ cb ∧ sb9 + 150 ≤ sb ∧ ∀ q : Nat, K q = 0 → AW E m_Mo_init ((va_up K q 21), (va_up n q 150), (va_up I q (fun _ => 0)), (zup F sa0 12 (some sa1)), J) cb9 sb9 Q 92 [some (.ref a0)] [.ref q, .ref a0])) :
    AW E m_Mo_init (K, n, I, F, J) cb sb Q 83 [some (.ref a0)] [.ref sa1, .ref sa0] := by
  obtain ⟨hk1, w⟩ := w
  refine pf_Mo_37 (r := (some sa1)) rfl hk1 rfl d_Mo_init_83 ?_
  refine aw_aload_n (x := a0) d_Mo_init_86 rfl ?_
  refine aw_sipush (v := (150 : Int32)) d_Mo_init_87 (by decide) ?_
  obtain ⟨cb9, sb9, hq1, hq2, w⟩ := w
  exact aw_room hq1 hq2 (aw_weak (lv' := [some (.ref a0)]) ⟨rfl, trivial⟩ (aw_newI 150 (by rfl) (by decide) 69 tb_69 d_Mo_init_90 w))
set_option maxRecDepth 20000 in
theorem r_Mo_init_92 {E : zE} {K n : Nat → Nat} {I : Nat → Nat → Int32} {F : Nat → Nat → Option Nat} {J : Nat → Nat → Int64} {cb sb : Nat} {Q : zO → zH → Prop} {a0 : Nat} {sa0 : Nat} {sa1 : Nat}
    (w : K sa0 = 9 ∧ (∃ cb9 sb9 : Nat, cb9 + 1 ≤ cb ∧ sb9 + 150 ≤ sb ∧ ∀ q : Nat, K q = 0 → AW E m_Mo_init ((va_up K q 21), (va_up n q 150), (va_up I q (fun _ => 0)), (zup F sa0 13 (some sa1)), J) cb9 sb9 Q 101 [some (.ref a0)] [.ref q, .ref a0])) :
    AW E m_Mo_init (K, n, I, F, J) cb sb Q 92 [some (.ref a0)] [.ref sa1, .ref sa0] := by
  obtain ⟨hk1, w⟩ := w
  refine pf_Mo_40 (r := (some sa1)) rfl hk1 rfl d_Mo_init_92 ?_
  refine aw_aload_n (x := a0) d_Mo_init_95 rfl ?_
  refine aw_sipush (v := (150 : Int32)) d_Mo_init_96 (by decide) ?_
  obtain ⟨cb9, sb9, hq1, hq2, w⟩ := w
  exact aw_room hq1 hq2 (aw_weak (lv' := [some (.ref a0)]) ⟨rfl, trivial⟩ (aw_newI 150 (by rfl) (by decide) 69 tb_69 d_Mo_init_99 w))
set_option maxRecDepth 20000 in
theorem r_Mo_init_101 {E : zE} {K n : Nat → Nat} {I : Nat → Nat → Int32} {F : Nat → Nat → Option Nat} {J : Nat → Nat → Int64} {cb sb : Nat} {Q : zO → zH → Prop} {a0 : Nat} {sa0 : Nat} {sa1 : Nat}
    (w : K sa0 = 9 ∧ (∃ cb9 sb9 : Nat, cb9 + 1 ≤ cb ∧ sb9 + 15000 ≤ sb ∧ ∀ q : Nat, K q = 0 → AW E m_Mo_init ((va_up K q 21), (va_up n q 15000), (va_up I q (fun _ => 0)), (zup F sa0 14 (some sa1)), J) cb9 sb9 Q 110 [some (.ref a0)] [.ref q, .ref a0])) :
    AW E m_Mo_init (K, n, I, F, J) cb sb Q 101 [some (.ref a0)] [.ref sa1, .ref sa0] := by
  obtain ⟨hk1, w⟩ := w
  refine pf_Mo_43 (r := (some sa1)) rfl hk1 rfl d_Mo_init_101 ?_
  refine aw_aload_n (x := a0) d_Mo_init_104 rfl ?_
  refine aw_sipush (v := (15000 : Int32)) d_Mo_init_105 (by decide) ?_
  obtain ⟨cb9, sb9, hq1, hq2, w⟩ := w
  exact aw_room hq1 hq2 (aw_weak (lv' := [some (.ref a0)]) ⟨rfl, trivial⟩ (aw_newI 15000 (by rfl) (by decide) 69 tb_69 d_Mo_init_108 w))
set_option maxRecDepth 20000 in
theorem r_Mo_init_110 {E : zE} {K n : Nat → Nat} {I : Nat → Nat → Int32} {F : Nat → Nat → Option Nat} {J : Nat → Nat → Int64} {cb sb : Nat} {Q : zO → zH → Prop} {a0 : Nat} {sa0 : Nat} {sa1 : Nat}
    (w : K sa0 = 9 ∧ (∃ cb9 sb9 : Nat, cb9 + 1 ≤ cb ∧ sb9 + 150 ≤ sb ∧ ∀ q : Nat, K q = 0 → AW E m_Mo_init ((va_up K q 21), (va_up n q 150), (va_up I q (fun _ => 0)), (zup F sa0 19 (some sa1)), J) cb9 sb9 Q 119 [some (.ref a0)] [.ref q, .ref a0])) :
    AW E m_Mo_init (K, n, I, F, J) cb sb Q 110 [some (.ref a0)] [.ref sa1, .ref sa0] := by
  obtain ⟨hk1, w⟩ := w
  refine pf_Mo_46 (r := (some sa1)) rfl hk1 rfl d_Mo_init_110 ?_
  refine aw_aload_n (x := a0) d_Mo_init_113 rfl ?_
  refine aw_sipush (v := (150 : Int32)) d_Mo_init_114 (by decide) ?_
  obtain ⟨cb9, sb9, hq1, hq2, w⟩ := w
  exact aw_room hq1 hq2 (aw_weak (lv' := [some (.ref a0)]) ⟨rfl, trivial⟩ (aw_newI 150 (by rfl) (by decide) 69 tb_69 d_Mo_init_117 w))
set_option maxRecDepth 20000 in
theorem r_Mo_init_119 {E : zE} {K n : Nat → Nat} {I : Nat → Nat → Int32} {F : Nat → Nat → Option Nat} {J : Nat → Nat → Int64} {cb sb : Nat} {Q : zO → zH → Prop} {a0 : Nat} {sa0 : Nat} {sa1 : Nat}
    (w : K sa0 = 9 ∧ (∃ cb9 sb9 : Nat, cb9 + 1 ≤ cb ∧ sb9 + 150 ≤ sb ∧ ∀ q : Nat, K q = 0 → AW E m_Mo_init ((va_up K q 21), (va_up n q 150), (va_up I q (fun _ => 0)), (zup F sa0 20 (some sa1)), J) cb9 sb9 Q 128 [some (.ref a0)] [.ref q, .ref a0])) :
    AW E m_Mo_init (K, n, I, F, J) cb sb Q 119 [some (.ref a0)] [.ref sa1, .ref sa0] := by
  obtain ⟨hk1, w⟩ := w
  refine pf_Mo_49 (r := (some sa1)) rfl hk1 rfl d_Mo_init_119 ?_
  refine aw_aload_n (x := a0) d_Mo_init_122 rfl ?_
  refine aw_sipush (v := (150 : Int32)) d_Mo_init_123 (by decide) ?_
  obtain ⟨cb9, sb9, hq1, hq2, w⟩ := w
  exact aw_room hq1 hq2 (aw_weak (lv' := [some (.ref a0)]) ⟨rfl, trivial⟩ (aw_newI 150 (by rfl) (by decide) 69 tb_69 d_Mo_init_126 w))
set_option maxRecDepth 20000 in
theorem r_Mo_init_128 {E : zE} {K n : Nat → Nat} {I : Nat → Nat → Int32} {F : Nat → Nat → Option Nat} {J : Nat → Nat → Int64} {cb sb : Nat} {Q : zO → zH → Prop} {a0 : Nat} {sa0 : Nat} {sa1 : Nat}
    (w : K sa0 = 9 ∧ (∃ cb9 sb9 : Nat, cb9 + 1 ≤ cb ∧ sb9 + 150 ≤ sb ∧ ∀ q : Nat, K q = 0 → AW E m_Mo_init ((va_up K q 21), (va_up n q 150), (va_up I q (fun _ => 0)), (zup F sa0 21 (some sa1)), J) cb9 sb9 Q 137 [some (.ref a0)] [.ref q, .ref a0])) :
    AW E m_Mo_init (K, n, I, F, J) cb sb Q 128 [some (.ref a0)] [.ref sa1, .ref sa0] := by
  obtain ⟨hk1, w⟩ := w
  refine pf_Mo_52 (r := (some sa1)) rfl hk1 rfl d_Mo_init_128 ?_
  refine aw_aload_n (x := a0) d_Mo_init_131 rfl ?_
  refine aw_sipush (v := (150 : Int32)) d_Mo_init_132 (by decide) ?_
  obtain ⟨cb9, sb9, hq1, hq2, w⟩ := w
  exact aw_room hq1 hq2 (aw_weak (lv' := [some (.ref a0)]) ⟨rfl, trivial⟩ (aw_newI 150 (by rfl) (by decide) 69 tb_69 d_Mo_init_135 w))
set_option maxRecDepth 20000 in
theorem r_Mo_init_137 {E : zE} {K n : Nat → Nat} {I : Nat → Nat → Int32} {F : Nat → Nat → Option Nat} {J : Nat → Nat → Int64} {cb sb : Nat} {Q : zO → zH → Prop} {a0 : Nat} {sa0 : Nat} {sa1 : Nat}
    (w : K sa0 = 9 ∧ (∃ cb9 sb9 : Nat, cb9 + 1 ≤ cb ∧ sb9 + 150 ≤ sb ∧ ∀ q : Nat, K q = 0 → AW E m_Mo_init ((va_up K q 21), (va_up n q 150), (va_up I q (fun _ => 0)), (zup F sa0 22 (some sa1)), J) cb9 sb9 Q 146 [some (.ref a0)] [.ref q, .ref a0])) :
    AW E m_Mo_init (K, n, I, F, J) cb sb Q 137 [some (.ref a0)] [.ref sa1, .ref sa0] := by
  obtain ⟨hk1, w⟩ := w
  refine pf_Mo_55 (r := (some sa1)) rfl hk1 rfl d_Mo_init_137 ?_
  refine aw_aload_n (x := a0) d_Mo_init_140 rfl ?_
  refine aw_sipush (v := (150 : Int32)) d_Mo_init_141 (by decide) ?_
  obtain ⟨cb9, sb9, hq1, hq2, w⟩ := w
  exact aw_room hq1 hq2 (aw_weak (lv' := [some (.ref a0)]) ⟨rfl, trivial⟩ (aw_newI 150 (by rfl) (by decide) 69 tb_69 d_Mo_init_144 w))
set_option maxRecDepth 20000 in
theorem r_Mo_init_146 {E : zE} {K n : Nat → Nat} {I : Nat → Nat → Int32} {F : Nat → Nat → Option Nat} {J : Nat → Nat → Int64} {cb sb : Nat} {Q : zO → zH → Prop} {a0 : Nat} {sa0 : Nat} {sa1 : Nat}
    (w : K sa0 = 9 ∧ (∃ cb9 sb9 : Nat, cb9 + 1 ≤ cb ∧ sb9 + 45000 ≤ sb ∧ ∀ q : Nat, K q = 0 → AW E m_Mo_init ((va_up K q 21), (va_up n q 45000), (va_up I q (fun _ => 0)), (zup F sa0 23 (some sa1)), J) cb9 sb9 Q 154 [some (.ref a0)] [.ref q, .ref a0])) :
    AW E m_Mo_init (K, n, I, F, J) cb sb Q 146 [some (.ref a0)] [.ref sa1, .ref sa0] := by
  obtain ⟨hk1, w⟩ := w
  refine pf_Mo_58 (r := (some sa1)) rfl hk1 rfl d_Mo_init_146 ?_
  refine aw_aload_n (x := a0) d_Mo_init_149 rfl ?_
  refine aw_ldc (v := 45000) 830 tb_830 d_Mo_init_150 ?_
  obtain ⟨cb9, sb9, hq1, hq2, w⟩ := w
  exact aw_room hq1 hq2 (aw_weak (lv' := [some (.ref a0)]) ⟨rfl, trivial⟩ (aw_newI 45000 (by rfl) (by decide) 69 tb_69 d_Mo_init_152 w))
set_option maxRecDepth 20000 in
theorem r_Mo_init_154 {E : zE} {K n : Nat → Nat} {I : Nat → Nat → Int32} {F : Nat → Nat → Option Nat} {J : Nat → Nat → Int64} {cb sb : Nat} {Q : zO → zH → Prop} {a0 : Nat} {sa0 : Nat} {sa1 : Nat}
    (w : K sa0 = 9 ∧ (∃ cb9 sb9 : Nat, cb9 + 1 ≤ cb ∧ sb9 + 450 ≤ sb ∧ ∀ q : Nat, K q = 0 → AW E m_Mo_init ((va_up K q 21), (va_up n q 450), (va_up I q (fun _ => 0)), (zup F sa0 24 (some sa1)), J) cb9 sb9 Q 163 [some (.ref a0)] [.ref q, .ref a0])) :
    AW E m_Mo_init (K, n, I, F, J) cb sb Q 154 [some (.ref a0)] [.ref sa1, .ref sa0] := by
  obtain ⟨hk1, w⟩ := w
  refine pf_Mo_62 (r := (some sa1)) rfl hk1 rfl d_Mo_init_154 ?_
  refine aw_aload_n (x := a0) d_Mo_init_157 rfl ?_
  refine aw_sipush (v := (450 : Int32)) d_Mo_init_158 (by decide) ?_
  obtain ⟨cb9, sb9, hq1, hq2, w⟩ := w
  exact aw_room hq1 hq2 (aw_weak (lv' := [some (.ref a0)]) ⟨rfl, trivial⟩ (aw_newI 450 (by rfl) (by decide) 69 tb_69 d_Mo_init_161 w))
set_option maxRecDepth 20000 in
theorem r_Mo_init_163 {E : zE} {K n : Nat → Nat} {I : Nat → Nat → Int32} {F : Nat → Nat → Option Nat} {J : Nat → Nat → Int64} {cb sb : Nat} {Q : zO → zH → Prop} {a0 : Nat} {sa0 : Nat} {sa1 : Nat}
    (w : K sa0 = 9 ∧ (∃ cb9 sb9 : Nat, cb9 + 1 ≤ cb ∧ sb9 + 3 ≤ sb ∧ ∀ q : Nat, K q = 0 → AW E m_Mo_init ((va_up K q 21), (va_up n q 3), (va_up I q (fun _ => 0)), (zup F sa0 25 (some sa1)), J) cb9 sb9 Q 170 [some (.ref a0)] [.ref q, .ref a0])) :
    AW E m_Mo_init (K, n, I, F, J) cb sb Q 163 [some (.ref a0)] [.ref sa1, .ref sa0] := by
  obtain ⟨hk1, w⟩ := w
  refine pf_Mo_65 (r := (some sa1)) rfl hk1 rfl d_Mo_init_163 ?_
  refine aw_aload_n (x := a0) d_Mo_init_166 rfl ?_
  refine aw_iconst (v := (3 : Int32)) d_Mo_init_167 (by decide) ?_
  obtain ⟨cb9, sb9, hq1, hq2, w⟩ := w
  exact aw_room hq1 hq2 (aw_weak (lv' := [some (.ref a0)]) ⟨rfl, trivial⟩ (aw_newI 3 (by rfl) (by decide) 69 tb_69 d_Mo_init_168 w))
set_option maxRecDepth 20000 in
theorem r_Mo_init_170 {E : zE} {K n : Nat → Nat} {I : Nat → Nat → Int32} {F : Nat → Nat → Option Nat} {J : Nat → Nat → Int64} {cb sb : Nat} {Q : zO → zH → Prop} {a0 : Nat} {sa0 : Nat} {sa1 : Nat}
    (w : K sa0 = 9 ∧ (∃ cb9 sb9 : Nat, cb9 + 1 ≤ cb ∧ sb9 + 150 ≤ sb ∧ ∀ q : Nat, K q = 0 → AW E m_Mo_init ((va_up K q 21), (va_up n q 150), (va_up I q (fun _ => 0)), (zup F sa0 26 (some sa1)), J) cb9 sb9 Q 179 [some (.ref a0)] [.ref q, .ref a0])) :
    AW E m_Mo_init (K, n, I, F, J) cb sb Q 170 [some (.ref a0)] [.ref sa1, .ref sa0] := by
  obtain ⟨hk1, w⟩ := w
  refine pf_Mo_68 (r := (some sa1)) rfl hk1 rfl d_Mo_init_170 ?_
  refine aw_aload_n (x := a0) d_Mo_init_173 rfl ?_
  refine aw_sipush (v := (150 : Int32)) d_Mo_init_174 (by decide) ?_
  obtain ⟨cb9, sb9, hq1, hq2, w⟩ := w
  exact aw_room hq1 hq2 (aw_weak (lv' := [some (.ref a0)]) ⟨rfl, trivial⟩ (aw_newI 150 (by rfl) (by decide) 69 tb_69 d_Mo_init_177 w))
set_option maxRecDepth 20000 in
theorem r_Mo_init_179 {E : zE} {K n : Nat → Nat} {I : Nat → Nat → Int32} {F : Nat → Nat → Option Nat} {J : Nat → Nat → Int64} {cb sb : Nat} {Q : zO → zH → Prop} {a0 : Nat} {sa0 : Nat} {sa1 : Nat}
    (w : K sa0 = 9 ∧ (∃ cb9 sb9 : Nat, cb9 + 1 ≤ cb ∧ sb9 + 150 ≤ sb ∧ ∀ q : Nat, K q = 0 → AW E m_Mo_init ((va_up K q 21), (va_up n q 150), (va_up I q (fun _ => 0)), (zup F sa0 27 (some sa1)), J) cb9 sb9 Q 188 [some (.ref a0)] [.ref q, .ref a0])) :
    AW E m_Mo_init (K, n, I, F, J) cb sb Q 179 [some (.ref a0)] [.ref sa1, .ref sa0] := by
  obtain ⟨hk1, w⟩ := w
  refine pf_Mo_71 (r := (some sa1)) rfl hk1 rfl d_Mo_init_179 ?_
  refine aw_aload_n (x := a0) d_Mo_init_182 rfl ?_
  refine aw_sipush (v := (150 : Int32)) d_Mo_init_183 (by decide) ?_
  obtain ⟨cb9, sb9, hq1, hq2, w⟩ := w
  exact aw_room hq1 hq2 (aw_weak (lv' := [some (.ref a0)]) ⟨rfl, trivial⟩ (aw_newI 150 (by rfl) (by decide) 69 tb_69 d_Mo_init_186 w))
set_option maxRecDepth 20000 in
theorem r_Mo_init_188 {E : zE} {K n : Nat → Nat} {I : Nat → Nat → Int32} {F : Nat → Nat → Option Nat} {J : Nat → Nat → Int64} {cb sb : Nat} {Q : zO → zH → Prop} {a0 : Nat} {sa0 : Nat} {sa1 : Nat}
    (w : K sa0 = 9 ∧ (∃ cb9 sb9 : Nat, cb9 + 1 ≤ cb ∧ sb9 + 150 ≤ sb ∧ ∀ q : Nat, K q = 0 → AW E m_Mo_init ((va_up K q 21), (va_up n q 150), (va_up I q (fun _ => 0)), (zup F sa0 28 (some sa1)), J) cb9 sb9 Q 197 [some (.ref a0)] [.ref q, .ref a0])) :
    AW E m_Mo_init (K, n, I, F, J) cb sb Q 188 [some (.ref a0)] [.ref sa1, .ref sa0] := by
  obtain ⟨hk1, w⟩ := w
  refine pf_Mo_74 (r := (some sa1)) rfl hk1 rfl d_Mo_init_188 ?_
  refine aw_aload_n (x := a0) d_Mo_init_191 rfl ?_
  refine aw_sipush (v := (150 : Int32)) d_Mo_init_192 (by decide) ?_
  obtain ⟨cb9, sb9, hq1, hq2, w⟩ := w
  exact aw_room hq1 hq2 (aw_weak (lv' := [some (.ref a0)]) ⟨rfl, trivial⟩ (aw_newI 150 (by rfl) (by decide) 69 tb_69 d_Mo_init_195 w))
set_option maxRecDepth 20000 in
theorem r_Mo_init_197 {E : zE} {K n : Nat → Nat} {I : Nat → Nat → Int32} {F : Nat → Nat → Option Nat} {J : Nat → Nat → Int64} {cb sb : Nat} {Q : zO → zH → Prop} {a0 : Nat} {sa0 : Nat} {sa1 : Nat}
    (w : K sa0 = 9 ∧ (∃ cb9 sb9 : Nat, cb9 + 1 ≤ cb ∧ sb9 + 7 ≤ sb ∧ ∀ q : Nat, K q = 0 → AW E m_Mo_init ((va_up K q 21), (va_up n q 7), (va_up I q (fun _ => 0)), (zup F sa0 29 (some sa1)), J) cb9 sb9 Q 205 [some (.ref a0)] [.ref q, .ref a0])) :
    AW E m_Mo_init (K, n, I, F, J) cb sb Q 197 [some (.ref a0)] [.ref sa1, .ref sa0] := by
  obtain ⟨hk1, w⟩ := w
  refine pf_Mo_77 (r := (some sa1)) rfl hk1 rfl d_Mo_init_197 ?_
  refine aw_aload_n (x := a0) d_Mo_init_200 rfl ?_
  refine aw_bipush (v := (7 : Int32)) d_Mo_init_201 (by decide) ?_
  obtain ⟨cb9, sb9, hq1, hq2, w⟩ := w
  exact aw_room hq1 hq2 (aw_weak (lv' := [some (.ref a0)]) ⟨rfl, trivial⟩ (aw_newI 7 (by rfl) (by decide) 69 tb_69 d_Mo_init_203 w))
set_option maxRecDepth 20000 in
theorem r_Mo_init_205 {E : zE} {K n : Nat → Nat} {I : Nat → Nat → Int32} {F : Nat → Nat → Option Nat} {J : Nat → Nat → Int64} {cb sb : Nat} {Q : zO → zH → Prop} {a0 : Nat} {sa0 : Nat} {sa1 : Nat}
    (w : K sa0 = 9 ∧ (∃ cb9 sb9 : Nat, cb9 + 1 ≤ cb ∧ sb9 + 5 ≤ sb ∧ ∀ q : Nat, K q = 0 → AW E m_Mo_init ((va_up K q 21), (va_up n q 5), (va_up I q (fun _ => 0)), (zup F sa0 31 (some sa1)), J) cb9 sb9 Q 212 [some (.ref a0)] [.ref q, .ref a0])) :
    AW E m_Mo_init (K, n, I, F, J) cb sb Q 205 [some (.ref a0)] [.ref sa1, .ref sa0] := by
  obtain ⟨hk1, w⟩ := w
  refine pf_Mo_80 (r := (some sa1)) rfl hk1 rfl d_Mo_init_205 ?_
  refine aw_aload_n (x := a0) d_Mo_init_208 rfl ?_
  refine aw_iconst (v := (5 : Int32)) d_Mo_init_209 (by decide) ?_
  obtain ⟨cb9, sb9, hq1, hq2, w⟩ := w
  exact aw_room hq1 hq2 (aw_weak (lv' := [some (.ref a0)]) ⟨rfl, trivial⟩ (aw_newI 5 (by rfl) (by decide) 69 tb_69 d_Mo_init_210 w))
set_option maxRecDepth 20000 in
theorem r_Mo_init_212 {E : zE} {K n : Nat → Nat} {I : Nat → Nat → Int32} {F : Nat → Nat → Option Nat} {J : Nat → Nat → Int64} {cb sb : Nat} {Q : zO → zH → Prop} {a0 : Nat} {sa0 : Nat} {sa1 : Nat}
    (w : K sa0 = 9 ∧ (∃ cb9 sb9 : Nat, cb9 + 1 ≤ cb ∧ sb9 + 2 ≤ sb ∧ ∀ q : Nat, K q = 0 → AW E m_Mo_init ((va_up K q 21), (va_up n q 2), (va_up I q (fun _ => 0)), (zup F sa0 32 (some sa1)), J) cb9 sb9 Q 219 [some (.ref a0)] [.ref q, .ref a0])) :
    AW E m_Mo_init (K, n, I, F, J) cb sb Q 212 [some (.ref a0)] [.ref sa1, .ref sa0] := by
  obtain ⟨hk1, w⟩ := w
  refine pf_Mo_83 (r := (some sa1)) rfl hk1 rfl d_Mo_init_212 ?_
  refine aw_aload_n (x := a0) d_Mo_init_215 rfl ?_
  refine aw_iconst (v := (2 : Int32)) d_Mo_init_216 (by decide) ?_
  obtain ⟨cb9, sb9, hq1, hq2, w⟩ := w
  exact aw_room hq1 hq2 (aw_weak (lv' := [some (.ref a0)]) ⟨rfl, trivial⟩ (aw_newI 2 (by rfl) (by decide) 69 tb_69 d_Mo_init_217 w))
set_option maxRecDepth 20000 in
theorem r_Mo_init_219 {E : zE} {K n : Nat → Nat} {I : Nat → Nat → Int32} {F : Nat → Nat → Option Nat} {J : Nat → Nat → Int64} {cb sb : Nat} {Q : zO → zH → Prop} {a0 : Nat} {sa0 : Nat} {sa1 : Nat}
    (w : K sa0 = 9 ∧ (∃ cb9 sb9 : Nat, cb9 + 1 ≤ cb ∧ sb9 + 48 ≤ sb ∧ ∀ q : Nat, K q = 0 → AW E m_Mo_init ((va_up K q 21), (va_up n q 48), (va_up I q (fun _ => 0)), (zup F sa0 33 (some sa1)), J) cb9 sb9 Q 227 [some (.ref a0)] [.ref q, .ref a0])) :
    AW E m_Mo_init (K, n, I, F, J) cb sb Q 219 [some (.ref a0)] [.ref sa1, .ref sa0] := by
  obtain ⟨hk1, w⟩ := w
  refine pf_Mo_86 (r := (some sa1)) rfl hk1 rfl d_Mo_init_219 ?_
  refine aw_aload_n (x := a0) d_Mo_init_222 rfl ?_
  refine aw_bipush (v := (48 : Int32)) d_Mo_init_223 (by decide) ?_
  obtain ⟨cb9, sb9, hq1, hq2, w⟩ := w
  exact aw_room hq1 hq2 (aw_weak (lv' := [some (.ref a0)]) ⟨rfl, trivial⟩ (aw_newI 48 (by rfl) (by decide) 69 tb_69 d_Mo_init_225 w))
set_option maxRecDepth 20000 in
theorem r_Mo_init_227 {E : zE} {K n : Nat → Nat} {I : Nat → Nat → Int32} {F : Nat → Nat → Option Nat} {J : Nat → Nat → Int64} {cb sb : Nat} {Q : zO → zH → Prop} {a0 : Nat} {sa0 : Nat} {sa1 : Nat}
    (w : K sa0 = 9 ∧ (∃ cb9 sb9 : Nat, cb9 + 1 ≤ cb ∧ sb9 + 120 ≤ sb ∧ ∀ q : Nat, K q = 0 → AW E m_Mo_init ((va_up K q 21), (va_up n q 120), (va_up I q (fun _ => 0)), (zup F sa0 34 (some sa1)), J) cb9 sb9 Q 235 [some (.ref a0)] [.ref q, .ref a0])) :
    AW E m_Mo_init (K, n, I, F, J) cb sb Q 227 [some (.ref a0)] [.ref sa1, .ref sa0] := by
  obtain ⟨hk1, w⟩ := w
  refine pf_Mo_89 (r := (some sa1)) rfl hk1 rfl d_Mo_init_227 ?_
  refine aw_aload_n (x := a0) d_Mo_init_230 rfl ?_
  refine aw_bipush (v := (120 : Int32)) d_Mo_init_231 (by decide) ?_
  obtain ⟨cb9, sb9, hq1, hq2, w⟩ := w
  exact aw_room hq1 hq2 (aw_weak (lv' := [some (.ref a0)]) ⟨rfl, trivial⟩ (aw_newI 120 (by rfl) (by decide) 69 tb_69 d_Mo_init_233 w))
set_option maxRecDepth 20000 in
theorem r_Mo_init_235 {E : zE} {K n : Nat → Nat} {I : Nat → Nat → Int32} {F : Nat → Nat → Option Nat} {J : Nat → Nat → Int64} {cb sb : Nat} {Q : zO → zH → Prop} {a0 : Nat} {sa0 : Nat} {sa1 : Nat}
    (w : K sa0 = 9 ∧ (∃ cb9 sb9 : Nat, cb9 + 1 ≤ cb ∧ sb9 + 16 ≤ sb ∧ ∀ q : Nat, K q = 0 → AW E m_Mo_init ((va_up K q 21), (va_up n q 16), (va_up I q (fun _ => 0)), (zup F sa0 35 (some sa1)), J) cb9 sb9 Q 243 [some (.ref a0)] [.ref q, .ref a0])) :
    AW E m_Mo_init (K, n, I, F, J) cb sb Q 235 [some (.ref a0)] [.ref sa1, .ref sa0] := by
  obtain ⟨hk1, w⟩ := w
  refine pf_Mo_92 (r := (some sa1)) rfl hk1 rfl d_Mo_init_235 ?_
  refine aw_aload_n (x := a0) d_Mo_init_238 rfl ?_
  refine aw_bipush (v := (16 : Int32)) d_Mo_init_239 (by decide) ?_
  obtain ⟨cb9, sb9, hq1, hq2, w⟩ := w
  exact aw_room hq1 hq2 (aw_weak (lv' := [some (.ref a0)]) ⟨rfl, trivial⟩ (aw_newI 16 (by rfl) (by decide) 69 tb_69 d_Mo_init_241 w))
set_option maxRecDepth 20000 in
theorem r_Mo_init_243 {E : zE} {K n : Nat → Nat} {I : Nat → Nat → Int32} {F : Nat → Nat → Option Nat} {J : Nat → Nat → Int64} {cb sb : Nat} {Q : zO → zH → Prop} {a0 : Nat} {sa0 : Nat} {sa1 : Nat}
    (w : K sa0 = 9 ∧ (∃ cb9 sb9 : Nat, cb9 + 1 ≤ cb ∧ sb9 + 48 ≤ sb ∧ ∀ q : Nat, K q = 0 → AW E m_Mo_init ((va_up K q 21), (va_up n q 48), (va_up I q (fun _ => 0)), (zup F sa0 36 (some sa1)), J) cb9 sb9 Q 251 [some (.ref a0)] [.ref q, .ref a0])) :
    AW E m_Mo_init (K, n, I, F, J) cb sb Q 243 [some (.ref a0)] [.ref sa1, .ref sa0] := by
  obtain ⟨hk1, w⟩ := w
  refine pf_Mo_95 (r := (some sa1)) rfl hk1 rfl d_Mo_init_243 ?_
  refine aw_aload_n (x := a0) d_Mo_init_246 rfl ?_
  refine aw_bipush (v := (48 : Int32)) d_Mo_init_247 (by decide) ?_
  obtain ⟨cb9, sb9, hq1, hq2, w⟩ := w
  exact aw_room hq1 hq2 (aw_weak (lv' := [some (.ref a0)]) ⟨rfl, trivial⟩ (aw_newI 48 (by rfl) (by decide) 69 tb_69 d_Mo_init_249 w))
set_option maxRecDepth 20000 in
theorem r_Mo_init_251 {E : zE} {K n : Nat → Nat} {I : Nat → Nat → Int32} {F : Nat → Nat → Option Nat} {J : Nat → Nat → Int64} {cb sb : Nat} {Q : zO → zH → Prop} {a0 : Nat} {sa0 : Nat} {sa1 : Nat}
    (w : K sa0 = 9 ∧ (∃ cb9 sb9 : Nat, cb9 + 1 ≤ cb ∧ sb9 + 880 ≤ sb ∧ ∀ q : Nat, K q = 0 → AW E m_Mo_init ((va_up K q 21), (va_up n q 880), (va_up I q (fun _ => 0)), (zup F sa0 37 (some sa1)), J) cb9 sb9 Q 260 [some (.ref a0)] [.ref q, .ref a0])) :
    AW E m_Mo_init (K, n, I, F, J) cb sb Q 251 [some (.ref a0)] [.ref sa1, .ref sa0] := by
  obtain ⟨hk1, w⟩ := w
  refine pf_Mo_98 (r := (some sa1)) rfl hk1 rfl d_Mo_init_251 ?_
  refine aw_aload_n (x := a0) d_Mo_init_254 rfl ?_
  refine aw_sipush (v := (880 : Int32)) d_Mo_init_255 (by decide) ?_
  obtain ⟨cb9, sb9, hq1, hq2, w⟩ := w
  exact aw_room hq1 hq2 (aw_weak (lv' := [some (.ref a0)]) ⟨rfl, trivial⟩ (aw_newI 880 (by rfl) (by decide) 69 tb_69 d_Mo_init_258 w))
set_option maxRecDepth 20000 in
theorem r_Mo_init_260 {E : zE} {K n : Nat → Nat} {I : Nat → Nat → Int32} {F : Nat → Nat → Option Nat} {J : Nat → Nat → Int64} {cb sb : Nat} {Q : zO → zH → Prop} {a0 : Nat} {sa0 : Nat} {sa1 : Nat}
    (w : K sa0 = 9 ∧ (∃ cb9 sb9 : Nat, cb9 + 1 ≤ cb ∧ sb9 + 4 ≤ sb ∧ ∀ q : Nat, K q = 0 → AW E m_Mo_init ((va_up K q 22), (va_up n q 4), I, (zup F sa0 38 (some sa1)), (va_up J q (fun _ => 0))) cb9 sb9 Q 267 [some (.ref a0)] [.ref q, .ref a0])) :
    AW E m_Mo_init (K, n, I, F, J) cb sb Q 260 [some (.ref a0)] [.ref sa1, .ref sa0] := by
  obtain ⟨hk1, w⟩ := w
  refine pf_Mo_101 (r := (some sa1)) rfl hk1 rfl d_Mo_init_260 ?_
  refine aw_aload_n (x := a0) d_Mo_init_263 rfl ?_
  refine aw_iconst (v := (4 : Int32)) d_Mo_init_264 (by decide) ?_
  obtain ⟨cb9, sb9, hq1, hq2, w⟩ := w
  exact aw_room hq1 hq2 (aw_weak (lv' := [some (.ref a0)]) ⟨rfl, trivial⟩ (aw_newJ 4 (by rfl) (by decide) 202 tb_202 d_Mo_init_265 w))
set_option maxRecDepth 20000 in
theorem r_Mo_init_267 {E : zE} {K n : Nat → Nat} {I : Nat → Nat → Int32} {F : Nat → Nat → Option Nat} {J : Nat → Nat → Int64} {cb sb : Nat} {Q : zO → zH → Prop} {a0 : Nat} {sa0 : Nat} {sa1 : Nat}
    (w : K sa0 = 9 ∧ (∃ cb9 sb9 : Nat, cb9 + 1 ≤ cb ∧ sb9 + 200 ≤ sb ∧ ∀ q : Nat, K q = 0 → AW E m_Mo_init ((va_up K q 21), (va_up n q 200), (va_up I q (fun _ => 0)), (zup F sa0 39 (some sa1)), J) cb9 sb9 Q 276 [some (.ref a0)] [.ref q, .ref a0])) :
    AW E m_Mo_init (K, n, I, F, J) cb sb Q 267 [some (.ref a0)] [.ref sa1, .ref sa0] := by
  obtain ⟨hk1, w⟩ := w
  refine pf_Mo_104 (r := (some sa1)) rfl hk1 rfl d_Mo_init_267 ?_
  refine aw_aload_n (x := a0) d_Mo_init_270 rfl ?_
  refine aw_sipush (v := (200 : Int32)) d_Mo_init_271 (by decide) ?_
  obtain ⟨cb9, sb9, hq1, hq2, w⟩ := w
  exact aw_room hq1 hq2 (aw_weak (lv' := [some (.ref a0)]) ⟨rfl, trivial⟩ (aw_newI 200 (by rfl) (by decide) 69 tb_69 d_Mo_init_274 w))
set_option maxRecDepth 20000 in
theorem r_Mo_init_276 {E : zE} {K n : Nat → Nat} {I : Nat → Nat → Int32} {F : Nat → Nat → Option Nat} {J : Nat → Nat → Int64} {cb sb : Nat} {Q : zO → zH → Prop} {a0 : Nat} {sa0 : Nat} {sa1 : Nat}
    (w : K sa0 = 9 ∧ (∃ cb9 sb9 : Nat, cb9 + 1 ≤ cb ∧ sb9 + 2 ≤ sb ∧ ∀ q : Nat, K q = 0 → AW E m_Mo_init ((va_up K q 21), (va_up n q 2), (va_up I q (fun _ => 0)), (zup F sa0 40 (some sa1)), J) cb9 sb9 Q 283 [none] [.ref q, .ref a0])) :
    AW E m_Mo_init (K, n, I, F, J) cb sb Q 276 [some (.ref a0)] [.ref sa1, .ref sa0] := by
  obtain ⟨hk1, w⟩ := w
  refine pf_Mo_108 (r := (some sa1)) rfl hk1 rfl d_Mo_init_276 ?_
  refine aw_aload_n (x := a0) d_Mo_init_279 rfl ?_
  refine aw_iconst (v := (2 : Int32)) d_Mo_init_280 (by decide) ?_
  obtain ⟨cb9, sb9, hq1, hq2, w⟩ := w
  exact aw_room hq1 hq2 (aw_weak (lv' := [none]) trivial (aw_newI 2 (by rfl) (by decide) 69 tb_69 d_Mo_init_281 w))
set_option maxRecDepth 20000 in
theorem r_Mo_init_283 {E : zE} {K n : Nat → Nat} {I : Nat → Nat → Int32} {F : Nat → Nat → Option Nat} {J : Nat → Nat → Int64} {cb sb : Nat} {Q : zO → zH → Prop} {sa0 : Nat} {sa1 : Nat}
    (w : K sa0 = 9 ∧ Q (.inl none) (K, n, I, (zup F sa0 41 (some sa1)), J)) :
    AW E m_Mo_init (K, n, I, F, J) cb sb Q 283 [none] [.ref sa1, .ref sa0] := by
  obtain ⟨hk1, w⟩ := w
  refine pf_Mo_111 (r := (some sa1)) rfl hk1 rfl d_Mo_init_283 ?_
  exact aw_return rfl d_Mo_init_286 w
set_option maxRecDepth 20000 in
theorem r_Mo_thrown_0 {E : zE} {K n : Nat → Nat} {I : Nat → Nat → Int32} {F : Nat → Nat → Option Nat} {J : Nat → Nat → Int64} {cb sb : Nat} {Q : zO → zH → Prop} {a0 : Nat}
    (w : K a0 = 9 ∧ Q (.inl (some (.int (I a0 0)))) (K, n, I, F, J)) :
    AW E m_Mo_thrown (K, n, I, F, J) cb sb Q 0 [some (.ref a0)] [] := by
  refine aw_aload_n (x := a0) d_Mo_thrown_0 rfl ?_
  obtain ⟨hk1, w⟩ := w
  refine gf_Mo_114 rfl hk1 d_Mo_thrown_1 ?_
  exact aw_ireturn .int rfl rfl d_Mo_thrown_4 w
set_option maxRecDepth 20000 in
theorem r_Mo_sign1_0 {E : zE} {K n : Nat → Nat} {I : Nat → Nat → Int32} {F : Nat → Nat → Option Nat} {J : Nat → Nat → Int64} {cb sb : Nat} {Q : zO → zH → Prop} {a0 : Nat} {x1 : Int32}
    (w : K a0 = 9 ∧ ((¬ ((zup I a0 0 (0 : Int32)) a0 2) = (500 : Int32) → (∃ b3 : Nat, F a0 1 = some b3 ∧ ((0 ≤ x1 → K b3 = 21 ∧ (∃ j6 : Nat, ((zup I a0 0 (0 : Int32)) a0 2) = nI j6 ∧ j6 < n b3 ∧ j6 < 2147483648 ∧ Q (.inl none) (K, n, (zup (zup (zup I a0 0 (0 : Int32)) b3 j6 x1) a0 2 (((zup (zup I a0 0 (0 : Int32)) b3 j6 x1) a0 2) + (1 : Int32))), F, J))) ∧ (¬ 0 ≤ x1 → K b3 = 21 ∧ (∃ j8 : Nat, ((zup I a0 0 (0 : Int32)) a0 2) = nI j8 ∧ j8 < n b3 ∧ j8 < 2147483648 ∧ Q (.inl none) (K, n, (zup (zup (zup I a0 0 (0 : Int32)) b3 j8 (0 : Int32)) a0 2 (((zup (zup I a0 0 (0 : Int32)) b3 j8 (0 : Int32)) a0 2) + (1 : Int32))), F, J)))))) ∧ (((zup I a0 0 (0 : Int32)) a0 2) = (500 : Int32) → Q (.inl none) (K, n, (zup I a0 0 (0 : Int32)), F, J)))) :
    AW E m_Mo_sign1 (K, n, I, F, J) cb sb Q 0 [some (.ref a0), some (.int x1)] [] := by
  refine aw_aload_n (x := a0) d_Mo_sign1_0 rfl ?_
  refine aw_iconst (v := (0 : Int32)) d_Mo_sign1_1 (by decide) ?_
  obtain ⟨hk1, w⟩ := w
  refine pf_Mo_114 rfl hk1 d_Mo_sign1_2 ?_
  refine aw_aload_n (x := a0) d_Mo_sign1_5 rfl ?_
  refine gf_Mo_118 rfl hk1 d_Mo_sign1_6 ?_
  refine aw_sipush (v := (500 : Int32)) d_Mo_sign1_9 (by decide) ?_
  refine aw_icmp_ne (tgt := 16) d_Mo_sign1_12 (by decide) (fun cc2 => ?_) (fun cc2 => ?_)
  · replace w := w.1 cc2
    refine aw_aload_n (x := a0) d_Mo_sign1_16 rfl ?_
    obtain ⟨b3, hb3, w⟩ := w
    refine gs_Mo_7 rfl hk1 hb3 d_Mo_sign1_17 ?_
    refine aw_aload_n (x := a0) d_Mo_sign1_20 rfl ?_
    refine gf_Mo_118 rfl hk1 d_Mo_sign1_21 ?_
    refine aw_iload_n (x := x1) d_Mo_sign1_24 rfl ?_
    refine aw_if_ge (tgt := 32) d_Mo_sign1_25 (by decide) (fun cc4 => ?_) (fun cc4 => ?_)
    · replace w := w.1 cc4
      refine aw_iload_n (x := x1) d_Mo_sign1_32 rfl ?_
      obtain ⟨hk5, w⟩ := w
      obtain ⟨j6, hj6a, hj6b, hj6c, w⟩ := w
      refine aw_iastore j6 hk5 hj6a hj6b hj6c d_Mo_sign1_33 ?_
      refine aw_aload_n (x := a0) d_Mo_sign1_34 rfl ?_
      refine aw_dup d_Mo_sign1_35 rfl ?_
      refine gf_Mo_118 rfl hk1 d_Mo_sign1_36 ?_
      refine aw_iconst (v := (1 : Int32)) d_Mo_sign1_39 (by decide) ?_
      refine aw_iadd d_Mo_sign1_40 ?_
      refine pf_Mo_118 rfl hk1 d_Mo_sign1_41 ?_
      exact aw_return rfl d_Mo_sign1_44 w
    · replace w := w.2 cc4
      refine aw_iconst (v := (0 : Int32)) d_Mo_sign1_28 (by decide) ?_
      refine aw_goto (tgt := 33) d_Mo_sign1_29 (by decide) ?_
      obtain ⟨hk7, w⟩ := w
      obtain ⟨j8, hj8a, hj8b, hj8c, w⟩ := w
      refine aw_iastore j8 hk7 hj8a hj8b hj8c d_Mo_sign1_33 ?_
      refine aw_aload_n (x := a0) d_Mo_sign1_34 rfl ?_
      refine aw_dup d_Mo_sign1_35 rfl ?_
      refine gf_Mo_118 rfl hk1 d_Mo_sign1_36 ?_
      refine aw_iconst (v := (1 : Int32)) d_Mo_sign1_39 (by decide) ?_
      refine aw_iadd d_Mo_sign1_40 ?_
      refine pf_Mo_118 rfl hk1 d_Mo_sign1_41 ?_
      exact aw_return rfl d_Mo_sign1_44 w
  · replace w := w.2 cc2
    exact aw_return rfl d_Mo_sign1_15 w
set_option maxRecDepth 20000 in
theorem r_Mo_at_0 {E : zE} {K n : Nat → Nat} {I : Nat → Nat → Int32} {F : Nat → Nat → Option Nat} {J : Nat → Nat → Int64} {cb sb : Nat} {Q : zO → zH → Prop} {a0 : Nat} {x1 : Int32}
    (w : K a0 = 9 ∧ (((I a0 2) ≤ x1 → Q (.inl (some (.int ((-1) : Int32)))) (K, n, I, F, J)) ∧ (¬ (I a0 2) ≤ x1 → (∃ b3 : Nat, F a0 1 = some b3 ∧ K b3 = 21 ∧ (∃ j5 : Nat, x1 = nI j5 ∧ j5 < n b3 ∧ j5 < 2147483648 ∧ Q (.inl (some (.int (I b3 j5)))) (K, n, I, F, J)))))) :
    AW E m_Mo_at (K, n, I, F, J) cb sb Q 0 [some (.ref a0), some (.int x1)] [] := by
  refine aw_iload_n (x := x1) d_Mo_at_0 rfl ?_
  refine aw_aload_n (x := a0) d_Mo_at_1 rfl ?_
  obtain ⟨hk1, w⟩ := w
  refine gf_Mo_118 rfl hk1 d_Mo_at_2 ?_
  refine aw_icmp_ge (tgt := 17) d_Mo_at_5 (by decide) (fun cc2 => ?_) (fun cc2 => ?_)
  · replace w := w.1 cc2
    refine aw_iconst (v := ((-1) : Int32)) d_Mo_at_17 (by decide) ?_
    exact aw_ireturn .int rfl rfl d_Mo_at_18 w
  · replace w := w.2 cc2
    refine aw_aload_n (x := a0) d_Mo_at_8 rfl ?_
    obtain ⟨b3, hb3, w⟩ := w
    refine gs_Mo_7 rfl hk1 hb3 d_Mo_at_9 ?_
    refine aw_iload_n (x := x1) d_Mo_at_12 rfl ?_
    obtain ⟨hk4, w⟩ := w
    obtain ⟨j5, hj5a, hj5b, hj5c, w⟩ := w
    refine aw_iaload j5 hk4 hj5a hj5b hj5c d_Mo_at_13 ?_
    refine aw_goto (tgt := 18) d_Mo_at_14 (by decide) ?_
    exact aw_ireturn .int rfl rfl d_Mo_at_18 w
set_option maxRecDepth 20000 in
theorem r_Mo_sign_0 {E : zE} {K n : Nat → Nat} {I : Nat → Nat → Int32} {F : Nat → Nat → Option Nat} {J : Nat → Nat → Int64} {cb sb : Nat} {Q : zO → zH → Prop} {a0 : Nat}
    (w : K a0 = 9 ∧ AW E m_Mo_at (K, n, I, F, J) 0 0 (zAft E m_Mo_sign cb sb Q 5 [some (.ref a0)] []) 0 [some (.ref a0), some (.int (I a0 3))] []) :
    AW E m_Mo_sign (K, n, I, F, J) cb sb Q 0 [some (.ref a0)] [] := by
  refine aw_aload_n (x := a0) d_Mo_sign_0 rfl ?_
  refine aw_aload_n (x := a0) d_Mo_sign_1 rfl ?_
  obtain ⟨hk1, w⟩ := w
  refine gf_Mo_121 rfl hk1 d_Mo_sign_2 ?_
  exact aw_room (cb' := 0 + cb) (sb' := 0 + sb) (by omega) (by omega) (aw_weak (lv' := [some (.ref a0)]) ⟨rfl, trivial⟩ (aw_callV (M' := m_Mo_at) (lv0 := [some (.ref a0), some (.int (I a0 3))]) (As := [.int (I a0 3)]) (rest := []) 8 981 983 984 rfl (by decide) rfl hk1 tb_981 tb_983 tb_984 (fun U hU => hU.p 34 rfl) rfl rfl 1 0 rfl rfl ⟨by decide, by decide, by decide +kernel, by decide +kernel, by decide, by decide⟩ (Nat.le_of_ble_eq_true rfl) ⟨rfl, rfl, trivial⟩ rfl d_Mo_sign_5 w))
set_option maxRecDepth 20000 in
theorem r_Mo_sign_8 {E : zE} {K n : Nat → Nat} {I : Nat → Nat → Int32} {F : Nat → Nat → Option Nat} {J : Nat → Nat → Int64} {cb sb : Nat} {Q : zO → zH → Prop} {a0 : Nat} {sx0 : Int32}
    (w : ((sx0 = (32 : Int32) → K a0 = 9 ∧ AW E m_Mo_sign (K, n, (zup I a0 3 ((I a0 3) + (1 : Int32))), F, J) cb sb Q 0 [some (.ref a0)] []) ∧ (¬ sx0 = (32 : Int32) → K a0 = 9 ∧ AW E m_Mo_at (K, n, I, F, J) 0 0 (zAft E m_Mo_sign cb sb Q 18 [some (.ref a0)] []) 0 [some (.ref a0), some (.int (I a0 3))] []))) :
    AW E m_Mo_sign (K, n, I, F, J) cb sb Q 8 [some (.ref a0)] [.int sx0] := by
  refine aw_bipush (v := (32 : Int32)) d_Mo_sign_8 (by decide) ?_
  refine aw_icmp_eq (tgt := 26) d_Mo_sign_10 (by decide) (fun cc1 => ?_) (fun cc1 => ?_)
  · replace w := w.1 cc1
    refine aw_aload_n (x := a0) d_Mo_sign_26 rfl ?_
    refine aw_dup d_Mo_sign_27 rfl ?_
    obtain ⟨hk2, w⟩ := w
    refine gf_Mo_121 rfl hk2 d_Mo_sign_28 ?_
    refine aw_iconst (v := (1 : Int32)) d_Mo_sign_31 (by decide) ?_
    refine aw_iadd d_Mo_sign_32 ?_
    refine pf_Mo_121 rfl hk2 d_Mo_sign_33 ?_
    refine aw_goto (tgt := 0) d_Mo_sign_36 (by decide) ?_
    exact aw_weak (lv' := [some (.ref a0)]) ⟨rfl, trivial⟩ w
  · replace w := w.2 cc1
    refine aw_aload_n (x := a0) d_Mo_sign_13 rfl ?_
    refine aw_aload_n (x := a0) d_Mo_sign_14 rfl ?_
    obtain ⟨hk3, w⟩ := w
    refine gf_Mo_121 rfl hk3 d_Mo_sign_15 ?_
    exact aw_room (cb' := 0 + cb) (sb' := 0 + sb) (by omega) (by omega) (aw_weak (lv' := [some (.ref a0)]) ⟨rfl, trivial⟩ (aw_callV (M' := m_Mo_at) (lv0 := [some (.ref a0), some (.int (I a0 3))]) (As := [.int (I a0 3)]) (rest := []) 8 981 983 984 rfl (by decide) rfl hk3 tb_981 tb_983 tb_984 (fun U hU => hU.p 34 rfl) rfl rfl 1 0 rfl rfl ⟨by decide, by decide, by decide +kernel, by decide +kernel, by decide, by decide⟩ (Nat.le_of_ble_eq_true rfl) ⟨rfl, rfl, trivial⟩ rfl d_Mo_sign_18 w))
set_option maxRecDepth 20000 in
theorem r_Mo_sign_21 {E : zE} {K n : Nat → Nat} {I : Nat → Nat → Int32} {F : Nat → Nat → Option Nat} {J : Nat → Nat → Int64} {cb sb : Nat} {Q : zO → zH → Prop} {a0 : Nat} {sx0 : Int32}
    (w : ((¬ sx0 = (10 : Int32) → K a0 = 9 ∧ AW E m_Mo_at (K, n, I, F, J) 0 0 (zAft E m_Mo_sign cb sb Q 44 [none] []) 0 [some (.ref a0), some (.int (I a0 3))] []) ∧ (sx0 = (10 : Int32) → K a0 = 9 ∧ AW E m_Mo_sign (K, n, (zup I a0 3 ((I a0 3) + (1 : Int32))), F, J) cb sb Q 0 [some (.ref a0)] []))) :
    AW E m_Mo_sign (K, n, I, F, J) cb sb Q 21 [some (.ref a0)] [.int sx0] := by
  refine aw_bipush (v := (10 : Int32)) d_Mo_sign_21 (by decide) ?_
  refine aw_icmp_ne (tgt := 39) d_Mo_sign_23 (by decide) (fun cc1 => ?_) (fun cc1 => ?_)
  · replace w := w.1 cc1
    refine aw_aload_n (x := a0) d_Mo_sign_39 rfl ?_
    refine aw_aload_n (x := a0) d_Mo_sign_40 rfl ?_
    obtain ⟨hk2, w⟩ := w
    refine gf_Mo_121 rfl hk2 d_Mo_sign_41 ?_
    exact aw_room (cb' := 0 + cb) (sb' := 0 + sb) (by omega) (by omega) (aw_weak (lv' := [none]) trivial (aw_callV (M' := m_Mo_at) (lv0 := [some (.ref a0), some (.int (I a0 3))]) (As := [.int (I a0 3)]) (rest := []) 8 981 983 984 rfl (by decide) rfl hk2 tb_981 tb_983 tb_984 (fun U hU => hU.p 34 rfl) rfl rfl 1 0 rfl rfl ⟨by decide, by decide, by decide +kernel, by decide +kernel, by decide, by decide⟩ (Nat.le_of_ble_eq_true rfl) ⟨rfl, rfl, trivial⟩ rfl d_Mo_sign_44 w))
  · replace w := w.2 cc1
    refine aw_aload_n (x := a0) d_Mo_sign_26 rfl ?_
    refine aw_dup d_Mo_sign_27 rfl ?_
    obtain ⟨hk3, w⟩ := w
    refine gf_Mo_121 rfl hk3 d_Mo_sign_28 ?_
    refine aw_iconst (v := (1 : Int32)) d_Mo_sign_31 (by decide) ?_
    refine aw_iadd d_Mo_sign_32 ?_
    refine pf_Mo_121 rfl hk3 d_Mo_sign_33 ?_
    refine aw_goto (tgt := 0) d_Mo_sign_36 (by decide) ?_
    exact aw_weak (lv' := [some (.ref a0)]) ⟨rfl, trivial⟩ w
set_option maxRecDepth 20000 in
theorem r_Mo_sign_47 {E : zE} {K n : Nat → Nat} {I : Nat → Nat → Int32} {F : Nat → Nat → Option Nat} {J : Nat → Nat → Int64} {cb sb : Nat} {Q : zO → zH → Prop} {sx0 : Int32}
    (w : Q (.inl (some (.int sx0))) (K, n, I, F, J)) :
    AW E m_Mo_sign (K, n, I, F, J) cb sb Q 47 [none] [.int sx0] := by
  exact aw_ireturn .int rfl rfl d_Mo_sign_47 w
set_option maxRecDepth 20000 in
theorem r_Mo_isSmall_0 {E : zE} {K n : Nat → Nat} {I : Nat → Nat → Int32} {F : Nat → Nat → Option Nat} {J : Nat → Nat → Int64} {cb sb : Nat} {Q : zO → zH → Prop} {a0 : Nat} {x1 : Int32}
    (w : K a0 = 9 ∧ AW E m_Mo_at (K, n, I, F, J) 0 0 (zAft E m_Mo_isSmall cb sb Q 2 [some (.ref a0), some (.int x1)] []) 0 [some (.ref a0), some (.int x1)] []) :
    AW E m_Mo_isSmall (K, n, I, F, J) cb sb Q 0 [some (.ref a0), some (.int x1)] [] := by
  refine aw_aload_n (x := a0) d_Mo_isSmall_0 rfl ?_
  refine aw_iload_n (x := x1) d_Mo_isSmall_1 rfl ?_
  obtain ⟨hk1, w⟩ := w
  exact aw_room (cb' := 0 + cb) (sb' := 0 + sb) (by omega) (by omega) (aw_weak (lv' := [some (.ref a0), some (.int x1)]) ⟨rfl, rfl, trivial⟩ (aw_callV (M' := m_Mo_at) (lv0 := [some (.ref a0), some (.int x1)]) (As := [.int x1]) (rest := []) 8 981 983 984 rfl (by decide) rfl hk1 tb_981 tb_983 tb_984 (fun U hU => hU.p 34 rfl) rfl rfl 1 0 rfl rfl ⟨by decide, by decide, by decide +kernel, by decide +kernel, by decide, by decide⟩ (Nat.le_of_ble_eq_true rfl) ⟨rfl, rfl, trivial⟩ rfl d_Mo_isSmall_2 w))
set_option maxRecDepth 20000 in
theorem r_Mo_isSmall_5 {E : zE} {K n : Nat → Nat} {I : Nat → Nat → Int32} {F : Nat → Nat → Option Nat} {J : Nat → Nat → Int64} {cb sb : Nat} {Q : zO → zH → Prop} {a0 : Nat} {x1 : Int32} {sx0 : Int32}
    (w : ((sx0 < (97 : Int32) → Q (.inl (some (.int (0 : Int32)))) (K, n, I, F, J)) ∧ (¬ sx0 < (97 : Int32) → K a0 = 9 ∧ AW E m_Mo_at (K, n, I, F, J) 0 0 (zAft E m_Mo_isSmall cb sb Q 12 [none, none] []) 0 [some (.ref a0), some (.int x1)] []))) :
    AW E m_Mo_isSmall (K, n, I, F, J) cb sb Q 5 [some (.ref a0), some (.int x1)] [.int sx0] := by
  refine aw_bipush (v := (97 : Int32)) d_Mo_isSmall_5 (by decide) ?_
  refine aw_icmp_lt (tgt := 24) d_Mo_isSmall_7 (by decide) (fun cc1 => ?_) (fun cc1 => ?_)
  · replace w := w.1 cc1
    refine aw_iconst (v := (0 : Int32)) d_Mo_isSmall_24 (by decide) ?_
    exact aw_ireturn .boolean rfl rfl d_Mo_isSmall_25 w
  · replace w := w.2 cc1
    refine aw_aload_n (x := a0) d_Mo_isSmall_10 rfl ?_
    refine aw_iload_n (x := x1) d_Mo_isSmall_11 rfl ?_
    obtain ⟨hk2, w⟩ := w
    exact aw_room (cb' := 0 + cb) (sb' := 0 + sb) (by omega) (by omega) (aw_weak (lv' := [none, none]) trivial (aw_callV (M' := m_Mo_at) (lv0 := [some (.ref a0), some (.int x1)]) (As := [.int x1]) (rest := []) 8 981 983 984 rfl (by decide) rfl hk2 tb_981 tb_983 tb_984 (fun U hU => hU.p 34 rfl) rfl rfl 1 0 rfl rfl ⟨by decide, by decide, by decide +kernel, by decide +kernel, by decide, by decide⟩ (Nat.le_of_ble_eq_true rfl) ⟨rfl, rfl, trivial⟩ rfl d_Mo_isSmall_12 w))
set_option maxRecDepth 20000 in
theorem r_Mo_isSmall_15 {E : zE} {K n : Nat → Nat} {I : Nat → Nat → Int32} {F : Nat → Nat → Option Nat} {J : Nat → Nat → Int64} {cb sb : Nat} {Q : zO → zH → Prop} {sx0 : Int32}
    (w : (((122 : Int32) < sx0 → Q (.inl (some (.int (0 : Int32)))) (K, n, I, F, J)) ∧ (¬ (122 : Int32) < sx0 → Q (.inl (some (.int (1 : Int32)))) (K, n, I, F, J)))) :
    AW E m_Mo_isSmall (K, n, I, F, J) cb sb Q 15 [none, none] [.int sx0] := by
  refine aw_bipush (v := (122 : Int32)) d_Mo_isSmall_15 (by decide) ?_
  refine aw_icmp_gt (tgt := 24) d_Mo_isSmall_17 (by decide) (fun cc1 => ?_) (fun cc1 => ?_)
  · replace w := w.1 cc1
    refine aw_iconst (v := (0 : Int32)) d_Mo_isSmall_24 (by decide) ?_
    exact aw_ireturn .boolean rfl rfl d_Mo_isSmall_25 w
  · replace w := w.2 cc1
    refine aw_iconst (v := (1 : Int32)) d_Mo_isSmall_20 (by decide) ?_
    refine aw_goto (tgt := 25) d_Mo_isSmall_21 (by decide) ?_
    exact aw_ireturn .boolean rfl rfl d_Mo_isSmall_25 w
set_option maxRecDepth 20000 in
theorem r_Mo_isDigit_0 {E : zE} {K n : Nat → Nat} {I : Nat → Nat → Int32} {F : Nat → Nat → Option Nat} {J : Nat → Nat → Int64} {cb sb : Nat} {Q : zO → zH → Prop} {a0 : Nat} {x1 : Int32}
    (w : K a0 = 9 ∧ AW E m_Mo_at (K, n, I, F, J) 0 0 (zAft E m_Mo_isDigit cb sb Q 2 [some (.ref a0), some (.int x1)] []) 0 [some (.ref a0), some (.int x1)] []) :
    AW E m_Mo_isDigit (K, n, I, F, J) cb sb Q 0 [some (.ref a0), some (.int x1)] [] := by
  refine aw_aload_n (x := a0) d_Mo_isDigit_0 rfl ?_
  refine aw_iload_n (x := x1) d_Mo_isDigit_1 rfl ?_
  obtain ⟨hk1, w⟩ := w
  exact aw_room (cb' := 0 + cb) (sb' := 0 + sb) (by omega) (by omega) (aw_weak (lv' := [some (.ref a0), some (.int x1)]) ⟨rfl, rfl, trivial⟩ (aw_callV (M' := m_Mo_at) (lv0 := [some (.ref a0), some (.int x1)]) (As := [.int x1]) (rest := []) 8 981 983 984 rfl (by decide) rfl hk1 tb_981 tb_983 tb_984 (fun U hU => hU.p 34 rfl) rfl rfl 1 0 rfl rfl ⟨by decide, by decide, by decide +kernel, by decide +kernel, by decide, by decide⟩ (Nat.le_of_ble_eq_true rfl) ⟨rfl, rfl, trivial⟩ rfl d_Mo_isDigit_2 w))
set_option maxRecDepth 20000 in
theorem r_Mo_isDigit_5 {E : zE} {K n : Nat → Nat} {I : Nat → Nat → Int32} {F : Nat → Nat → Option Nat} {J : Nat → Nat → Int64} {cb sb : Nat} {Q : zO → zH → Prop} {a0 : Nat} {x1 : Int32} {sx0 : Int32}
    (w : ((sx0 < (48 : Int32) → Q (.inl (some (.int (0 : Int32)))) (K, n, I, F, J)) ∧ (¬ sx0 < (48 : Int32) → K a0 = 9 ∧ AW E m_Mo_at (K, n, I, F, J) 0 0 (zAft E m_Mo_isDigit cb sb Q 12 [none, none] []) 0 [some (.ref a0), some (.int x1)] []))) :
    AW E m_Mo_isDigit (K, n, I, F, J) cb sb Q 5 [some (.ref a0), some (.int x1)] [.int sx0] := by
  refine aw_bipush (v := (48 : Int32)) d_Mo_isDigit_5 (by decide) ?_
  refine aw_icmp_lt (tgt := 24) d_Mo_isDigit_7 (by decide) (fun cc1 => ?_) (fun cc1 => ?_)
  · replace w := w.1 cc1
    refine aw_iconst (v := (0 : Int32)) d_Mo_isDigit_24 (by decide) ?_
    exact aw_ireturn .boolean rfl rfl d_Mo_isDigit_25 w
  · replace w := w.2 cc1
    refine aw_aload_n (x := a0) d_Mo_isDigit_10 rfl ?_
    refine aw_iload_n (x := x1) d_Mo_isDigit_11 rfl ?_
    obtain ⟨hk2, w⟩ := w
    exact aw_room (cb' := 0 + cb) (sb' := 0 + sb) (by omega) (by omega) (aw_weak (lv' := [none, none]) trivial (aw_callV (M' := m_Mo_at) (lv0 := [some (.ref a0), some (.int x1)]) (As := [.int x1]) (rest := []) 8 981 983 984 rfl (by decide) rfl hk2 tb_981 tb_983 tb_984 (fun U hU => hU.p 34 rfl) rfl rfl 1 0 rfl rfl ⟨by decide, by decide, by decide +kernel, by decide +kernel, by decide, by decide⟩ (Nat.le_of_ble_eq_true rfl) ⟨rfl, rfl, trivial⟩ rfl d_Mo_isDigit_12 w))
set_option maxRecDepth 20000 in
theorem r_Mo_isDigit_15 {E : zE} {K n : Nat → Nat} {I : Nat → Nat → Int32} {F : Nat → Nat → Option Nat} {J : Nat → Nat → Int64} {cb sb : Nat} {Q : zO → zH → Prop} {sx0 : Int32}
    (w : (((57 : Int32) < sx0 → Q (.inl (some (.int (0 : Int32)))) (K, n, I, F, J)) ∧ (¬ (57 : Int32) < sx0 → Q (.inl (some (.int (1 : Int32)))) (K, n, I, F, J)))) :
    AW E m_Mo_isDigit (K, n, I, F, J) cb sb Q 15 [none, none] [.int sx0] := by
  refine aw_bipush (v := (57 : Int32)) d_Mo_isDigit_15 (by decide) ?_
  refine aw_icmp_gt (tgt := 24) d_Mo_isDigit_17 (by decide) (fun cc1 => ?_) (fun cc1 => ?_)
  · replace w := w.1 cc1
    refine aw_iconst (v := (0 : Int32)) d_Mo_isDigit_24 (by decide) ?_
    exact aw_ireturn .boolean rfl rfl d_Mo_isDigit_25 w
  · replace w := w.2 cc1
    refine aw_iconst (v := (1 : Int32)) d_Mo_isDigit_20 (by decide) ?_
    refine aw_goto (tgt := 25) d_Mo_isDigit_21 (by decide) ?_
    exact aw_ireturn .boolean rfl rfl d_Mo_isDigit_25 w
set_option maxRecDepth 20000 in
theorem r_Mo_number_0 {E : zE} {K n : Nat → Nat} {I : Nat → Nat → Int32} {F : Nat → Nat → Option Nat} {J : Nat → Nat → Int64} {cb sb : Nat} {Q : zO → zH → Prop} {a0 : Nat} {x1 : Int32} {x2 : Int32}
    (w : K a0 = 9 ∧ AW E m_Mo_sign (K, n, I, F, J) 0 0 (zAft E m_Mo_number cb sb Q 1 [some (.ref a0), some (.int x1), some (.int x2), none, none] []) 0 [some (.ref a0)] []) :
    AW E m_Mo_number (K, n, I, F, J) cb sb Q 0 [some (.ref a0), some (.int x1), some (.int x2), none, none] [] := by
  refine aw_aload_n (x := a0) d_Mo_number_0 rfl ?_
  obtain ⟨hk1, w⟩ := w
  exact aw_room (cb' := 0 + cb) (sb' := 0 + sb) (by omega) (by omega) (aw_weak (lv' := [some (.ref a0), some (.int x1), some (.int x2), none, none]) ⟨rfl, rfl, rfl, trivial⟩ (aw_callV (M' := m_Mo_sign) (lv0 := [some (.ref a0)]) (As := []) (rest := []) 8 977 979 980 rfl (by decide) rfl hk1 tb_977 tb_979 tb_980 (fun U hU => hU.p 33 rfl) rfl rfl 0 0 rfl rfl ⟨by decide, by decide, by decide +kernel, by decide +kernel, by decide, by decide⟩ (Nat.le_of_ble_eq_true rfl) ⟨rfl, trivial⟩ rfl d_Mo_number_1 w))
set_option maxRecDepth 20000 in
theorem r_Mo_number_4 {E : zE} {K n : Nat → Nat} {I : Nat → Nat → Int32} {F : Nat → Nat → Option Nat} {J : Nat → Nat → Int64} {cb sb : Nat} {Q : zO → zH → Prop} {a0 : Nat} {x1 : Int32} {x2 : Int32} {sx0 : Int32}
    (w : K a0 = 9 ∧ AW E m_Mo_isDigit (K, n, I, F, J) 0 0 (zAft E m_Mo_number cb sb Q 10 [some (.ref a0), some (.int x1), some (.int x2), none, none] []) 0 [some (.ref a0), some (.int (I a0 3))] []) :
    AW E m_Mo_number (K, n, I, F, J) cb sb Q 4 [some (.ref a0), some (.int x1), some (.int x2), none, none] [.int sx0] := by
  refine aw_pop d_Mo_number_4 rfl ?_
  refine aw_aload_n (x := a0) d_Mo_number_5 rfl ?_
  refine aw_aload_n (x := a0) d_Mo_number_6 rfl ?_
  obtain ⟨hk1, w⟩ := w
  refine gf_Mo_121 rfl hk1 d_Mo_number_7 ?_
  exact aw_room (cb' := 0 + cb) (sb' := 0 + sb) (by omega) (by omega) (aw_weak (lv' := [some (.ref a0), some (.int x1), some (.int x2), none, none]) ⟨rfl, rfl, rfl, trivial⟩ (aw_callV (M' := m_Mo_isDigit) (lv0 := [some (.ref a0), some (.int (I a0 3))]) (As := [.int (I a0 3)]) (rest := []) 8 1017 1019 1020 rfl (by decide) rfl hk1 tb_1017 tb_1019 tb_1020 (fun U hU => hU.p 42 rfl) rfl rfl 1 0 rfl rfl ⟨by decide, by decide, by decide +kernel, by decide +kernel, by decide, by decide⟩ (Nat.le_of_ble_eq_true rfl) ⟨rfl, rfl, trivial⟩ rfl d_Mo_number_10 w))
set_option maxRecDepth 20000 in
theorem r_Mo_number_13 {E : zE} {K n : Nat → Nat} {I : Nat → Nat → Int32} {F : Nat → Nat → Option Nat} {J : Nat → Nat → Int64} {cb sb : Nat} {Q : zO → zH → Prop} {a0 : Nat} {x1 : Int32} {x2 : Int32} {sx0 : Int32}
    (w : ((¬ sx0 = 0 → AW E m_Mo_number (K, n, I, F, J) cb sb Q 23 [some (.ref a0), some (.int x1), some (.int x2), some (.int (0 : Int32)), some (.int (0 : Int32))] []) ∧ (sx0 = 0 → Q (.inl (some (.int ((-1) : Int32)))) (K, n, I, F, J)))) :
    AW E m_Mo_number (K, n, I, F, J) cb sb Q 13 [some (.ref a0), some (.int x1), some (.int x2), none, none] [.int sx0] := by
  refine aw_if_ne (tgt := 18) d_Mo_number_13 (by decide) (fun cc1 => ?_) (fun cc1 => ?_)
  · replace w := w.1 cc1
    refine aw_iconst (v := (0 : Int32)) d_Mo_number_18 (by decide) ?_
    refine aw_istore_n d_Mo_number_19 (by decide) ?_
    refine aw_iconst (v := (0 : Int32)) d_Mo_number_20 (by decide) ?_
    refine aw_istore d_Mo_number_21 (by decide) ?_
    exact aw_weak (lv' := [some (.ref a0), some (.int x1), some (.int x2), some (.int (0 : Int32)), some (.int (0 : Int32))]) ⟨rfl, rfl, rfl, rfl, rfl, trivial⟩ w
  · replace w := w.2 cc1
    refine aw_iconst (v := ((-1) : Int32)) d_Mo_number_16 (by decide) ?_
    exact aw_ireturn .int rfl rfl d_Mo_number_17 w
set_option maxRecDepth 20000 in
theorem r_Mo_number_23 {E : zE} {K n : Nat → Nat} {I : Nat → Nat → Int32} {F : Nat → Nat → Option Nat} {J : Nat → Nat → Int64} {cb sb : Nat} {Q : zO → zH → Prop} {a0 : Nat} {x1 : Int32} {x2 : Int32} {x3 : Int32} {x4 : Int32}
    (w : K a0 = 9 ∧ AW E m_Mo_isDigit (K, n, I, F, J) 0 0 (zAft E m_Mo_number cb sb Q 28 [some (.ref a0), some (.int x1), some (.int x2), some (.int x3), some (.int x4)] []) 0 [some (.ref a0), some (.int (I a0 3))] []) :
    AW E m_Mo_number (K, n, I, F, J) cb sb Q 23 [some (.ref a0), some (.int x1), some (.int x2), some (.int x3), some (.int x4)] [] := by
  refine aw_aload_n (x := a0) d_Mo_number_23 rfl ?_
  refine aw_aload_n (x := a0) d_Mo_number_24 rfl ?_
  obtain ⟨hk1, w⟩ := w
  refine gf_Mo_121 rfl hk1 d_Mo_number_25 ?_
  exact aw_room (cb' := 0 + cb) (sb' := 0 + sb) (by omega) (by omega) (aw_weak (lv' := [some (.ref a0), some (.int x1), some (.int x2), some (.int x3), some (.int x4)]) ⟨rfl, rfl, rfl, rfl, rfl, trivial⟩ (aw_callV (M' := m_Mo_isDigit) (lv0 := [some (.ref a0), some (.int (I a0 3))]) (As := [.int (I a0 3)]) (rest := []) 8 1017 1019 1020 rfl (by decide) rfl hk1 tb_1017 tb_1019 tb_1020 (fun U hU => hU.p 42 rfl) rfl rfl 1 0 rfl rfl ⟨by decide, by decide, by decide +kernel, by decide +kernel, by decide, by decide⟩ (Nat.le_of_ble_eq_true rfl) ⟨rfl, rfl, trivial⟩ rfl d_Mo_number_28 w))
set_option maxRecDepth 20000 in
theorem r_Mo_number_31 {E : zE} {K n : Nat → Nat} {I : Nat → Nat → Int32} {F : Nat → Nat → Option Nat} {J : Nat → Nat → Int64} {cb sb : Nat} {Q : zO → zH → Prop} {a0 : Nat} {x1 : Int32} {x2 : Int32} {x3 : Int32} {x4 : Int32} {sx0 : Int32}
    (w : ((sx0 = 0 → ((x3 < x1 → Q (.inl (some (.int ((-1) : Int32)))) (K, n, I, F, J)) ∧ (¬ x3 < x1 → ((x3 ≤ x2 → Q (.inl (some (.int x3))) (K, n, I, F, J)) ∧ (¬ x3 ≤ x2 → Q (.inl (some (.int ((-1) : Int32)))) (K, n, I, F, J)))))) ∧ (¬ sx0 = 0 → ((¬ x4 = (4 : Int32) → K a0 = 9 ∧ AW E m_Mo_at (K, n, I, F, J) 0 0 (zAft E m_Mo_number cb sb Q 51 [some (.ref a0), some (.int x1), some (.int x2), none, some (.int x4)] [.int ((10 : Int32) * x3)]) 0 [some (.ref a0), some (.int (I a0 3))] []) ∧ (x4 = (4 : Int32) → Q (.inl (some (.int ((-1) : Int32)))) (K, n, I, F, J)))))) :
    AW E m_Mo_number (K, n, I, F, J) cb sb Q 31 [some (.ref a0), some (.int x1), some (.int x2), some (.int x3), some (.int x4)] [.int sx0] := by
  refine aw_if_eq (tgt := 75) d_Mo_number_31 (by decide) (fun cc1 => ?_) (fun cc1 => ?_)
  · replace w := w.1 cc1
    refine aw_iload_n (x := x3) d_Mo_number_75 rfl ?_
    refine aw_iload_n (x := x1) d_Mo_number_76 rfl ?_
    refine aw_icmp_lt (tgt := 85) d_Mo_number_77 (by decide) (fun cc2 => ?_) (fun cc2 => ?_)
    · replace w := w.1 cc2
      refine aw_iconst (v := ((-1) : Int32)) d_Mo_number_85 (by decide) ?_
      refine aw_goto (tgt := 90) d_Mo_number_86 (by decide) ?_
      exact aw_ireturn .int rfl rfl d_Mo_number_90 w
    · replace w := w.2 cc2
      refine aw_iload_n (x := x3) d_Mo_number_80 rfl ?_
      refine aw_iload_n (x := x2) d_Mo_number_81 rfl ?_
      refine aw_icmp_le (tgt := 89) d_Mo_number_82 (by decide) (fun cc3 => ?_) (fun cc3 => ?_)
      · replace w := w.1 cc3
        refine aw_iload_n (x := x3) d_Mo_number_89 rfl ?_
        exact aw_ireturn .int rfl rfl d_Mo_number_90 w
      · replace w := w.2 cc3
        refine aw_iconst (v := ((-1) : Int32)) d_Mo_number_85 (by decide) ?_
        refine aw_goto (tgt := 90) d_Mo_number_86 (by decide) ?_
        exact aw_ireturn .int rfl rfl d_Mo_number_90 w
  · replace w := w.2 cc1
    refine aw_iload (x := x4) d_Mo_number_34 rfl ?_
    refine aw_iconst (v := (4 : Int32)) d_Mo_number_36 (by decide) ?_
    refine aw_icmp_ne (tgt := 42) d_Mo_number_37 (by decide) (fun cc4 => ?_) (fun cc4 => ?_)
    · replace w := w.1 cc4
      refine aw_bipush (v := (10 : Int32)) d_Mo_number_42 (by decide) ?_
      refine aw_iload_n (x := x3) d_Mo_number_44 rfl ?_
      refine aw_imul d_Mo_number_45 ?_
      refine aw_aload_n (x := a0) d_Mo_number_46 rfl ?_
      refine aw_aload_n (x := a0) d_Mo_number_47 rfl ?_
      obtain ⟨hk5, w⟩ := w
      refine gf_Mo_121 rfl hk5 d_Mo_number_48 ?_
      exact aw_room (cb' := 0 + cb) (sb' := 0 + sb) (by omega) (by omega) (aw_weak (lv' := [some (.ref a0), some (.int x1), some (.int x2), none, some (.int x4)]) ⟨rfl, rfl, rfl, rfl, trivial⟩ (aw_callV (M' := m_Mo_at) (lv0 := [some (.ref a0), some (.int (I a0 3))]) (As := [.int (I a0 3)]) (rest := [.int ((10 : Int32) * x3)]) 8 981 983 984 rfl (by decide) rfl hk5 tb_981 tb_983 tb_984 (fun U hU => hU.p 34 rfl) rfl rfl 1 1 rfl rfl ⟨by decide, by decide, by decide +kernel, by decide +kernel, by decide, by decide⟩ (Nat.le_of_ble_eq_true rfl) ⟨rfl, rfl, trivial⟩ rfl d_Mo_number_51 w))
    · replace w := w.2 cc4
      refine aw_iconst (v := ((-1) : Int32)) d_Mo_number_40 (by decide) ?_
      exact aw_ireturn .int rfl rfl d_Mo_number_41 w
set_option maxRecDepth 20000 in
theorem r_Mo_number_54 {E : zE} {K n : Nat → Nat} {I : Nat → Nat → Int32} {F : Nat → Nat → Option Nat} {J : Nat → Nat → Int64} {cb sb : Nat} {Q : zO → zH → Prop} {a0 : Nat} {x1 : Int32} {x2 : Int32} {x4 : Int32} {sx0 : Int32} {sx1 : Int32}
    (w : K a0 = 9 ∧ AW E m_Mo_number (K, n, (zup I a0 3 ((I a0 3) + (1 : Int32))), F, J) cb sb Q 23 [some (.ref a0), some (.int x1), some (.int x2), some (.int ((sx0 + sx1) - (48 : Int32))), some (.int (x4 + (1 : Int32)))] []) :
    AW E m_Mo_number (K, n, I, F, J) cb sb Q 54 [some (.ref a0), some (.int x1), some (.int x2), none, some (.int x4)] [.int sx1, .int sx0] := by
  refine aw_iadd d_Mo_number_54 ?_
  refine aw_bipush (v := (48 : Int32)) d_Mo_number_55 (by decide) ?_
  refine aw_isub d_Mo_number_57 ?_
  refine aw_istore_n d_Mo_number_58 (by decide) ?_
  refine aw_aload_n (x := a0) d_Mo_number_59 rfl ?_
  refine aw_dup d_Mo_number_60 rfl ?_
  obtain ⟨hk1, w⟩ := w
  refine gf_Mo_121 rfl hk1 d_Mo_number_61 ?_
  refine aw_iconst (v := (1 : Int32)) d_Mo_number_64 (by decide) ?_
  refine aw_iadd d_Mo_number_65 ?_
  refine pf_Mo_121 rfl hk1 d_Mo_number_66 ?_
  refine aw_iinc (v := (x4 + (1 : Int32))) d_Mo_number_69 rfl (by rfl) (by decide) ?_
  refine aw_goto (tgt := 23) d_Mo_number_72 (by decide) ?_
  exact aw_weak (lv' := [some (.ref a0), some (.int x1), some (.int x2), some (.int ((sx0 + sx1) - (48 : Int32))), some (.int (x4 + (1 : Int32)))]) ⟨rfl, rfl, rfl, rfl, rfl, trivial⟩ w
set_option maxRecDepth 20000 in
theorem r_Mo_meets_0 {E : zE} {K n : Nat → Nat} {I : Nat → Nat → Int32} {F : Nat → Nat → Option Nat} {J : Nat → Nat → Int64} {cb sb : Nat} {Q : zO → zH → Prop} {a0 : Nat} {x1 : Int32}
    (w : K a0 = 9 ∧ AW E m_Mo_sign (K, n, I, F, J) 0 0 (zAft E m_Mo_meets cb sb Q 1 [some (.ref a0), some (.int x1)] []) 0 [some (.ref a0)] []) :
    AW E m_Mo_meets (K, n, I, F, J) cb sb Q 0 [some (.ref a0), some (.int x1)] [] := by
  refine aw_aload_n (x := a0) d_Mo_meets_0 rfl ?_
  obtain ⟨hk1, w⟩ := w
  exact aw_room (cb' := 0 + cb) (sb' := 0 + sb) (by omega) (by omega) (aw_weak (lv' := [some (.ref a0), some (.int x1)]) ⟨rfl, rfl, trivial⟩ (aw_callV (M' := m_Mo_sign) (lv0 := [some (.ref a0)]) (As := []) (rest := []) 8 977 979 980 rfl (by decide) rfl hk1 tb_977 tb_979 tb_980 (fun U hU => hU.p 33 rfl) rfl rfl 0 0 rfl rfl ⟨by decide, by decide, by decide +kernel, by decide +kernel, by decide, by decide⟩ (Nat.le_of_ble_eq_true rfl) ⟨rfl, trivial⟩ rfl d_Mo_meets_1 w))
set_option maxRecDepth 20000 in
theorem r_Mo_meets_4 {E : zE} {K n : Nat → Nat} {I : Nat → Nat → Int32} {F : Nat → Nat → Option Nat} {J : Nat → Nat → Int64} {cb sb : Nat} {Q : zO → zH → Prop} {a0 : Nat} {x1 : Int32} {sx0 : Int32}
    (w : ((sx0 = x1 → K a0 = 9 ∧ Q (.inl (some (.int (1 : Int32)))) (K, n, (zup I a0 3 ((I a0 3) + (1 : Int32))), F, J)) ∧ (¬ sx0 = x1 → Q (.inl (some (.int (0 : Int32)))) (K, n, I, F, J)))) :
    AW E m_Mo_meets (K, n, I, F, J) cb sb Q 4 [some (.ref a0), some (.int x1)] [.int sx0] := by
  refine aw_iload_n (x := x1) d_Mo_meets_4 rfl ?_
  refine aw_icmp_eq (tgt := 10) d_Mo_meets_5 (by decide) (fun cc1 => ?_) (fun cc1 => ?_)
  · replace w := w.1 cc1
    refine aw_aload_n (x := a0) d_Mo_meets_10 rfl ?_
    refine aw_dup d_Mo_meets_11 rfl ?_
    obtain ⟨hk2, w⟩ := w
    refine gf_Mo_121 rfl hk2 d_Mo_meets_12 ?_
    refine aw_iconst (v := (1 : Int32)) d_Mo_meets_15 (by decide) ?_
    refine aw_iadd d_Mo_meets_16 ?_
    refine pf_Mo_121 rfl hk2 d_Mo_meets_17 ?_
    refine aw_iconst (v := (1 : Int32)) d_Mo_meets_20 (by decide) ?_
    exact aw_ireturn .boolean rfl rfl d_Mo_meets_21 w
  · replace w := w.2 cc1
    refine aw_iconst (v := (0 : Int32)) d_Mo_meets_8 (by decide) ?_
    exact aw_ireturn .boolean rfl rfl d_Mo_meets_9 w
set_option maxRecDepth 20000 in
theorem r_Mo_field_0 {E : zE} {K n : Nat → Nat} {I : Nat → Nat → Int32} {F : Nat → Nat → Option Nat} {J : Nat → Nat → Int64} {cb sb : Nat} {Q : zO → zH → Prop} {a0 : Nat} {a1 : Nat} {x2 : Int32} {x3 : Int32}
    (w : K a0 = 9 ∧ AW E m_Mo_number (K, n, I, F, J) 0 0 (zAft E m_Mo_field cb sb Q 4 [some (.ref a0), some (.ref a1), some (.int x2), some (.int x3), none, none] []) 0 [some (.ref a0), some (.int (1 : Int32)), some (.int (100 : Int32)), none, none] []) :
    AW E m_Mo_field (K, n, I, F, J) cb sb Q 0 [some (.ref a0), some (.ref a1), some (.int x2), some (.int x3), none, none] [] := by
  refine aw_aload_n (x := a0) d_Mo_field_0 rfl ?_
  refine aw_iconst (v := (1 : Int32)) d_Mo_field_1 (by decide) ?_
  refine aw_bipush (v := (100 : Int32)) d_Mo_field_2 (by decide) ?_
  obtain ⟨hk1, w⟩ := w
  exact aw_room (cb' := 0 + cb) (sb' := 0 + sb) (by omega) (by omega) (aw_weak (lv' := [some (.ref a0), some (.ref a1), some (.int x2), some (.int x3), none, none]) ⟨rfl, rfl, rfl, rfl, trivial⟩ (aw_callV (M' := m_Mo_number) (lv0 := [some (.ref a0), some (.int (1 : Int32)), some (.int (100 : Int32)), none, none]) (As := [.int (1 : Int32), .int (100 : Int32)]) (rest := []) 8 1013 1015 1016 rfl (by decide) rfl hk1 tb_1013 tb_1015 tb_1016 (fun U hU => hU.p 41 rfl) rfl rfl 2 0 rfl rfl ⟨by decide, by decide, by decide +kernel, by decide +kernel, by decide, by decide⟩ (Nat.le_of_ble_eq_true rfl) ⟨rfl, rfl, rfl, trivial⟩ rfl d_Mo_field_4 w))
set_option maxRecDepth 20000 in
theorem r_Mo_field_7 {E : zE} {K n : Nat → Nat} {I : Nat → Nat → Int32} {F : Nat → Nat → Option Nat} {J : Nat → Nat → Int64} {cb sb : Nat} {Q : zO → zH → Prop} {a0 : Nat} {a1 : Nat} {x2 : Int32} {x3 : Int32} {sx0 : Int32}
    (w : ((sx0 = ((-1) : Int32) → Q (.inl (some (.int (0 : Int32)))) (K, n, I, F, J)) ∧ (¬ sx0 = ((-1) : Int32) → K a0 = 9 ∧ AW E m_Mo_meets (K, n, I, F, J) 0 0 (zAft E m_Mo_field cb sb Q 18 [some (.ref a0), some (.ref a1), some (.int x2), some (.int x3), some (.int sx0), none] []) 0 [some (.ref a0), some (.int (44 : Int32))] []))) :
    AW E m_Mo_field (K, n, I, F, J) cb sb Q 7 [some (.ref a0), some (.ref a1), some (.int x2), some (.int x3), none, none] [.int sx0] := by
  refine aw_istore d_Mo_field_7 (by decide) ?_
  refine aw_iload (x := sx0) d_Mo_field_9 rfl ?_
  refine aw_iconst (v := ((-1) : Int32)) d_Mo_field_11 (by decide) ?_
  refine aw_icmp_eq (tgt := 24) d_Mo_field_12 (by decide) (fun cc1 => ?_) (fun cc1 => ?_)
  · replace w := w.1 cc1
    refine aw_iconst (v := (0 : Int32)) d_Mo_field_24 (by decide) ?_
    exact aw_ireturn .boolean rfl rfl d_Mo_field_25 w
  · replace w := w.2 cc1
    refine aw_aload_n (x := a0) d_Mo_field_15 rfl ?_
    refine aw_bipush (v := (44 : Int32)) d_Mo_field_16 (by decide) ?_
    obtain ⟨hk2, w⟩ := w
    exact aw_room (cb' := 0 + cb) (sb' := 0 + sb) (by omega) (by omega) (aw_weak (lv' := [some (.ref a0), some (.ref a1), some (.int x2), some (.int x3), some (.int sx0), none]) ⟨rfl, rfl, rfl, rfl, rfl, trivial⟩ (aw_callV (M' := m_Mo_meets) (lv0 := [some (.ref a0), some (.int (44 : Int32))]) (As := [.int (44 : Int32)]) (rest := []) 8 1021 1023 1024 rfl (by decide) rfl hk2 tb_1021 tb_1023 tb_1024 (fun U hU => hU.p 43 rfl) rfl rfl 1 0 rfl rfl ⟨by decide, by decide, by decide +kernel, by decide +kernel, by decide, by decide⟩ (Nat.le_of_ble_eq_true rfl) ⟨rfl, rfl, trivial⟩ rfl d_Mo_field_18 w))
set_option maxRecDepth 20000 in
theorem r_Mo_field_21 {E : zE} {K n : Nat → Nat} {I : Nat → Nat → Int32} {F : Nat → Nat → Option Nat} {J : Nat → Nat → Int64} {cb sb : Nat} {Q : zO → zH → Prop} {a0 : Nat} {a1 : Nat} {x2 : Int32} {x3 : Int32} {x4 : Int32} {sx0 : Int32}
    (w : ((¬ sx0 = 0 → K a0 = 9 ∧ AW E m_Mo_number (K, n, I, F, J) 0 0 (zAft E m_Mo_field cb sb Q 29 [none, some (.ref a1), some (.int x2), none, some (.int x4), none] []) 0 [some (.ref a0), some (.int (1 : Int32)), some (.int x3), none, none] []) ∧ (sx0 = 0 → Q (.inl (some (.int (0 : Int32)))) (K, n, I, F, J)))) :
    AW E m_Mo_field (K, n, I, F, J) cb sb Q 21 [some (.ref a0), some (.ref a1), some (.int x2), some (.int x3), some (.int x4), none] [.int sx0] := by
  refine aw_if_ne (tgt := 26) d_Mo_field_21 (by decide) (fun cc1 => ?_) (fun cc1 => ?_)
  · replace w := w.1 cc1
    refine aw_aload_n (x := a0) d_Mo_field_26 rfl ?_
    refine aw_iconst (v := (1 : Int32)) d_Mo_field_27 (by decide) ?_
    refine aw_iload_n (x := x3) d_Mo_field_28 rfl ?_
    obtain ⟨hk2, w⟩ := w
    exact aw_room (cb' := 0 + cb) (sb' := 0 + sb) (by omega) (by omega) (aw_weak (lv' := [none, some (.ref a1), some (.int x2), none, some (.int x4), none]) ⟨rfl, rfl, rfl, trivial⟩ (aw_callV (M' := m_Mo_number) (lv0 := [some (.ref a0), some (.int (1 : Int32)), some (.int x3), none, none]) (As := [.int (1 : Int32), .int x3]) (rest := []) 8 1013 1015 1016 rfl (by decide) rfl hk2 tb_1013 tb_1015 tb_1016 (fun U hU => hU.p 41 rfl) rfl rfl 2 0 rfl rfl ⟨by decide, by decide, by decide +kernel, by decide +kernel, by decide, by decide⟩ (Nat.le_of_ble_eq_true rfl) ⟨rfl, rfl, rfl, trivial⟩ rfl d_Mo_field_29 w))
  · replace w := w.2 cc1
    refine aw_iconst (v := (0 : Int32)) d_Mo_field_24 (by decide) ?_
    exact aw_ireturn .boolean rfl rfl d_Mo_field_25 w
set_option maxRecDepth 20000 in
theorem r_Mo_field_32 {E : zE} {K n : Nat → Nat} {I : Nat → Nat → Int32} {F : Nat → Nat → Option Nat} {J : Nat → Nat → Int64} {cb sb : Nat} {Q : zO → zH → Prop} {a1 : Nat} {x2 : Int32} {x4 : Int32} {sx0 : Int32}
    (w : ((sx0 = ((-1) : Int32) → Q (.inl (some (.int (0 : Int32)))) (K, n, I, F, J)) ∧ (¬ sx0 = ((-1) : Int32) → ((((x4 + sx0) - (1 : Int32)) ≤ (100 : Int32) → K a1 = 21 ∧ (∃ j4 : Nat, x2 = nI j4 ∧ j4 < n a1 ∧ j4 < 2147483648 ∧ (∃ j5 : Nat, (x2 + (1 : Int32)) = nI j5 ∧ j5 < n a1 ∧ j5 < 2147483648 ∧ Q (.inl (some (.int (1 : Int32)))) (K, n, (zup (zup I a1 j4 x4) a1 j5 sx0), F, J)))) ∧ (¬ ((x4 + sx0) - (1 : Int32)) ≤ (100 : Int32) → Q (.inl (some (.int (0 : Int32)))) (K, n, I, F, J)))))) :
    AW E m_Mo_field (K, n, I, F, J) cb sb Q 32 [none, some (.ref a1), some (.int x2), none, some (.int x4), none] [.int sx0] := by
  refine aw_istore d_Mo_field_32 (by decide) ?_
  refine aw_iload (x := sx0) d_Mo_field_34 rfl ?_
  refine aw_iconst (v := ((-1) : Int32)) d_Mo_field_36 (by decide) ?_
  refine aw_icmp_eq (tgt := 52) d_Mo_field_37 (by decide) (fun cc1 => ?_) (fun cc1 => ?_)
  · replace w := w.1 cc1
    refine aw_iconst (v := (0 : Int32)) d_Mo_field_52 (by decide) ?_
    exact aw_ireturn .boolean rfl rfl d_Mo_field_53 w
  · replace w := w.2 cc1
    refine aw_iload (x := x4) d_Mo_field_40 rfl ?_
    refine aw_iload (x := sx0) d_Mo_field_42 rfl ?_
    refine aw_iadd d_Mo_field_44 ?_
    refine aw_iconst (v := (1 : Int32)) d_Mo_field_45 (by decide) ?_
    refine aw_isub d_Mo_field_46 ?_
    refine aw_bipush (v := (100 : Int32)) d_Mo_field_47 (by decide) ?_
    refine aw_icmp_le (tgt := 54) d_Mo_field_49 (by decide) (fun cc2 => ?_) (fun cc2 => ?_)
    · replace w := w.1 cc2
      refine aw_aload_n (x := a1) d_Mo_field_54 rfl ?_
      refine aw_iload_n (x := x2) d_Mo_field_55 rfl ?_
      refine aw_iload (x := x4) d_Mo_field_56 rfl ?_
      obtain ⟨hk3, w⟩ := w
      obtain ⟨j4, hj4a, hj4b, hj4c, w⟩ := w
      refine aw_iastore j4 hk3 hj4a hj4b hj4c d_Mo_field_58 ?_
      refine aw_aload_n (x := a1) d_Mo_field_59 rfl ?_
      refine aw_iload_n (x := x2) d_Mo_field_60 rfl ?_
      refine aw_iconst (v := (1 : Int32)) d_Mo_field_61 (by decide) ?_
      refine aw_iadd d_Mo_field_62 ?_
      refine aw_iload (x := sx0) d_Mo_field_63 rfl ?_
      obtain ⟨j5, hj5a, hj5b, hj5c, w⟩ := w
      refine aw_iastore j5 hk3 hj5a hj5b hj5c d_Mo_field_65 ?_
      refine aw_iconst (v := (1 : Int32)) d_Mo_field_66 (by decide) ?_
      exact aw_ireturn .boolean rfl rfl d_Mo_field_67 w
    · replace w := w.2 cc2
      refine aw_iconst (v := (0 : Int32)) d_Mo_field_52 (by decide) ?_
      exact aw_ireturn .boolean rfl rfl d_Mo_field_53 w
set_option maxRecDepth 20000 in
theorem r_Mo_letters_0 {E : zE} {K n : Nat → Nat} {I : Nat → Nat → Int32} {F : Nat → Nat → Option Nat} {J : Nat → Nat → Int64} {cb sb : Nat} {Q : zO → zH → Prop} {a0 : Nat} {x1 : Int32}
    (w : K a0 = 9 ∧ AW E m_Mo_letters (K, n, (zup I a0 3 ((I a0 3) + (1 : Int32))), F, J) cb sb Q 12 [some (.ref a0), some (.int x1), some (.int (0 : Int32))] []) :
    AW E m_Mo_letters (K, n, I, F, J) cb sb Q 0 [some (.ref a0), some (.int x1), none] [] := by
  refine aw_aload_n (x := a0) d_Mo_letters_0 rfl ?_
  refine aw_dup d_Mo_letters_1 rfl ?_
  obtain ⟨hk1, w⟩ := w
  refine gf_Mo_121 rfl hk1 d_Mo_letters_2 ?_
  refine aw_iconst (v := (1 : Int32)) d_Mo_letters_5 (by decide) ?_
  refine aw_iadd d_Mo_letters_6 ?_
  refine pf_Mo_121 rfl hk1 d_Mo_letters_7 ?_
  refine aw_iconst (v := (0 : Int32)) d_Mo_letters_10 (by decide) ?_
  refine aw_istore_n d_Mo_letters_11 (by decide) ?_
  exact aw_weak (lv' := [some (.ref a0), some (.int x1), some (.int (0 : Int32))]) ⟨rfl, rfl, rfl, trivial⟩ w
set_option maxRecDepth 20000 in
theorem r_Mo_letters_12 {E : zE} {K n : Nat → Nat} {I : Nat → Nat → Int32} {F : Nat → Nat → Option Nat} {J : Nat → Nat → Int64} {cb sb : Nat} {Q : zO → zH → Prop} {a0 : Nat} {x1 : Int32} {x2 : Int32}
    (w : K a0 = 9 ∧ AW E m_Mo_at (K, n, I, F, J) 0 0 (zAft E m_Mo_letters cb sb Q 17 [some (.ref a0), some (.int x1), some (.int x2)] []) 0 [some (.ref a0), some (.int (I a0 3))] []) :
    AW E m_Mo_letters (K, n, I, F, J) cb sb Q 12 [some (.ref a0), some (.int x1), some (.int x2)] [] := by
  refine aw_aload_n (x := a0) d_Mo_letters_12 rfl ?_
  refine aw_aload_n (x := a0) d_Mo_letters_13 rfl ?_
  obtain ⟨hk1, w⟩ := w
  refine gf_Mo_121 rfl hk1 d_Mo_letters_14 ?_
  exact aw_room (cb' := 0 + cb) (sb' := 0 + sb) (by omega) (by omega) (aw_weak (lv' := [some (.ref a0), some (.int x1), some (.int x2)]) ⟨rfl, rfl, rfl, trivial⟩ (aw_callV (M' := m_Mo_at) (lv0 := [some (.ref a0), some (.int (I a0 3))]) (As := [.int (I a0 3)]) (rest := []) 8 981 983 984 rfl (by decide) rfl hk1 tb_981 tb_983 tb_984 (fun U hU => hU.p 34 rfl) rfl rfl 1 0 rfl rfl ⟨by decide, by decide, by decide +kernel, by decide +kernel, by decide, by decide⟩ (Nat.le_of_ble_eq_true rfl) ⟨rfl, rfl, trivial⟩ rfl d_Mo_letters_17 w))
set_option maxRecDepth 20000 in
theorem r_Mo_letters_20 {E : zE} {K n : Nat → Nat} {I : Nat → Nat → Int32} {F : Nat → Nat → Option Nat} {J : Nat → Nat → Int64} {cb sb : Nat} {Q : zO → zH → Prop} {a0 : Nat} {x1 : Int32} {x2 : Int32} {sx0 : Int32}
    (w : ((sx0 = (39 : Int32) → ((¬ x2 = 0 → K a0 = 9 ∧ Q (.inl (some (.int x2))) (K, n, (zup I a0 3 ((I a0 3) + (1 : Int32))), F, J)) ∧ (x2 = 0 → Q (.inl (some (.int ((-1) : Int32)))) (K, n, I, F, J)))) ∧ (¬ sx0 = (39 : Int32) → K a0 = 9 ∧ AW E m_Mo_at (K, n, I, F, J) 0 0 (zAft E m_Mo_letters cb sb Q 30 [some (.ref a0), some (.int x1), some (.int x2)] []) 0 [some (.ref a0), some (.int (I a0 3))] []))) :
    AW E m_Mo_letters (K, n, I, F, J) cb sb Q 20 [some (.ref a0), some (.int x1), some (.int x2)] [.int sx0] := by
  refine aw_bipush (v := (39 : Int32)) d_Mo_letters_20 (by decide) ?_
  refine aw_icmp_eq (tgt := 91) d_Mo_letters_22 (by decide) (fun cc1 => ?_) (fun cc1 => ?_)
  · replace w := w.1 cc1
    refine aw_iload_n (x := x2) d_Mo_letters_91 rfl ?_
    refine aw_if_ne (tgt := 97) d_Mo_letters_92 (by decide) (fun cc2 => ?_) (fun cc2 => ?_)
    · replace w := w.1 cc2
      refine aw_aload_n (x := a0) d_Mo_letters_97 rfl ?_
      refine aw_dup d_Mo_letters_98 rfl ?_
      obtain ⟨hk3, w⟩ := w
      refine gf_Mo_121 rfl hk3 d_Mo_letters_99 ?_
      refine aw_iconst (v := (1 : Int32)) d_Mo_letters_102 (by decide) ?_
      refine aw_iadd d_Mo_letters_103 ?_
      refine pf_Mo_121 rfl hk3 d_Mo_letters_104 ?_
      refine aw_iload_n (x := x2) d_Mo_letters_107 rfl ?_
      exact aw_ireturn .int rfl rfl d_Mo_letters_108 w
    · replace w := w.2 cc2
      refine aw_iconst (v := ((-1) : Int32)) d_Mo_letters_95 (by decide) ?_
      exact aw_ireturn .int rfl rfl d_Mo_letters_96 w
  · replace w := w.2 cc1
    refine aw_aload_n (x := a0) d_Mo_letters_25 rfl ?_
    refine aw_aload_n (x := a0) d_Mo_letters_26 rfl ?_
    obtain ⟨hk4, w⟩ := w
    refine gf_Mo_121 rfl hk4 d_Mo_letters_27 ?_
    exact aw_room (cb' := 0 + cb) (sb' := 0 + sb) (by omega) (by omega) (aw_weak (lv' := [some (.ref a0), some (.int x1), some (.int x2)]) ⟨rfl, rfl, rfl, trivial⟩ (aw_callV (M' := m_Mo_at) (lv0 := [some (.ref a0), some (.int (I a0 3))]) (As := [.int (I a0 3)]) (rest := []) 8 981 983 984 rfl (by decide) rfl hk4 tb_981 tb_983 tb_984 (fun U hU => hU.p 34 rfl) rfl rfl 1 0 rfl rfl ⟨by decide, by decide, by decide +kernel, by decide +kernel, by decide, by decide⟩ (Nat.le_of_ble_eq_true rfl) ⟨rfl, rfl, trivial⟩ rfl d_Mo_letters_30 w))
set_option maxRecDepth 20000 in
theorem r_Mo_letters_33 {E : zE} {K n : Nat → Nat} {I : Nat → Nat → Int32} {F : Nat → Nat → Option Nat} {J : Nat → Nat → Int64} {cb sb : Nat} {Q : zO → zH → Prop} {a0 : Nat} {x1 : Int32} {x2 : Int32} {sx0 : Int32}
    (w : ((sx0 < (32 : Int32) → Q (.inl (some (.int ((-1) : Int32)))) (K, n, I, F, J)) ∧ (¬ sx0 < (32 : Int32) → K a0 = 9 ∧ AW E m_Mo_at (K, n, I, F, J) 0 0 (zAft E m_Mo_letters cb sb Q 43 [some (.ref a0), some (.int x1), some (.int x2)] []) 0 [some (.ref a0), some (.int (I a0 3))] []))) :
    AW E m_Mo_letters (K, n, I, F, J) cb sb Q 33 [some (.ref a0), some (.int x1), some (.int x2)] [.int sx0] := by
  refine aw_bipush (v := (32 : Int32)) d_Mo_letters_33 (by decide) ?_
  refine aw_icmp_lt (tgt := 57) d_Mo_letters_35 (by decide) (fun cc1 => ?_) (fun cc1 => ?_)
  · replace w := w.1 cc1
    refine aw_iconst (v := ((-1) : Int32)) d_Mo_letters_57 (by decide) ?_
    exact aw_ireturn .int rfl rfl d_Mo_letters_58 w
  · replace w := w.2 cc1
    refine aw_aload_n (x := a0) d_Mo_letters_38 rfl ?_
    refine aw_aload_n (x := a0) d_Mo_letters_39 rfl ?_
    obtain ⟨hk2, w⟩ := w
    refine gf_Mo_121 rfl hk2 d_Mo_letters_40 ?_
    exact aw_room (cb' := 0 + cb) (sb' := 0 + sb) (by omega) (by omega) (aw_weak (lv' := [some (.ref a0), some (.int x1), some (.int x2)]) ⟨rfl, rfl, rfl, trivial⟩ (aw_callV (M' := m_Mo_at) (lv0 := [some (.ref a0), some (.int (I a0 3))]) (As := [.int (I a0 3)]) (rest := []) 8 981 983 984 rfl (by decide) rfl hk2 tb_981 tb_983 tb_984 (fun U hU => hU.p 34 rfl) rfl rfl 1 0 rfl rfl ⟨by decide, by decide, by decide +kernel, by decide +kernel, by decide, by decide⟩ (Nat.le_of_ble_eq_true rfl) ⟨rfl, rfl, trivial⟩ rfl d_Mo_letters_43 w))
set_option maxRecDepth 20000 in
theorem r_Mo_letters_46 {E : zE} {K n : Nat → Nat} {I : Nat → Nat → Int32} {F : Nat → Nat → Option Nat} {J : Nat → Nat → Int64} {cb sb : Nat} {Q : zO → zH → Prop} {a0 : Nat} {x1 : Int32} {x2 : Int32} {sx0 : Int32}
    (w : (((126 : Int32) < sx0 → Q (.inl (some (.int ((-1) : Int32)))) (K, n, I, F, J)) ∧ (¬ (126 : Int32) < sx0 → ((¬ x2 = (20 : Int32) → K a0 = 9 ∧ (∃ b4 : Nat, F a0 11 = some b4 ∧ AW E m_Mo_at (K, n, I, F, J) 0 0 (zAft E m_Mo_letters cb sb Q 71 [some (.ref a0), some (.int x1), some (.int x2)] [.int (x1 + x2), .ref b4]) 0 [some (.ref a0), some (.int (I a0 3))] [])) ∧ (x2 = (20 : Int32) → Q (.inl (some (.int ((-1) : Int32)))) (K, n, I, F, J)))))) :
    AW E m_Mo_letters (K, n, I, F, J) cb sb Q 46 [some (.ref a0), some (.int x1), some (.int x2)] [.int sx0] := by
  refine aw_bipush (v := (126 : Int32)) d_Mo_letters_46 (by decide) ?_
  refine aw_icmp_gt (tgt := 57) d_Mo_letters_48 (by decide) (fun cc1 => ?_) (fun cc1 => ?_)
  · replace w := w.1 cc1
    refine aw_iconst (v := ((-1) : Int32)) d_Mo_letters_57 (by decide) ?_
    exact aw_ireturn .int rfl rfl d_Mo_letters_58 w
  · replace w := w.2 cc1
    refine aw_iload_n (x := x2) d_Mo_letters_51 rfl ?_
    refine aw_bipush (v := (20 : Int32)) d_Mo_letters_52 (by decide) ?_
    refine aw_icmp_ne (tgt := 59) d_Mo_letters_54 (by decide) (fun cc2 => ?_) (fun cc2 => ?_)
    · replace w := w.1 cc2
      refine aw_aload_n (x := a0) d_Mo_letters_59 rfl ?_
      obtain ⟨hk3, w⟩ := w
      obtain ⟨b4, hb4, w⟩ := w
      refine gs_Mo_34 rfl hk3 hb4 d_Mo_letters_60 ?_
      refine aw_iload_n (x := x1) d_Mo_letters_63 rfl ?_
      refine aw_iload_n (x := x2) d_Mo_letters_64 rfl ?_
      refine aw_iadd d_Mo_letters_65 ?_
      refine aw_aload_n (x := a0) d_Mo_letters_66 rfl ?_
      refine aw_aload_n (x := a0) d_Mo_letters_67 rfl ?_
      refine gf_Mo_121 rfl hk3 d_Mo_letters_68 ?_
      exact aw_room (cb' := 0 + cb) (sb' := 0 + sb) (by omega) (by omega) (aw_weak (lv' := [some (.ref a0), some (.int x1), some (.int x2)]) ⟨rfl, rfl, rfl, trivial⟩ (aw_callV (M' := m_Mo_at) (lv0 := [some (.ref a0), some (.int (I a0 3))]) (As := [.int (I a0 3)]) (rest := [.int (x1 + x2), .ref b4]) 8 981 983 984 rfl (by decide) rfl hk3 tb_981 tb_983 tb_984 (fun U hU => hU.p 34 rfl) rfl rfl 1 2 rfl rfl ⟨by decide, by decide, by decide +kernel, by decide +kernel, by decide, by decide⟩ (Nat.le_of_ble_eq_true rfl) ⟨rfl, rfl, trivial⟩ rfl d_Mo_letters_71 w))
    · replace w := w.2 cc2
      refine aw_iconst (v := ((-1) : Int32)) d_Mo_letters_57 (by decide) ?_
      exact aw_ireturn .int rfl rfl d_Mo_letters_58 w
set_option maxRecDepth 20000 in
theorem r_Mo_letters_74 {E : zE} {K n : Nat → Nat} {I : Nat → Nat → Int32} {F : Nat → Nat → Option Nat} {J : Nat → Nat → Int64} {cb sb : Nat} {Q : zO → zH → Prop} {a0 : Nat} {x1 : Int32} {x2 : Int32} {sa0 : Nat} {sx1 : Int32} {sx2 : Int32}
    (w : K sa0 = 21 ∧ (∃ j2 : Nat, sx1 = nI j2 ∧ j2 < n sa0 ∧ j2 < 2147483648 ∧ K a0 = 9 ∧ AW E m_Mo_letters (K, n, (zup (zup I sa0 j2 sx2) a0 3 (((zup I sa0 j2 sx2) a0 3) + (1 : Int32))), F, J) cb sb Q 12 [some (.ref a0), some (.int x1), some (.int (x2 + (1 : Int32)))] [])) :
    AW E m_Mo_letters (K, n, I, F, J) cb sb Q 74 [some (.ref a0), some (.int x1), some (.int x2)] [.int sx2, .int sx1, .ref sa0] := by
  obtain ⟨hk1, w⟩ := w
  obtain ⟨j2, hj2a, hj2b, hj2c, w⟩ := w
  refine aw_iastore j2 hk1 hj2a hj2b hj2c d_Mo_letters_74 ?_
  refine aw_iinc (v := (x2 + (1 : Int32))) d_Mo_letters_75 rfl (by rfl) (by decide) ?_
  refine aw_aload_n (x := a0) d_Mo_letters_78 rfl ?_
  refine aw_dup d_Mo_letters_79 rfl ?_
  obtain ⟨hk3, w⟩ := w
  refine gf_Mo_121 rfl hk3 d_Mo_letters_80 ?_
  refine aw_iconst (v := (1 : Int32)) d_Mo_letters_83 (by decide) ?_
  refine aw_iadd d_Mo_letters_84 ?_
  refine pf_Mo_121 rfl hk3 d_Mo_letters_85 ?_
  refine aw_goto (tgt := 12) d_Mo_letters_88 (by decide) ?_
  exact aw_weak (lv' := [some (.ref a0), some (.int x1), some (.int (x2 + (1 : Int32)))]) ⟨rfl, rfl, rfl, trivial⟩ w
set_option maxRecDepth 20000 in
theorem r_Mo_key_0 {E : zE} {K n : Nat → Nat} {I : Nat → Nat → Int32} {F : Nat → Nat → Option Nat} {J : Nat → Nat → Int64} {cb sb : Nat} {Q : zO → zH → Prop} {a0 : Nat}
    (w : K a0 = 9 ∧ (∃ b2 : Nat, F a0 5 = some b2 ∧ K b2 = 21 ∧ (∃ j4 : Nat, (1 : Int32) = nI j4 ∧ j4 < n b2 ∧ j4 < 2147483648 ∧ ((¬ (I b2 j4) = (6 : Int32) → (∃ b6 : Nat, F a0 7 = some b6 ∧ AW E m_Mo_field (K, n, I, F, J) 0 0 (zAft E m_Mo_key cb sb Q 30 [some (.ref a0), some (.int ((4 : Int32) * (I b2 j4))), none, none] []) 0 [some (.ref a0), some (.ref b6), some (.int ((4 : Int32) * (I b2 j4))), some (.int (40 : Int32)), none, none] [])) ∧ ((I b2 j4) = (6 : Int32) → Q (.inl (some (.int (0 : Int32)))) (K, n, I, F, J)))))) :
    AW E m_Mo_key (K, n, I, F, J) cb sb Q 0 [some (.ref a0), none, none, none] [] := by
  refine aw_aload_n (x := a0) d_Mo_key_0 rfl ?_
  obtain ⟨hk1, w⟩ := w
  obtain ⟨b2, hb2, w⟩ := w
  refine gs_Mo_16 rfl hk1 hb2 d_Mo_key_1 ?_
  refine aw_iconst (v := (1 : Int32)) d_Mo_key_4 (by decide) ?_
  obtain ⟨hk3, w⟩ := w
  obtain ⟨j4, hj4a, hj4b, hj4c, w⟩ := w
  refine aw_iaload j4 hk3 hj4a hj4b hj4c d_Mo_key_5 ?_
  refine aw_bipush (v := (6 : Int32)) d_Mo_key_6 (by decide) ?_
  refine aw_icmp_ne (tgt := 13) d_Mo_key_8 (by decide) (fun cc5 => ?_) (fun cc5 => ?_)
  · replace w := w.1 cc5
    refine aw_iconst (v := (4 : Int32)) d_Mo_key_13 (by decide) ?_
    refine aw_aload_n (x := a0) d_Mo_key_14 rfl ?_
    refine gs_Mo_16 rfl hk1 hb2 d_Mo_key_15 ?_
    refine aw_iconst (v := (1 : Int32)) d_Mo_key_18 (by decide) ?_
    refine aw_iaload j4 hk3 hj4a hj4b hj4c d_Mo_key_19 ?_
    refine aw_imul d_Mo_key_20 ?_
    refine aw_istore_n d_Mo_key_21 (by decide) ?_
    refine aw_aload_n (x := a0) d_Mo_key_22 rfl ?_
    refine aw_aload_n (x := a0) d_Mo_key_23 rfl ?_
    obtain ⟨b6, hb6, w⟩ := w
    refine gs_Mo_22 rfl hk1 hb6 d_Mo_key_24 ?_
    refine aw_iload_n (x := ((4 : Int32) * (I b2 j4))) d_Mo_key_27 rfl ?_
    refine aw_bipush (v := (40 : Int32)) d_Mo_key_28 (by decide) ?_
    exact aw_room (cb' := 0 + cb) (sb' := 0 + sb) (by omega) (by omega) (aw_weak (lv' := [some (.ref a0), some (.int ((4 : Int32) * (I b2 j4))), none, none]) ⟨rfl, rfl, trivial⟩ (aw_callV (M' := m_Mo_field) (lv0 := [some (.ref a0), some (.ref b6), some (.int ((4 : Int32) * (I b2 j4))), some (.int (40 : Int32)), none, none]) (As := [.ref b6, .int ((4 : Int32) * (I b2 j4)), .int (40 : Int32)]) (rest := []) 8 1009 1011 1012 rfl (by decide) rfl hk1 tb_1009 tb_1011 tb_1012 (fun U hU => hU.p 40 rfl) rfl rfl 3 0 rfl rfl ⟨by decide, by decide, by decide +kernel, by decide +kernel, by decide, by decide⟩ (Nat.le_of_ble_eq_true rfl) ⟨rfl, rfl, rfl, rfl, trivial⟩ rfl d_Mo_key_30 w))
  · replace w := w.2 cc5
    refine aw_iconst (v := (0 : Int32)) d_Mo_key_11 (by decide) ?_
    exact aw_ireturn .boolean rfl rfl d_Mo_key_12 w
set_option maxRecDepth 20000 in
theorem r_Mo_key_33 {E : zE} {K n : Nat → Nat} {I : Nat → Nat → Int32} {F : Nat → Nat → Option Nat} {J : Nat → Nat → Int64} {cb sb : Nat} {Q : zO → zH → Prop} {a0 : Nat} {x1 : Int32} {sx0 : Int32}
    (w : ((¬ sx0 = 0 → K a0 = 9 ∧ AW E m_Mo_meets (K, n, I, F, J) 0 0 (zAft E m_Mo_key cb sb Q 41 [some (.ref a0), some (.int x1), none, none] []) 0 [some (.ref a0), some (.int (44 : Int32))] []) ∧ (sx0 = 0 → Q (.inl (some (.int (0 : Int32)))) (K, n, I, F, J)))) :
    AW E m_Mo_key (K, n, I, F, J) cb sb Q 33 [some (.ref a0), some (.int x1), none, none] [.int sx0] := by
  refine aw_if_ne (tgt := 38) d_Mo_key_33 (by decide) (fun cc1 => ?_) (fun cc1 => ?_)
  · replace w := w.1 cc1
    refine aw_aload_n (x := a0) d_Mo_key_38 rfl ?_
    refine aw_bipush (v := (44 : Int32)) d_Mo_key_39 (by decide) ?_
    obtain ⟨hk2, w⟩ := w
    exact aw_room (cb' := 0 + cb) (sb' := 0 + sb) (by omega) (by omega) (aw_weak (lv' := [some (.ref a0), some (.int x1), none, none]) ⟨rfl, rfl, trivial⟩ (aw_callV (M' := m_Mo_meets) (lv0 := [some (.ref a0), some (.int (44 : Int32))]) (As := [.int (44 : Int32)]) (rest := []) 8 1021 1023 1024 rfl (by decide) rfl hk2 tb_1021 tb_1023 tb_1024 (fun U hU => hU.p 43 rfl) rfl rfl 1 0 rfl rfl ⟨by decide, by decide, by decide +kernel, by decide +kernel, by decide, by decide⟩ (Nat.le_of_ble_eq_true rfl) ⟨rfl, rfl, trivial⟩ rfl d_Mo_key_41 w))
  · replace w := w.2 cc1
    refine aw_iconst (v := (0 : Int32)) d_Mo_key_36 (by decide) ?_
    exact aw_ireturn .boolean rfl rfl d_Mo_key_37 w
set_option maxRecDepth 20000 in
theorem r_Mo_key_44 {E : zE} {K n : Nat → Nat} {I : Nat → Nat → Int32} {F : Nat → Nat → Option Nat} {J : Nat → Nat → Int64} {cb sb : Nat} {Q : zO → zH → Prop} {a0 : Nat} {x1 : Int32} {sx0 : Int32}
    (w : ((¬ sx0 = 0 → K a0 = 9 ∧ AW E m_Mo_sign (K, n, I, F, J) 0 0 (zAft E m_Mo_key cb sb Q 50 [some (.ref a0), some (.int x1), none, none] []) 0 [some (.ref a0)] []) ∧ (sx0 = 0 → Q (.inl (some (.int (0 : Int32)))) (K, n, I, F, J)))) :
    AW E m_Mo_key (K, n, I, F, J) cb sb Q 44 [some (.ref a0), some (.int x1), none, none] [.int sx0] := by
  refine aw_if_ne (tgt := 49) d_Mo_key_44 (by decide) (fun cc1 => ?_) (fun cc1 => ?_)
  · replace w := w.1 cc1
    refine aw_aload_n (x := a0) d_Mo_key_49 rfl ?_
    obtain ⟨hk2, w⟩ := w
    exact aw_room (cb' := 0 + cb) (sb' := 0 + sb) (by omega) (by omega) (aw_weak (lv' := [some (.ref a0), some (.int x1), none, none]) ⟨rfl, rfl, trivial⟩ (aw_callV (M' := m_Mo_sign) (lv0 := [some (.ref a0)]) (As := []) (rest := []) 8 977 979 980 rfl (by decide) rfl hk2 tb_977 tb_979 tb_980 (fun U hU => hU.p 33 rfl) rfl rfl 0 0 rfl rfl ⟨by decide, by decide, by decide +kernel, by decide +kernel, by decide, by decide⟩ (Nat.le_of_ble_eq_true rfl) ⟨rfl, trivial⟩ rfl d_Mo_key_50 w))
  · replace w := w.2 cc1
    refine aw_iconst (v := (0 : Int32)) d_Mo_key_47 (by decide) ?_
    exact aw_ireturn .boolean rfl rfl d_Mo_key_48 w
set_option maxRecDepth 20000 in
theorem r_Mo_key_53 {E : zE} {K n : Nat → Nat} {I : Nat → Nat → Int32} {F : Nat → Nat → Option Nat} {J : Nat → Nat → Int64} {cb sb : Nat} {Q : zO → zH → Prop} {a0 : Nat} {x1 : Int32} {sx0 : Int32}
    (w : ((sx0 = (97 : Int32) → K a0 = 9 ∧ (∃ b3 : Nat, F a0 7 = some b3 ∧ ((¬ sx0 = (100 : Int32) → K b3 = 21 ∧ (∃ j6 : Nat, (x1 + (2 : Int32)) = nI j6 ∧ j6 < n b3 ∧ j6 < 2147483648 ∧ (∃ j7 : Nat, (x1 + (3 : Int32)) = nI j7 ∧ j7 < n b3 ∧ j7 < 2147483648 ∧ (∃ b8 : Nat, F a0 5 = some b8 ∧ K b8 = 21 ∧ (∃ j10 : Nat, (1 : Int32) = nI j10 ∧ j10 < n b8 ∧ j10 < 2147483648 ∧ AW E m_Mo_sign (K, n, (zup (zup (zup (zup I a0 3 ((I a0 3) + (1 : Int32))) b3 j6 (0 : Int32)) b3 j7 (0 : Int32)) b8 j10 (((zup (zup (zup I a0 3 ((I a0 3) + (1 : Int32))) b3 j6 (0 : Int32)) b3 j7 (0 : Int32)) b8 j10) + (1 : Int32))), F, J) 0 0 (zAft E m_Mo_key cb sb Q 117 [some (.ref a0), some (.int x1), none, none] []) 0 [some (.ref a0)] []))))) ∧ (sx0 = (100 : Int32) → K b3 = 21 ∧ (∃ j12 : Nat, (x1 + (2 : Int32)) = nI j12 ∧ j12 < n b3 ∧ j12 < 2147483648 ∧ (∃ j13 : Nat, (x1 + (3 : Int32)) = nI j13 ∧ j13 < n b3 ∧ j13 < 2147483648 ∧ (∃ b14 : Nat, F a0 5 = some b14 ∧ K b14 = 21 ∧ (∃ j16 : Nat, (1 : Int32) = nI j16 ∧ j16 < n b14 ∧ j16 < 2147483648 ∧ AW E m_Mo_sign (K, n, (zup (zup (zup (zup I a0 3 ((I a0 3) + (1 : Int32))) b3 j12 (1 : Int32)) b3 j13 (0 : Int32)) b14 j16 (((zup (zup (zup I a0 3 ((I a0 3) + (1 : Int32))) b3 j12 (1 : Int32)) b3 j13 (0 : Int32)) b14 j16) + (1 : Int32))), F, J) 0 0 (zAft E m_Mo_key cb sb Q 117 [some (.ref a0), some (.int x1), none, none] []) 0 [some (.ref a0)] [])))))))) ∧ (¬ sx0 = (97 : Int32) → ((sx0 = (100 : Int32) → K a0 = 9 ∧ (∃ b19 : Nat, F a0 7 = some b19 ∧ ((¬ sx0 = (100 : Int32) → K b19 = 21 ∧ (∃ j22 : Nat, (x1 + (2 : Int32)) = nI j22 ∧ j22 < n b19 ∧ j22 < 2147483648 ∧ (∃ j23 : Nat, (x1 + (3 : Int32)) = nI j23 ∧ j23 < n b19 ∧ j23 < 2147483648 ∧ (∃ b24 : Nat, F a0 5 = some b24 ∧ K b24 = 21 ∧ (∃ j26 : Nat, (1 : Int32) = nI j26 ∧ j26 < n b24 ∧ j26 < 2147483648 ∧ AW E m_Mo_sign (K, n, (zup (zup (zup (zup I a0 3 ((I a0 3) + (1 : Int32))) b19 j22 (0 : Int32)) b19 j23 (0 : Int32)) b24 j26 (((zup (zup (zup I a0 3 ((I a0 3) + (1 : Int32))) b19 j22 (0 : Int32)) b19 j23 (0 : Int32)) b24 j26) + (1 : Int32))), F, J) 0 0 (zAft E m_Mo_key cb sb Q 117 [some (.ref a0), some (.int x1), none, none] []) 0 [some (.ref a0)] []))))) ∧ (sx0 = (100 : Int32) → K b19 = 21 ∧ (∃ j28 : Nat, (x1 + (2 : Int32)) = nI j28 ∧ j28 < n b19 ∧ j28 < 2147483648 ∧ (∃ j29 : Nat, (x1 + (3 : Int32)) = nI j29 ∧ j29 < n b19 ∧ j29 < 2147483648 ∧ (∃ b30 : Nat, F a0 5 = some b30 ∧ K b30 = 21 ∧ (∃ j32 : Nat, (1 : Int32) = nI j32 ∧ j32 < n b30 ∧ j32 < 2147483648 ∧ AW E m_Mo_sign (K, n, (zup (zup (zup (zup I a0 3 ((I a0 3) + (1 : Int32))) b19 j28 (1 : Int32)) b19 j29 (0 : Int32)) b30 j32 (((zup (zup (zup I a0 3 ((I a0 3) + (1 : Int32))) b19 j28 (1 : Int32)) b19 j29 (0 : Int32)) b30 j32) + (1 : Int32))), F, J) 0 0 (zAft E m_Mo_key cb sb Q 117 [some (.ref a0), some (.int x1), none, none] []) 0 [some (.ref a0)] [])))))))) ∧ (¬ sx0 = (100 : Int32) → Q (.inl (some (.int (0 : Int32)))) (K, n, I, F, J)))))) :
    AW E m_Mo_key (K, n, I, F, J) cb sb Q 53 [some (.ref a0), some (.int x1), none, none] [.int sx0] := by
  refine aw_istore_n d_Mo_key_53 (by decide) ?_
  refine aw_iload_n (x := sx0) d_Mo_key_54 rfl ?_
  refine aw_bipush (v := (97 : Int32)) d_Mo_key_55 (by decide) ?_
  refine aw_icmp_eq (tgt := 68) d_Mo_key_57 (by decide) (fun cc1 => ?_) (fun cc1 => ?_)
  · replace w := w.1 cc1
    refine aw_aload_n (x := a0) d_Mo_key_68 rfl ?_
    refine aw_dup d_Mo_key_69 rfl ?_
    obtain ⟨hk2, w⟩ := w
    refine gf_Mo_121 rfl hk2 d_Mo_key_70 ?_
    refine aw_iconst (v := (1 : Int32)) d_Mo_key_73 (by decide) ?_
    refine aw_iadd d_Mo_key_74 ?_
    refine pf_Mo_121 rfl hk2 d_Mo_key_75 ?_
    refine aw_aload_n (x := a0) d_Mo_key_78 rfl ?_
    obtain ⟨b3, hb3, w⟩ := w
    refine gs_Mo_22 rfl hk2 hb3 d_Mo_key_79 ?_
    refine aw_iload_n (x := x1) d_Mo_key_82 rfl ?_
    refine aw_iconst (v := (2 : Int32)) d_Mo_key_83 (by decide) ?_
    refine aw_iadd d_Mo_key_84 ?_
    refine aw_iload_n (x := sx0) d_Mo_key_85 rfl ?_
    refine aw_bipush (v := (100 : Int32)) d_Mo_key_86 (by decide) ?_
    refine aw_icmp_ne (tgt := 95) d_Mo_key_88 (by decide) (fun cc4 => ?_) (fun cc4 => ?_)
    · replace w := w.1 cc4
      refine aw_iconst (v := (0 : Int32)) d_Mo_key_95 (by decide) ?_
      obtain ⟨hk5, w⟩ := w
      obtain ⟨j6, hj6a, hj6b, hj6c, w⟩ := w
      refine aw_iastore j6 hk5 hj6a hj6b hj6c d_Mo_key_96 ?_
      refine aw_aload_n (x := a0) d_Mo_key_97 rfl ?_
      refine gs_Mo_22 rfl hk2 hb3 d_Mo_key_98 ?_
      refine aw_iload_n (x := x1) d_Mo_key_101 rfl ?_
      refine aw_iconst (v := (3 : Int32)) d_Mo_key_102 (by decide) ?_
      refine aw_iadd d_Mo_key_103 ?_
      refine aw_iconst (v := (0 : Int32)) d_Mo_key_104 (by decide) ?_
      obtain ⟨j7, hj7a, hj7b, hj7c, w⟩ := w
      refine aw_iastore j7 hk5 hj7a hj7b hj7c d_Mo_key_105 ?_
      refine aw_aload_n (x := a0) d_Mo_key_106 rfl ?_
      obtain ⟨b8, hb8, w⟩ := w
      refine gs_Mo_16 rfl hk2 hb8 d_Mo_key_107 ?_
      refine aw_iconst (v := (1 : Int32)) d_Mo_key_110 (by decide) ?_
      refine aw_dup2 d_Mo_key_111 rfl rfl ?_
      obtain ⟨hk9, w⟩ := w
      obtain ⟨j10, hj10a, hj10b, hj10c, w⟩ := w
      refine aw_iaload j10 hk9 hj10a hj10b hj10c d_Mo_key_112 ?_
      refine aw_iconst (v := (1 : Int32)) d_Mo_key_113 (by decide) ?_
      refine aw_iadd d_Mo_key_114 ?_
      refine aw_iastore j10 hk9 hj10a hj10b hj10c d_Mo_key_115 ?_
      refine aw_aload_n (x := a0) d_Mo_key_116 rfl ?_
      exact aw_room (cb' := 0 + cb) (sb' := 0 + sb) (by omega) (by omega) (aw_weak (lv' := [some (.ref a0), some (.int x1), none, none]) ⟨rfl, rfl, trivial⟩ (aw_callV (M' := m_Mo_sign) (lv0 := [some (.ref a0)]) (As := []) (rest := []) 8 977 979 980 rfl (by decide) rfl hk2 tb_977 tb_979 tb_980 (fun U hU => hU.p 33 rfl) rfl rfl 0 0 rfl rfl ⟨by decide, by decide, by decide +kernel, by decide +kernel, by decide, by decide⟩ (Nat.le_of_ble_eq_true rfl) ⟨rfl, trivial⟩ rfl d_Mo_key_117 w))
    · replace w := w.2 cc4
      refine aw_iconst (v := (1 : Int32)) d_Mo_key_91 (by decide) ?_
      refine aw_goto (tgt := 96) d_Mo_key_92 (by decide) ?_
      obtain ⟨hk11, w⟩ := w
      obtain ⟨j12, hj12a, hj12b, hj12c, w⟩ := w
      refine aw_iastore j12 hk11 hj12a hj12b hj12c d_Mo_key_96 ?_
      refine aw_aload_n (x := a0) d_Mo_key_97 rfl ?_
      refine gs_Mo_22 rfl hk2 hb3 d_Mo_key_98 ?_
      refine aw_iload_n (x := x1) d_Mo_key_101 rfl ?_
      refine aw_iconst (v := (3 : Int32)) d_Mo_key_102 (by decide) ?_
      refine aw_iadd d_Mo_key_103 ?_
      refine aw_iconst (v := (0 : Int32)) d_Mo_key_104 (by decide) ?_
      obtain ⟨j13, hj13a, hj13b, hj13c, w⟩ := w
      refine aw_iastore j13 hk11 hj13a hj13b hj13c d_Mo_key_105 ?_
      refine aw_aload_n (x := a0) d_Mo_key_106 rfl ?_
      obtain ⟨b14, hb14, w⟩ := w
      refine gs_Mo_16 rfl hk2 hb14 d_Mo_key_107 ?_
      refine aw_iconst (v := (1 : Int32)) d_Mo_key_110 (by decide) ?_
      refine aw_dup2 d_Mo_key_111 rfl rfl ?_
      obtain ⟨hk15, w⟩ := w
      obtain ⟨j16, hj16a, hj16b, hj16c, w⟩ := w
      refine aw_iaload j16 hk15 hj16a hj16b hj16c d_Mo_key_112 ?_
      refine aw_iconst (v := (1 : Int32)) d_Mo_key_113 (by decide) ?_
      refine aw_iadd d_Mo_key_114 ?_
      refine aw_iastore j16 hk15 hj16a hj16b hj16c d_Mo_key_115 ?_
      refine aw_aload_n (x := a0) d_Mo_key_116 rfl ?_
      exact aw_room (cb' := 0 + cb) (sb' := 0 + sb) (by omega) (by omega) (aw_weak (lv' := [some (.ref a0), some (.int x1), none, none]) ⟨rfl, rfl, trivial⟩ (aw_callV (M' := m_Mo_sign) (lv0 := [some (.ref a0)]) (As := []) (rest := []) 8 977 979 980 rfl (by decide) rfl hk2 tb_977 tb_979 tb_980 (fun U hU => hU.p 33 rfl) rfl rfl 0 0 rfl rfl ⟨by decide, by decide, by decide +kernel, by decide +kernel, by decide, by decide⟩ (Nat.le_of_ble_eq_true rfl) ⟨rfl, trivial⟩ rfl d_Mo_key_117 w))
  · replace w := w.2 cc1
    refine aw_iload_n (x := sx0) d_Mo_key_60 rfl ?_
    refine aw_bipush (v := (100 : Int32)) d_Mo_key_61 (by decide) ?_
    refine aw_icmp_eq (tgt := 68) d_Mo_key_63 (by decide) (fun cc17 => ?_) (fun cc17 => ?_)
    · replace w := w.1 cc17
      refine aw_aload_n (x := a0) d_Mo_key_68 rfl ?_
      refine aw_dup d_Mo_key_69 rfl ?_
      obtain ⟨hk18, w⟩ := w
      refine gf_Mo_121 rfl hk18 d_Mo_key_70 ?_
      refine aw_iconst (v := (1 : Int32)) d_Mo_key_73 (by decide) ?_
      refine aw_iadd d_Mo_key_74 ?_
      refine pf_Mo_121 rfl hk18 d_Mo_key_75 ?_
      refine aw_aload_n (x := a0) d_Mo_key_78 rfl ?_
      obtain ⟨b19, hb19, w⟩ := w
      refine gs_Mo_22 rfl hk18 hb19 d_Mo_key_79 ?_
      refine aw_iload_n (x := x1) d_Mo_key_82 rfl ?_
      refine aw_iconst (v := (2 : Int32)) d_Mo_key_83 (by decide) ?_
      refine aw_iadd d_Mo_key_84 ?_
      refine aw_iload_n (x := sx0) d_Mo_key_85 rfl ?_
      refine aw_bipush (v := (100 : Int32)) d_Mo_key_86 (by decide) ?_
      refine aw_icmp_ne (tgt := 95) d_Mo_key_88 (by decide) (fun cc20 => ?_) (fun cc20 => ?_)
      · replace w := w.1 cc20
        refine aw_iconst (v := (0 : Int32)) d_Mo_key_95 (by decide) ?_
        obtain ⟨hk21, w⟩ := w
        obtain ⟨j22, hj22a, hj22b, hj22c, w⟩ := w
        refine aw_iastore j22 hk21 hj22a hj22b hj22c d_Mo_key_96 ?_
        refine aw_aload_n (x := a0) d_Mo_key_97 rfl ?_
        refine gs_Mo_22 rfl hk18 hb19 d_Mo_key_98 ?_
        refine aw_iload_n (x := x1) d_Mo_key_101 rfl ?_
        refine aw_iconst (v := (3 : Int32)) d_Mo_key_102 (by decide) ?_
        refine aw_iadd d_Mo_key_103 ?_
        refine aw_iconst (v := (0 : Int32)) d_Mo_key_104 (by decide) ?_
        obtain ⟨j23, hj23a, hj23b, hj23c, w⟩ := w
        refine aw_iastore j23 hk21 hj23a hj23b hj23c d_Mo_key_105 ?_
        refine aw_aload_n (x := a0) d_Mo_key_106 rfl ?_
        obtain ⟨b24, hb24, w⟩ := w
        refine gs_Mo_16 rfl hk18 hb24 d_Mo_key_107 ?_
        refine aw_iconst (v := (1 : Int32)) d_Mo_key_110 (by decide) ?_
        refine aw_dup2 d_Mo_key_111 rfl rfl ?_
        obtain ⟨hk25, w⟩ := w
        obtain ⟨j26, hj26a, hj26b, hj26c, w⟩ := w
        refine aw_iaload j26 hk25 hj26a hj26b hj26c d_Mo_key_112 ?_
        refine aw_iconst (v := (1 : Int32)) d_Mo_key_113 (by decide) ?_
        refine aw_iadd d_Mo_key_114 ?_
        refine aw_iastore j26 hk25 hj26a hj26b hj26c d_Mo_key_115 ?_
        refine aw_aload_n (x := a0) d_Mo_key_116 rfl ?_
        exact aw_room (cb' := 0 + cb) (sb' := 0 + sb) (by omega) (by omega) (aw_weak (lv' := [some (.ref a0), some (.int x1), none, none]) ⟨rfl, rfl, trivial⟩ (aw_callV (M' := m_Mo_sign) (lv0 := [some (.ref a0)]) (As := []) (rest := []) 8 977 979 980 rfl (by decide) rfl hk18 tb_977 tb_979 tb_980 (fun U hU => hU.p 33 rfl) rfl rfl 0 0 rfl rfl ⟨by decide, by decide, by decide +kernel, by decide +kernel, by decide, by decide⟩ (Nat.le_of_ble_eq_true rfl) ⟨rfl, trivial⟩ rfl d_Mo_key_117 w))
      · replace w := w.2 cc20
        refine aw_iconst (v := (1 : Int32)) d_Mo_key_91 (by decide) ?_
        refine aw_goto (tgt := 96) d_Mo_key_92 (by decide) ?_
        obtain ⟨hk27, w⟩ := w
        obtain ⟨j28, hj28a, hj28b, hj28c, w⟩ := w
        refine aw_iastore j28 hk27 hj28a hj28b hj28c d_Mo_key_96 ?_
        refine aw_aload_n (x := a0) d_Mo_key_97 rfl ?_
        refine gs_Mo_22 rfl hk18 hb19 d_Mo_key_98 ?_
        refine aw_iload_n (x := x1) d_Mo_key_101 rfl ?_
        refine aw_iconst (v := (3 : Int32)) d_Mo_key_102 (by decide) ?_
        refine aw_iadd d_Mo_key_103 ?_
        refine aw_iconst (v := (0 : Int32)) d_Mo_key_104 (by decide) ?_
        obtain ⟨j29, hj29a, hj29b, hj29c, w⟩ := w
        refine aw_iastore j29 hk27 hj29a hj29b hj29c d_Mo_key_105 ?_
        refine aw_aload_n (x := a0) d_Mo_key_106 rfl ?_
        obtain ⟨b30, hb30, w⟩ := w
        refine gs_Mo_16 rfl hk18 hb30 d_Mo_key_107 ?_
        refine aw_iconst (v := (1 : Int32)) d_Mo_key_110 (by decide) ?_
        refine aw_dup2 d_Mo_key_111 rfl rfl ?_
        obtain ⟨hk31, w⟩ := w
        obtain ⟨j32, hj32a, hj32b, hj32c, w⟩ := w
        refine aw_iaload j32 hk31 hj32a hj32b hj32c d_Mo_key_112 ?_
        refine aw_iconst (v := (1 : Int32)) d_Mo_key_113 (by decide) ?_
        refine aw_iadd d_Mo_key_114 ?_
        refine aw_iastore j32 hk31 hj32a hj32b hj32c d_Mo_key_115 ?_
        refine aw_aload_n (x := a0) d_Mo_key_116 rfl ?_
        exact aw_room (cb' := 0 + cb) (sb' := 0 + sb) (by omega) (by omega) (aw_weak (lv' := [some (.ref a0), some (.int x1), none, none]) ⟨rfl, rfl, trivial⟩ (aw_callV (M' := m_Mo_sign) (lv0 := [some (.ref a0)]) (As := []) (rest := []) 8 977 979 980 rfl (by decide) rfl hk18 tb_977 tb_979 tb_980 (fun U hU => hU.p 33 rfl) rfl rfl 0 0 rfl rfl ⟨by decide, by decide, by decide +kernel, by decide +kernel, by decide, by decide⟩ (Nat.le_of_ble_eq_true rfl) ⟨rfl, trivial⟩ rfl d_Mo_key_117 w))
    · replace w := w.2 cc17
      refine aw_iconst (v := (0 : Int32)) d_Mo_key_66 (by decide) ?_
      exact aw_ireturn .boolean rfl rfl d_Mo_key_67 w
set_option maxRecDepth 20000 in
theorem r_Mo_key_120 {E : zE} {K n : Nat → Nat} {I : Nat → Nat → Int32} {F : Nat → Nat → Option Nat} {J : Nat → Nat → Int64} {cb sb : Nat} {Q : zO → zH → Prop} {a0 : Nat} {x1 : Int32} {sx0 : Int32}
    (w : ((sx0 = (44 : Int32) → K a0 = 9 ∧ AW E m_Mo_sign (K, n, (zup I a0 3 ((I a0 3) + (1 : Int32))), F, J) 0 0 (zAft E m_Mo_key cb sb Q 138 [some (.ref a0), some (.int x1), none, none] []) 0 [some (.ref a0)] []) ∧ (¬ sx0 = (44 : Int32) → Q (.inl (some (.int (1 : Int32)))) (K, n, I, F, J)))) :
    AW E m_Mo_key (K, n, I, F, J) cb sb Q 120 [some (.ref a0), some (.int x1), none, none] [.int sx0] := by
  refine aw_bipush (v := (44 : Int32)) d_Mo_key_120 (by decide) ?_
  refine aw_icmp_eq (tgt := 127) d_Mo_key_122 (by decide) (fun cc1 => ?_) (fun cc1 => ?_)
  · replace w := w.1 cc1
    refine aw_aload_n (x := a0) d_Mo_key_127 rfl ?_
    refine aw_dup d_Mo_key_128 rfl ?_
    obtain ⟨hk2, w⟩ := w
    refine gf_Mo_121 rfl hk2 d_Mo_key_129 ?_
    refine aw_iconst (v := (1 : Int32)) d_Mo_key_132 (by decide) ?_
    refine aw_iadd d_Mo_key_133 ?_
    refine pf_Mo_121 rfl hk2 d_Mo_key_134 ?_
    refine aw_aload_n (x := a0) d_Mo_key_137 rfl ?_
    exact aw_room (cb' := 0 + cb) (sb' := 0 + sb) (by omega) (by omega) (aw_weak (lv' := [some (.ref a0), some (.int x1), none, none]) ⟨rfl, rfl, trivial⟩ (aw_callV (M' := m_Mo_sign) (lv0 := [some (.ref a0)]) (As := []) (rest := []) 8 977 979 980 rfl (by decide) rfl hk2 tb_977 tb_979 tb_980 (fun U hU => hU.p 33 rfl) rfl rfl 0 0 rfl rfl ⟨by decide, by decide, by decide +kernel, by decide +kernel, by decide, by decide⟩ (Nat.le_of_ble_eq_true rfl) ⟨rfl, trivial⟩ rfl d_Mo_key_138 w))
  · replace w := w.2 cc1
    refine aw_iconst (v := (1 : Int32)) d_Mo_key_125 (by decide) ?_
    exact aw_ireturn .boolean rfl rfl d_Mo_key_126 w
set_option maxRecDepth 20000 in
theorem r_Mo_key_141 {E : zE} {K n : Nat → Nat} {I : Nat → Nat → Int32} {F : Nat → Nat → Option Nat} {J : Nat → Nat → Int64} {cb sb : Nat} {Q : zO → zH → Prop} {a0 : Nat} {x1 : Int32} {sx0 : Int32}
    (w : ((sx0 = (98 : Int32) → K a0 = 9 ∧ (∃ b3 : Nat, F a0 7 = some b3 ∧ ((¬ sx0 = (110 : Int32) → K b3 = 21 ∧ (∃ j6 : Nat, (x1 + (3 : Int32)) = nI j6 ∧ j6 < n b3 ∧ j6 < 2147483648 ∧ Q (.inl (some (.int (1 : Int32)))) (K, n, (zup (zup I a0 3 ((I a0 3) + (1 : Int32))) b3 j6 (0 : Int32)), F, J))) ∧ (sx0 = (110 : Int32) → K b3 = 21 ∧ (∃ j8 : Nat, (x1 + (3 : Int32)) = nI j8 ∧ j8 < n b3 ∧ j8 < 2147483648 ∧ Q (.inl (some (.int (1 : Int32)))) (K, n, (zup (zup I a0 3 ((I a0 3) + (1 : Int32))) b3 j8 (1 : Int32)), F, J)))))) ∧ (¬ sx0 = (98 : Int32) → ((sx0 = (110 : Int32) → K a0 = 9 ∧ (∃ b11 : Nat, F a0 7 = some b11 ∧ ((¬ sx0 = (110 : Int32) → K b11 = 21 ∧ (∃ j14 : Nat, (x1 + (3 : Int32)) = nI j14 ∧ j14 < n b11 ∧ j14 < 2147483648 ∧ Q (.inl (some (.int (1 : Int32)))) (K, n, (zup (zup I a0 3 ((I a0 3) + (1 : Int32))) b11 j14 (0 : Int32)), F, J))) ∧ (sx0 = (110 : Int32) → K b11 = 21 ∧ (∃ j16 : Nat, (x1 + (3 : Int32)) = nI j16 ∧ j16 < n b11 ∧ j16 < 2147483648 ∧ Q (.inl (some (.int (1 : Int32)))) (K, n, (zup (zup I a0 3 ((I a0 3) + (1 : Int32))) b11 j16 (1 : Int32)), F, J)))))) ∧ (¬ sx0 = (110 : Int32) → Q (.inl (some (.int (0 : Int32)))) (K, n, I, F, J)))))) :
    AW E m_Mo_key (K, n, I, F, J) cb sb Q 141 [some (.ref a0), some (.int x1), none, none] [.int sx0] := by
  refine aw_istore_n d_Mo_key_141 (by decide) ?_
  refine aw_iload_n (x := sx0) d_Mo_key_142 rfl ?_
  refine aw_bipush (v := (98 : Int32)) d_Mo_key_143 (by decide) ?_
  refine aw_icmp_eq (tgt := 156) d_Mo_key_145 (by decide) (fun cc1 => ?_) (fun cc1 => ?_)
  · replace w := w.1 cc1
    refine aw_aload_n (x := a0) d_Mo_key_156 rfl ?_
    refine aw_dup d_Mo_key_157 rfl ?_
    obtain ⟨hk2, w⟩ := w
    refine gf_Mo_121 rfl hk2 d_Mo_key_158 ?_
    refine aw_iconst (v := (1 : Int32)) d_Mo_key_161 (by decide) ?_
    refine aw_iadd d_Mo_key_162 ?_
    refine pf_Mo_121 rfl hk2 d_Mo_key_163 ?_
    refine aw_aload_n (x := a0) d_Mo_key_166 rfl ?_
    obtain ⟨b3, hb3, w⟩ := w
    refine gs_Mo_22 rfl hk2 hb3 d_Mo_key_167 ?_
    refine aw_iload_n (x := x1) d_Mo_key_170 rfl ?_
    refine aw_iconst (v := (3 : Int32)) d_Mo_key_171 (by decide) ?_
    refine aw_iadd d_Mo_key_172 ?_
    refine aw_iload_n (x := sx0) d_Mo_key_173 rfl ?_
    refine aw_bipush (v := (110 : Int32)) d_Mo_key_174 (by decide) ?_
    refine aw_icmp_ne (tgt := 183) d_Mo_key_176 (by decide) (fun cc4 => ?_) (fun cc4 => ?_)
    · replace w := w.1 cc4
      refine aw_iconst (v := (0 : Int32)) d_Mo_key_183 (by decide) ?_
      obtain ⟨hk5, w⟩ := w
      obtain ⟨j6, hj6a, hj6b, hj6c, w⟩ := w
      refine aw_iastore j6 hk5 hj6a hj6b hj6c d_Mo_key_184 ?_
      refine aw_iconst (v := (1 : Int32)) d_Mo_key_185 (by decide) ?_
      exact aw_ireturn .boolean rfl rfl d_Mo_key_186 w
    · replace w := w.2 cc4
      refine aw_iconst (v := (1 : Int32)) d_Mo_key_179 (by decide) ?_
      refine aw_goto (tgt := 184) d_Mo_key_180 (by decide) ?_
      obtain ⟨hk7, w⟩ := w
      obtain ⟨j8, hj8a, hj8b, hj8c, w⟩ := w
      refine aw_iastore j8 hk7 hj8a hj8b hj8c d_Mo_key_184 ?_
      refine aw_iconst (v := (1 : Int32)) d_Mo_key_185 (by decide) ?_
      exact aw_ireturn .boolean rfl rfl d_Mo_key_186 w
  · replace w := w.2 cc1
    refine aw_iload_n (x := sx0) d_Mo_key_148 rfl ?_
    refine aw_bipush (v := (110 : Int32)) d_Mo_key_149 (by decide) ?_
    refine aw_icmp_eq (tgt := 156) d_Mo_key_151 (by decide) (fun cc9 => ?_) (fun cc9 => ?_)
    · replace w := w.1 cc9
      refine aw_aload_n (x := a0) d_Mo_key_156 rfl ?_
      refine aw_dup d_Mo_key_157 rfl ?_
      obtain ⟨hk10, w⟩ := w
      refine gf_Mo_121 rfl hk10 d_Mo_key_158 ?_
      refine aw_iconst (v := (1 : Int32)) d_Mo_key_161 (by decide) ?_
      refine aw_iadd d_Mo_key_162 ?_
      refine pf_Mo_121 rfl hk10 d_Mo_key_163 ?_
      refine aw_aload_n (x := a0) d_Mo_key_166 rfl ?_
      obtain ⟨b11, hb11, w⟩ := w
      refine gs_Mo_22 rfl hk10 hb11 d_Mo_key_167 ?_
      refine aw_iload_n (x := x1) d_Mo_key_170 rfl ?_
      refine aw_iconst (v := (3 : Int32)) d_Mo_key_171 (by decide) ?_
      refine aw_iadd d_Mo_key_172 ?_
      refine aw_iload_n (x := sx0) d_Mo_key_173 rfl ?_
      refine aw_bipush (v := (110 : Int32)) d_Mo_key_174 (by decide) ?_
      refine aw_icmp_ne (tgt := 183) d_Mo_key_176 (by decide) (fun cc12 => ?_) (fun cc12 => ?_)
      · replace w := w.1 cc12
        refine aw_iconst (v := (0 : Int32)) d_Mo_key_183 (by decide) ?_
        obtain ⟨hk13, w⟩ := w
        obtain ⟨j14, hj14a, hj14b, hj14c, w⟩ := w
        refine aw_iastore j14 hk13 hj14a hj14b hj14c d_Mo_key_184 ?_
        refine aw_iconst (v := (1 : Int32)) d_Mo_key_185 (by decide) ?_
        exact aw_ireturn .boolean rfl rfl d_Mo_key_186 w
      · replace w := w.2 cc12
        refine aw_iconst (v := (1 : Int32)) d_Mo_key_179 (by decide) ?_
        refine aw_goto (tgt := 184) d_Mo_key_180 (by decide) ?_
        obtain ⟨hk15, w⟩ := w
        obtain ⟨j16, hj16a, hj16b, hj16c, w⟩ := w
        refine aw_iastore j16 hk15 hj16a hj16b hj16c d_Mo_key_184 ?_
        refine aw_iconst (v := (1 : Int32)) d_Mo_key_185 (by decide) ?_
        exact aw_ireturn .boolean rfl rfl d_Mo_key_186 w
    · replace w := w.2 cc9
      refine aw_iconst (v := (0 : Int32)) d_Mo_key_154 (by decide) ?_
      exact aw_ireturn .boolean rfl rfl d_Mo_key_155 w
