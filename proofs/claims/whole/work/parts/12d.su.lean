set_option maxRecDepth 20000 in
theorem r_Su_init_0 {E : zE} {K n : Nat → Nat} {I : Nat → Nat → Int32} {F : Nat → Nat → Option Nat} {J : Nat → Nat → Int64} {cb sb : Nat} {Q : zO → zH → Prop} {a0 : Nat}
    (w : (∃ cb9 sb9 : Nat, cb9 + 1 ≤ cb ∧ sb9 + 500 ≤ sb ∧ ∀ q : Nat, K q = 0 → AW E m_Su_init ((va_up K q 21), (va_up n q 500), (va_up I q (fun _ => 0)), F, J) cb9 sb9 Q 10 [some (.ref a0)] [.ref q, .ref a0])) :
    AW E m_Su_init (K, n, I, F, J) cb sb Q 0 [some (.ref a0)] [] := by
  refine aw_aload_n (x := a0) d_Su_init_0 rfl ?_
  refine aw_objInit 34 tb_34 (by decide) (by decide) d_Su_init_1 ?_
  refine aw_aload_n (x := a0) d_Su_init_4 rfl ?_
  refine aw_sipush (v := (500 : Int32)) d_Su_init_5 (by decide) ?_
  obtain ⟨cb9, sb9, hq1, hq2, w⟩ := w
  exact aw_room hq1 hq2 (aw_weak (lv' := [some (.ref a0)]) ⟨rfl, trivial⟩ (aw_newI 500 (by rfl) (by decide) 69 tb_69 d_Su_init_8 w))
set_option maxRecDepth 20000 in
theorem r_Su_init_10 {E : zE} {K n : Nat → Nat} {I : Nat → Nat → Int32} {F : Nat → Nat → Option Nat} {J : Nat → Nat → Int64} {cb sb : Nat} {Q : zO → zH → Prop} {a0 : Nat} {sa0 : Nat} {sa1 : Nat}
    (w : K sa0 = 8 ∧ K a0 = 8 ∧ (∃ cb9 sb9 : Nat, cb9 + 1 ≤ cb ∧ sb9 + 8 ≤ sb ∧ ∀ q : Nat, K q = 0 → AW E m_Su_init ((va_up K q 6), n, (va_up (zup I a0 1 (0 : Int32)) q (fun _ => 0)), (va_up (zup F sa0 0 (some sa1)) q (fun _ => none)), J) cb9 sb9 Q 22 [some (.ref a0)] [.ref q, .ref a0])) :
    AW E m_Su_init (K, n, I, F, J) cb sb Q 10 [some (.ref a0)] [.ref sa1, .ref sa0] := by
  obtain ⟨hk1, w⟩ := w
  refine pf_Su_9 (r := (some sa1)) rfl hk1 rfl d_Su_init_10 ?_
  refine aw_aload_n (x := a0) d_Su_init_13 rfl ?_
  refine aw_iconst (v := (0 : Int32)) d_Su_init_14 (by decide) ?_
  obtain ⟨hk2, w⟩ := w
  refine pf_Su_13 rfl hk2 d_Su_init_15 ?_
  refine aw_aload_n (x := a0) d_Su_init_18 rfl ?_
  obtain ⟨cb9, sb9, hq1, hq2, w⟩ := w
  exact aw_room hq1 hq2 (aw_weak (lv' := [some (.ref a0)]) ⟨rfl, trivial⟩ (aw_new 5 (T := zt_Statements) zy_Statements rfl (by decide) zin_Statements zyo_Statements 37 38 2 tb_37 tb_38 tb_2 (by decide) d_Su_init_19 w))
set_option maxRecDepth 20000 in
theorem r_Su_init_22 {E : zE} {K n : Nat → Nat} {I : Nat → Nat → Int32} {F : Nat → Nat → Option Nat} {J : Nat → Nat → Int64} {cb sb : Nat} {Q : zO → zH → Prop} {a0 : Nat} {sa0 : Nat} {sa1 : Nat}
    (w : (∃ c1 s1 c2 s2 : Nat, c1 + c2 ≤ cb ∧ s1 + s2 ≤ sb ∧ AW E m_Statements_init (K, n, I, F, J) c1 s1 (zAft E m_Su_init c2 s2 Q 23 [some (.ref a0)] [.ref sa1, .ref sa0]) 0 [some (.ref sa1)] [])) :
    AW E m_Su_init (K, n, I, F, J) cb sb Q 22 [some (.ref a0)] [.ref sa1, .ref sa0] := by
  refine aw_dup d_Su_init_22 rfl ?_
  obtain ⟨c1, s1, c2, s2, hq1, hq2, w⟩ := w
  exact aw_room hq1 hq2 (aw_weak (lv' := [some (.ref a0)]) ⟨rfl, trivial⟩ (aw_callIN (M' := m_Statements_init) (lv0 := [some (.ref sa1)]) (As := []) (rest := [.ref sa1, .ref sa0]) 39 40 41 "SortUtility" tb_39 tb_40 tb_41 rfl rfl rfl rfl 0 2 rfl rfl ⟨by decide, by decide, by decide +kernel, by decide +kernel, by decide, by decide⟩ (Nat.le_of_ble_eq_true rfl) ⟨rfl, trivial⟩ rfl d_Su_init_23 w))
set_option maxRecDepth 20000 in
theorem r_Su_init_26 {E : zE} {K n : Nat → Nat} {I : Nat → Nat → Int32} {F : Nat → Nat → Option Nat} {J : Nat → Nat → Int64} {cb sb : Nat} {Q : zO → zH → Prop} {a0 : Nat} {sa0 : Nat} {sa1 : Nat}
    (w : K sa0 = 8 ∧ (∃ cb9 sb9 : Nat, cb9 + 1 ≤ cb ∧ sb9 + 2 ≤ sb ∧ ∀ q : Nat, K q = 0 → AW E m_Su_init ((va_up K q 5), n, (va_up I q (fun _ => 0)), (va_up (zup F sa0 2 (some sa1)) q (fun _ => none)), J) cb9 sb9 Q 33 [some (.ref a0)] [.ref q, .ref a0])) :
    AW E m_Su_init (K, n, I, F, J) cb sb Q 26 [some (.ref a0)] [.ref sa1, .ref sa0] := by
  obtain ⟨hk1, w⟩ := w
  refine pf_Su_20 (r := (some sa1)) rfl hk1 d_Su_init_26 ?_
  refine aw_aload_n (x := a0) d_Su_init_29 rfl ?_
  obtain ⟨cb9, sb9, hq1, hq2, w⟩ := w
  exact aw_room hq1 hq2 (aw_weak (lv' := [some (.ref a0)]) ⟨rfl, trivial⟩ (aw_new 4 (T := zt_Rows) zy_Rows rfl (by decide) zin_Rows zyo_Rows 110 111 6 tb_110 tb_111 tb_6 (by decide) d_Su_init_30 w))
set_option maxRecDepth 20000 in
theorem r_Su_init_33 {E : zE} {K n : Nat → Nat} {I : Nat → Nat → Int32} {F : Nat → Nat → Option Nat} {J : Nat → Nat → Int64} {cb sb : Nat} {Q : zO → zH → Prop} {a0 : Nat} {sa0 : Nat} {sa1 : Nat}
    (w : (∃ c1 s1 c2 s2 : Nat, c1 + c2 ≤ cb ∧ s1 + s2 ≤ sb ∧ AW E m_Rows_init (K, n, I, F, J) c1 s1 (zAft E m_Su_init c2 s2 Q 34 [some (.ref a0)] [.ref sa1, .ref sa0]) 0 [some (.ref sa1)] [])) :
    AW E m_Su_init (K, n, I, F, J) cb sb Q 33 [some (.ref a0)] [.ref sa1, .ref sa0] := by
  refine aw_dup d_Su_init_33 rfl ?_
  obtain ⟨c1, s1, c2, s2, hq1, hq2, w⟩ := w
  exact aw_room hq1 hq2 (aw_weak (lv' := [some (.ref a0)]) ⟨rfl, trivial⟩ (aw_callIN (M' := m_Rows_init) (lv0 := [some (.ref sa1)]) (As := []) (rest := [.ref sa1, .ref sa0]) 112 113 114 "SortUtility" tb_112 tb_113 tb_114 rfl rfl rfl rfl 0 2 rfl rfl ⟨by decide, by decide, by decide +kernel, by decide +kernel, by decide, by decide⟩ (Nat.le_of_ble_eq_true rfl) ⟨rfl, trivial⟩ rfl d_Su_init_34 w))
set_option maxRecDepth 20000 in
theorem r_Su_init_37 {E : zE} {K n : Nat → Nat} {I : Nat → Nat → Int32} {F : Nat → Nat → Option Nat} {J : Nat → Nat → Int64} {cb sb : Nat} {Q : zO → zH → Prop} {a0 : Nat} {sa0 : Nat} {sa1 : Nat}
    (w : K sa0 = 8 ∧ (∃ cb9 sb9 : Nat, cb9 + 1 ≤ cb ∧ sb9 + 2 ≤ sb ∧ ∀ q : Nat, K q = 0 → AW E m_Su_init ((va_up K q 5), n, (va_up I q (fun _ => 0)), (va_up (zup F sa0 3 (some sa1)) q (fun _ => none)), J) cb9 sb9 Q 44 [some (.ref a0)] [.ref q, .ref a0])) :
    AW E m_Su_init (K, n, I, F, J) cb sb Q 37 [some (.ref a0)] [.ref sa1, .ref sa0] := by
  obtain ⟨hk1, w⟩ := w
  refine pf_Su_27 (r := (some sa1)) rfl hk1 rfl d_Su_init_37 ?_
  refine aw_aload_n (x := a0) d_Su_init_40 rfl ?_
  obtain ⟨cb9, sb9, hq1, hq2, w⟩ := w
  exact aw_room hq1 hq2 (aw_weak (lv' := [some (.ref a0)]) ⟨rfl, trivial⟩ (aw_new 4 (T := zt_Rows) zy_Rows rfl (by decide) zin_Rows zyo_Rows 110 111 6 tb_110 tb_111 tb_6 (by decide) d_Su_init_41 w))
set_option maxRecDepth 20000 in
theorem r_Su_init_44 {E : zE} {K n : Nat → Nat} {I : Nat → Nat → Int32} {F : Nat → Nat → Option Nat} {J : Nat → Nat → Int64} {cb sb : Nat} {Q : zO → zH → Prop} {a0 : Nat} {sa0 : Nat} {sa1 : Nat}
    (w : (∃ c1 s1 c2 s2 : Nat, c1 + c2 ≤ cb ∧ s1 + s2 ≤ sb ∧ AW E m_Rows_init (K, n, I, F, J) c1 s1 (zAft E m_Su_init c2 s2 Q 45 [some (.ref a0)] [.ref sa1, .ref sa0]) 0 [some (.ref sa1)] [])) :
    AW E m_Su_init (K, n, I, F, J) cb sb Q 44 [some (.ref a0)] [.ref sa1, .ref sa0] := by
  refine aw_dup d_Su_init_44 rfl ?_
  obtain ⟨c1, s1, c2, s2, hq1, hq2, w⟩ := w
  exact aw_room hq1 hq2 (aw_weak (lv' := [some (.ref a0)]) ⟨rfl, trivial⟩ (aw_callIN (M' := m_Rows_init) (lv0 := [some (.ref sa1)]) (As := []) (rest := [.ref sa1, .ref sa0]) 112 113 114 "SortUtility" tb_112 tb_113 tb_114 rfl rfl rfl rfl 0 2 rfl rfl ⟨by decide, by decide, by decide +kernel, by decide +kernel, by decide, by decide⟩ (Nat.le_of_ble_eq_true rfl) ⟨rfl, trivial⟩ rfl d_Su_init_45 w))
set_option maxRecDepth 20000 in
theorem r_Su_init_48 {E : zE} {K n : Nat → Nat} {I : Nat → Nat → Int32} {F : Nat → Nat → Option Nat} {J : Nat → Nat → Int64} {cb sb : Nat} {Q : zO → zH → Prop} {a0 : Nat} {sa0 : Nat} {sa1 : Nat}
    (w : K sa0 = 8 ∧ (∃ cb9 sb9 : Nat, cb9 + 1 ≤ cb ∧ sb9 + 2 ≤ sb ∧ ∀ q : Nat, K q = 0 → AW E m_Su_init ((va_up K q 5), n, (va_up I q (fun _ => 0)), (va_up (zup F sa0 4 (some sa1)) q (fun _ => none)), J) cb9 sb9 Q 55 [some (.ref a0)] [.ref q, .ref a0])) :
    AW E m_Su_init (K, n, I, F, J) cb sb Q 48 [some (.ref a0)] [.ref sa1, .ref sa0] := by
  obtain ⟨hk1, w⟩ := w
  refine pf_Su_31 (r := (some sa1)) rfl hk1 rfl d_Su_init_48 ?_
  refine aw_aload_n (x := a0) d_Su_init_51 rfl ?_
  obtain ⟨cb9, sb9, hq1, hq2, w⟩ := w
  exact aw_room hq1 hq2 (aw_weak (lv' := [some (.ref a0)]) ⟨rfl, trivial⟩ (aw_new 4 (T := zt_Rows) zy_Rows rfl (by decide) zin_Rows zyo_Rows 110 111 6 tb_110 tb_111 tb_6 (by decide) d_Su_init_52 w))
set_option maxRecDepth 20000 in
theorem r_Su_init_55 {E : zE} {K n : Nat → Nat} {I : Nat → Nat → Int32} {F : Nat → Nat → Option Nat} {J : Nat → Nat → Int64} {cb sb : Nat} {Q : zO → zH → Prop} {a0 : Nat} {sa0 : Nat} {sa1 : Nat}
    (w : (∃ c1 s1 c2 s2 : Nat, c1 + c2 ≤ cb ∧ s1 + s2 ≤ sb ∧ AW E m_Rows_init (K, n, I, F, J) c1 s1 (zAft E m_Su_init c2 s2 Q 56 [some (.ref a0)] [.ref sa1, .ref sa0]) 0 [some (.ref sa1)] [])) :
    AW E m_Su_init (K, n, I, F, J) cb sb Q 55 [some (.ref a0)] [.ref sa1, .ref sa0] := by
  refine aw_dup d_Su_init_55 rfl ?_
  obtain ⟨c1, s1, c2, s2, hq1, hq2, w⟩ := w
  exact aw_room hq1 hq2 (aw_weak (lv' := [some (.ref a0)]) ⟨rfl, trivial⟩ (aw_callIN (M' := m_Rows_init) (lv0 := [some (.ref sa1)]) (As := []) (rest := [.ref sa1, .ref sa0]) 112 113 114 "SortUtility" tb_112 tb_113 tb_114 rfl rfl rfl rfl 0 2 rfl rfl ⟨by decide, by decide, by decide +kernel, by decide +kernel, by decide, by decide⟩ (Nat.le_of_ble_eq_true rfl) ⟨rfl, trivial⟩ rfl d_Su_init_56 w))
set_option maxRecDepth 20000 in
theorem r_Su_init_59 {E : zE} {K n : Nat → Nat} {I : Nat → Nat → Int32} {F : Nat → Nat → Option Nat} {J : Nat → Nat → Int64} {cb sb : Nat} {Q : zO → zH → Prop} {a0 : Nat} {sa0 : Nat} {sa1 : Nat}
    (w : K sa0 = 8 ∧ (∃ cb9 sb9 : Nat, cb9 + 1 ≤ cb ∧ sb9 + 2 ≤ sb ∧ ∀ q : Nat, K q = 0 → AW E m_Su_init ((va_up K q 5), n, (va_up I q (fun _ => 0)), (va_up (zup F sa0 5 (some sa1)) q (fun _ => none)), J) cb9 sb9 Q 66 [some (.ref a0)] [.ref q, .ref a0])) :
    AW E m_Su_init (K, n, I, F, J) cb sb Q 59 [some (.ref a0)] [.ref sa1, .ref sa0] := by
  obtain ⟨hk1, w⟩ := w
  refine pf_Su_34 (r := (some sa1)) rfl hk1 rfl d_Su_init_59 ?_
  refine aw_aload_n (x := a0) d_Su_init_62 rfl ?_
  obtain ⟨cb9, sb9, hq1, hq2, w⟩ := w
  exact aw_room hq1 hq2 (aw_weak (lv' := [some (.ref a0)]) ⟨rfl, trivial⟩ (aw_new 4 (T := zt_Rows) zy_Rows rfl (by decide) zin_Rows zyo_Rows 110 111 6 tb_110 tb_111 tb_6 (by decide) d_Su_init_63 w))
set_option maxRecDepth 20000 in
theorem r_Su_init_66 {E : zE} {K n : Nat → Nat} {I : Nat → Nat → Int32} {F : Nat → Nat → Option Nat} {J : Nat → Nat → Int64} {cb sb : Nat} {Q : zO → zH → Prop} {a0 : Nat} {sa0 : Nat} {sa1 : Nat}
    (w : (∃ c1 s1 c2 s2 : Nat, c1 + c2 ≤ cb ∧ s1 + s2 ≤ sb ∧ AW E m_Rows_init (K, n, I, F, J) c1 s1 (zAft E m_Su_init c2 s2 Q 67 [some (.ref a0)] [.ref sa1, .ref sa0]) 0 [some (.ref sa1)] [])) :
    AW E m_Su_init (K, n, I, F, J) cb sb Q 66 [some (.ref a0)] [.ref sa1, .ref sa0] := by
  refine aw_dup d_Su_init_66 rfl ?_
  obtain ⟨c1, s1, c2, s2, hq1, hq2, w⟩ := w
  exact aw_room hq1 hq2 (aw_weak (lv' := [some (.ref a0)]) ⟨rfl, trivial⟩ (aw_callIN (M' := m_Rows_init) (lv0 := [some (.ref sa1)]) (As := []) (rest := [.ref sa1, .ref sa0]) 112 113 114 "SortUtility" tb_112 tb_113 tb_114 rfl rfl rfl rfl 0 2 rfl rfl ⟨by decide, by decide, by decide +kernel, by decide +kernel, by decide, by decide⟩ (Nat.le_of_ble_eq_true rfl) ⟨rfl, trivial⟩ rfl d_Su_init_67 w))
set_option maxRecDepth 20000 in
theorem r_Su_init_70 {E : zE} {K n : Nat → Nat} {I : Nat → Nat → Int32} {F : Nat → Nat → Option Nat} {J : Nat → Nat → Int64} {cb sb : Nat} {Q : zO → zH → Prop} {a0 : Nat} {sa0 : Nat} {sa1 : Nat}
    (w : K sa0 = 8 ∧ (∃ cb9 sb9 : Nat, cb9 + 1 ≤ cb ∧ sb9 + 3 ≤ sb ∧ ∀ q : Nat, K q = 0 → AW E m_Su_init ((va_up K q 10), n, (va_up I q (fun _ => 0)), (va_up (zup F sa0 6 (some sa1)) q (fun _ => none)), J) cb9 sb9 Q 77 [some (.ref a0)] [.ref q, .ref a0])) :
    AW E m_Su_init (K, n, I, F, J) cb sb Q 70 [some (.ref a0)] [.ref sa1, .ref sa0] := by
  obtain ⟨hk1, w⟩ := w
  refine pf_Su_37 (r := (some sa1)) rfl hk1 rfl d_Su_init_70 ?_
  refine aw_aload_n (x := a0) d_Su_init_73 rfl ?_
  obtain ⟨cb9, sb9, hq1, hq2, w⟩ := w
  exact aw_room hq1 hq2 (aw_weak (lv' := [some (.ref a0)]) ⟨rfl, trivial⟩ (aw_new 9 (T := zt_ArrayList) zy_ArrayList rfl (by decide) zin_ArrayList zyo_ArrayList 126 44 5 tb_126 tb_44 tb_5 (by decide) d_Su_init_74 w))
set_option maxRecDepth 20000 in
theorem r_Su_init_77 {E : zE} {K n : Nat → Nat} {I : Nat → Nat → Int32} {F : Nat → Nat → Option Nat} {J : Nat → Nat → Int64} {cb sb : Nat} {Q : zO → zH → Prop} {a0 : Nat} {sa0 : Nat} {sa1 : Nat}
    (w : AW E m_ArrayList_init (K, n, I, F, J) 0 0 (zAft E m_Su_init cb sb Q 78 [some (.ref a0)] [.ref sa1, .ref sa0]) 0 [some (.ref sa1)] []) :
    AW E m_Su_init (K, n, I, F, J) cb sb Q 77 [some (.ref a0)] [.ref sa1, .ref sa0] := by
  refine aw_dup d_Su_init_77 rfl ?_
  exact aw_room (cb' := 0 + cb) (sb' := 0 + sb) (by omega) (by omega) (aw_weak (lv' := [some (.ref a0)]) ⟨rfl, trivial⟩ (aw_callI (M' := m_ArrayList_init) (lv0 := [some (.ref sa1)]) (As := []) (rest := [.ref sa1, .ref sa0]) 127 46 47 tb_127 tb_46 tb_47 rfl rfl rfl rfl 0 2 rfl rfl ⟨by decide, by decide, by decide +kernel, by decide +kernel, by decide, by decide⟩ (Nat.le_of_ble_eq_true rfl) ⟨rfl, trivial⟩ rfl d_Su_init_78 w))
set_option maxRecDepth 20000 in
theorem r_Su_init_81 {E : zE} {K n : Nat → Nat} {I : Nat → Nat → Int32} {F : Nat → Nat → Option Nat} {J : Nat → Nat → Int64} {cb sb : Nat} {Q : zO → zH → Prop} {a0 : Nat} {sa0 : Nat} {sa1 : Nat}
    (w : K sa0 = 8 ∧ K a0 = 8 ∧ (∃ cb9 sb9 : Nat, cb9 + 1 ≤ cb ∧ sb9 + 3 ≤ sb ∧ ∀ q : Nat, K q = 0 → AW E m_Su_init ((va_up K q 10), n, (va_up (zup (zup I a0 8 (0 : Int32)) a0 9 (0 : Int32)) q (fun _ => 0)), (va_up (zup F sa0 7 (some sa1)) q (fun _ => none)), J) cb9 sb9 Q 98 [some (.ref a0)] [.ref q, .ref a0])) :
    AW E m_Su_init (K, n, I, F, J) cb sb Q 81 [some (.ref a0)] [.ref sa1, .ref sa0] := by
  obtain ⟨hk1, w⟩ := w
  refine pf_Su_43 (r := (some sa1)) rfl hk1 rfl d_Su_init_81 ?_
  refine aw_aload_n (x := a0) d_Su_init_84 rfl ?_
  refine aw_iconst (v := (0 : Int32)) d_Su_init_85 (by decide) ?_
  obtain ⟨hk2, w⟩ := w
  refine pf_Su_47 rfl hk2 d_Su_init_86 ?_
  refine aw_aload_n (x := a0) d_Su_init_89 rfl ?_
  refine aw_iconst (v := (0 : Int32)) d_Su_init_90 (by decide) ?_
  refine pf_Su_50 rfl hk2 (by decide) d_Su_init_91 ?_
  refine aw_aload_n (x := a0) d_Su_init_94 rfl ?_
  obtain ⟨cb9, sb9, hq1, hq2, w⟩ := w
  exact aw_room hq1 hq2 (aw_weak (lv' := [some (.ref a0)]) ⟨rfl, trivial⟩ (aw_new 9 (T := zt_ArrayList) zy_ArrayList rfl (by decide) zin_ArrayList zyo_ArrayList 126 44 5 tb_126 tb_44 tb_5 (by decide) d_Su_init_95 w))
set_option maxRecDepth 20000 in
theorem r_Su_init_98 {E : zE} {K n : Nat → Nat} {I : Nat → Nat → Int32} {F : Nat → Nat → Option Nat} {J : Nat → Nat → Int64} {cb sb : Nat} {Q : zO → zH → Prop} {a0 : Nat} {sa0 : Nat} {sa1 : Nat}
    (w : AW E m_ArrayList_init (K, n, I, F, J) 0 0 (zAft E m_Su_init cb sb Q 99 [some (.ref a0)] [.ref sa1, .ref sa0]) 0 [some (.ref sa1)] []) :
    AW E m_Su_init (K, n, I, F, J) cb sb Q 98 [some (.ref a0)] [.ref sa1, .ref sa0] := by
  refine aw_dup d_Su_init_98 rfl ?_
  exact aw_room (cb' := 0 + cb) (sb' := 0 + sb) (by omega) (by omega) (aw_weak (lv' := [some (.ref a0)]) ⟨rfl, trivial⟩ (aw_callI (M' := m_ArrayList_init) (lv0 := [some (.ref sa1)]) (As := []) (rest := [.ref sa1, .ref sa0]) 127 46 47 tb_127 tb_46 tb_47 rfl rfl rfl rfl 0 2 rfl rfl ⟨by decide, by decide, by decide +kernel, by decide +kernel, by decide, by decide⟩ (Nat.le_of_ble_eq_true rfl) ⟨rfl, trivial⟩ rfl d_Su_init_99 w))
set_option maxRecDepth 20000 in
theorem r_Su_init_102 {E : zE} {K n : Nat → Nat} {I : Nat → Nat → Int32} {F : Nat → Nat → Option Nat} {J : Nat → Nat → Int64} {cb sb : Nat} {Q : zO → zH → Prop} {a0 : Nat} {sa0 : Nat} {sa1 : Nat}
    (w : K sa0 = 8 ∧ (∃ cb9 sb9 : Nat, cb9 + 1 ≤ cb ∧ sb9 + 5 ≤ sb ∧ ∀ q : Nat, K q = 0 → AW E m_Su_init ((va_up K q 4), n, (va_up I q (fun _ => 0)), (va_up (zup F sa0 10 (some sa1)) q (fun _ => none)), J) cb9 sb9 Q 109 [some (.ref a0)] [.ref q, .ref a0])) :
    AW E m_Su_init (K, n, I, F, J) cb sb Q 102 [some (.ref a0)] [.ref sa1, .ref sa0] := by
  obtain ⟨hk1, w⟩ := w
  refine pf_Su_54 (r := (some sa1)) rfl hk1 rfl d_Su_init_102 ?_
  refine aw_aload_n (x := a0) d_Su_init_105 rfl ?_
  obtain ⟨cb9, sb9, hq1, hq2, w⟩ := w
  exact aw_room hq1 hq2 (aw_weak (lv' := [some (.ref a0)]) ⟨rfl, trivial⟩ (aw_new 3 (T := zt_Row) zy_Row rfl (by decide) zin_Row zyo_Row 128 129 7 tb_128 tb_129 tb_7 (by decide) d_Su_init_106 w))
set_option maxRecDepth 20000 in
theorem r_Su_init_109 {E : zE} {K n : Nat → Nat} {I : Nat → Nat → Int32} {F : Nat → Nat → Option Nat} {J : Nat → Nat → Int64} {cb sb : Nat} {Q : zO → zH → Prop} {a0 : Nat} {sa0 : Nat} {sa1 : Nat}
    (w : (∃ c1 s1 c2 s2 : Nat, c1 + c2 ≤ cb ∧ s1 + s2 ≤ sb ∧ AW E m_Row_init (K, n, I, F, J) c1 s1 (zAft E m_Su_init c2 s2 Q 110 [some (.ref a0)] [.ref sa1, .ref sa0]) 0 [some (.ref sa1)] [])) :
    AW E m_Su_init (K, n, I, F, J) cb sb Q 109 [some (.ref a0)] [.ref sa1, .ref sa0] := by
  refine aw_dup d_Su_init_109 rfl ?_
  obtain ⟨c1, s1, c2, s2, hq1, hq2, w⟩ := w
  exact aw_room hq1 hq2 (aw_weak (lv' := [some (.ref a0)]) ⟨rfl, trivial⟩ (aw_callIN (M' := m_Row_init) (lv0 := [some (.ref sa1)]) (As := []) (rest := [.ref sa1, .ref sa0]) 130 131 132 "SortUtility" tb_130 tb_131 tb_132 rfl rfl rfl rfl 0 2 rfl rfl ⟨by decide, by decide, by decide +kernel, by decide +kernel, by decide, by decide⟩ (Nat.le_of_ble_eq_true rfl) ⟨rfl, trivial⟩ rfl d_Su_init_110 w))
set_option maxRecDepth 20000 in
theorem r_Su_init_113 {E : zE} {K n : Nat → Nat} {I : Nat → Nat → Int32} {F : Nat → Nat → Option Nat} {J : Nat → Nat → Int64} {cb sb : Nat} {Q : zO → zH → Prop} {a0 : Nat} {sa0 : Nat} {sa1 : Nat}
    (w : K sa0 = 8 ∧ (∃ cb9 sb9 : Nat, cb9 + 1 ≤ cb ∧ sb9 + 4 ≤ sb ∧ ∀ q : Nat, K q = 0 → AW E m_Su_init ((va_up K q 22), (va_up n q 4), I, (zup F sa0 11 (some sa1)), (va_up J q (fun _ => 0))) cb9 sb9 Q 120 [some (.ref a0)] [.ref q, .ref a0])) :
    AW E m_Su_init (K, n, I, F, J) cb sb Q 113 [some (.ref a0)] [.ref sa1, .ref sa0] := by
  obtain ⟨hk1, w⟩ := w
  refine pf_Su_60 (r := (some sa1)) rfl hk1 rfl d_Su_init_113 ?_
  refine aw_aload_n (x := a0) d_Su_init_116 rfl ?_
  refine aw_iconst (v := (4 : Int32)) d_Su_init_117 (by decide) ?_
  obtain ⟨cb9, sb9, hq1, hq2, w⟩ := w
  exact aw_room hq1 hq2 (aw_weak (lv' := [some (.ref a0)]) ⟨rfl, trivial⟩ (aw_newJ 4 (by rfl) (by decide) 202 tb_202 d_Su_init_118 w))
set_option maxRecDepth 20000 in
theorem r_Su_init_120 {E : zE} {K n : Nat → Nat} {I : Nat → Nat → Int32} {F : Nat → Nat → Option Nat} {J : Nat → Nat → Int64} {cb sb : Nat} {Q : zO → zH → Prop} {a0 : Nat} {sa0 : Nat} {sa1 : Nat}
    (w : K sa0 = 8 ∧ K a0 = 8 ∧ Q (.inl none) (K, n, (zup (zup I a0 13 (0 : Int32)) a0 14 (0 : Int32)), (zup F sa0 12 (some sa1)), J)) :
    AW E m_Su_init (K, n, I, F, J) cb sb Q 120 [some (.ref a0)] [.ref sa1, .ref sa0] := by
  obtain ⟨hk1, w⟩ := w
  refine pf_Su_64 (r := (some sa1)) rfl hk1 rfl d_Su_init_120 ?_
  refine aw_aload_n (x := a0) d_Su_init_123 rfl ?_
  refine aw_iconst (v := (0 : Int32)) d_Su_init_124 (by decide) ?_
  obtain ⟨hk2, w⟩ := w
  refine pf_Su_68 rfl hk2 d_Su_init_125 ?_
  refine aw_aload_n (x := a0) d_Su_init_128 rfl ?_
  refine aw_iconst (v := (0 : Int32)) d_Su_init_129 (by decide) ?_
  refine pf_Su_71 rfl hk2 d_Su_init_130 ?_
  exact aw_return rfl d_Su_init_133 w
set_option maxRecDepth 20000 in
theorem r_Su_sign_0 {E : zE} {K n : Nat → Nat} {I : Nat → Nat → Int32} {F : Nat → Nat → Option Nat} {J : Nat → Nat → Int64} {cb sb : Nat} {Q : zO → zH → Prop} {a0 : Nat} {x1 : Int32}
    (w : K a0 = 8 ∧ (((500 : Int32) ≤ (I a0 1) → Q (.inl none) (K, n, I, F, J)) ∧ (¬ (500 : Int32) ≤ (I a0 1) → (∃ b3 : Nat, F a0 0 = some b3 ∧ K b3 = 21 ∧ (∃ j5 : Nat, (I a0 1) = nI j5 ∧ j5 < n b3 ∧ j5 < 2147483648 ∧ Q (.inl none) (K, n, (zup (zup I b3 j5 x1) a0 1 (((zup I b3 j5 x1) a0 1) + (1 : Int32))), F, J)))))) :
    AW E m_Su_sign (K, n, I, F, J) cb sb Q 0 [some (.ref a0), some (.int x1)] [] := by
  refine aw_aload_n (x := a0) d_Su_sign_0 rfl ?_
  obtain ⟨hk1, w⟩ := w
  refine gf_Su_13 rfl hk1 d_Su_sign_1 ?_
  refine aw_sipush (v := (500 : Int32)) d_Su_sign_4 (by decide) ?_
  refine aw_icmp_ge (tgt := 30) d_Su_sign_7 (by decide) (fun cc2 => ?_) (fun cc2 => ?_)
  · replace w := w.1 cc2
    exact aw_return rfl d_Su_sign_30 w
  · replace w := w.2 cc2
    refine aw_aload_n (x := a0) d_Su_sign_10 rfl ?_
    obtain ⟨b3, hb3, w⟩ := w
    refine gs_Su_9 rfl hk1 hb3 d_Su_sign_11 ?_
    refine aw_aload_n (x := a0) d_Su_sign_14 rfl ?_
    refine gf_Su_13 rfl hk1 d_Su_sign_15 ?_
    refine aw_iload_n (x := x1) d_Su_sign_18 rfl ?_
    obtain ⟨hk4, w⟩ := w
    obtain ⟨j5, hj5a, hj5b, hj5c, w⟩ := w
    refine aw_iastore j5 hk4 hj5a hj5b hj5c d_Su_sign_19 ?_
    refine aw_aload_n (x := a0) d_Su_sign_20 rfl ?_
    refine aw_dup d_Su_sign_21 rfl ?_
    refine gf_Su_13 rfl hk1 d_Su_sign_22 ?_
    refine aw_iconst (v := (1 : Int32)) d_Su_sign_25 (by decide) ?_
    refine aw_iadd d_Su_sign_26 ?_
    refine pf_Su_13 rfl hk1 d_Su_sign_27 ?_
    exact aw_return rfl d_Su_sign_30 w
set_option maxRecDepth 20000 in
theorem r_Su_read_0 {E : zE} {K n : Nat → Nat} {I : Nat → Nat → Int32} {F : Nat → Nat → Option Nat} {J : Nat → Nat → Int64} {cb sb : Nat} {Q : zO → zH → Prop} {a0 : Nat}
    (w : (∃ cb9 sb9 : Nat, cb9 + 1 ≤ cb ∧ sb9 + 5 ≤ sb ∧ ∀ q : Nat, K q = 0 → AW E m_Su_read ((va_up K q 3), n, (va_up I q (fun _ => 0)), (va_up F q (fun _ => none)), J) cb9 sb9 Q 3 [some (.ref a0), none, none] [.ref q])) :
    AW E m_Su_read (K, n, I, F, J) cb sb Q 0 [some (.ref a0), none, none] [] := by
  obtain ⟨cb9, sb9, hq1, hq2, w⟩ := w
  exact aw_room hq1 hq2 (aw_weak (lv' := [some (.ref a0), none, none]) ⟨rfl, trivial⟩ (aw_new 2 (T := zt_Reader) zy_Reader rfl (by decide) zin_Reader zyo_Reader 212 213 9 tb_212 tb_213 tb_9 (by decide) d_Su_read_0 w))
set_option maxRecDepth 20000 in
theorem r_Su_read_3 {E : zE} {K n : Nat → Nat} {I : Nat → Nat → Int32} {F : Nat → Nat → Option Nat} {J : Nat → Nat → Int64} {cb sb : Nat} {Q : zO → zH → Prop} {a0 : Nat} {sa0 : Nat}
    (w : K a0 = 8 ∧ (∃ b2 : Nat, F a0 0 = some b2 ∧ (∃ c1 s1 c2 s2 : Nat, c1 + c2 ≤ cb ∧ s1 + s2 ≤ sb ∧ AW E m_Reader_init (K, n, I, F, J) c1 s1 (zAft E m_Su_read c2 s2 Q 12 [some (.ref a0), none, none] [.ref sa0]) 0 [some (.ref sa0), some (.ref b2), some (.int (I a0 1))] []))) :
    AW E m_Su_read (K, n, I, F, J) cb sb Q 3 [some (.ref a0), none, none] [.ref sa0] := by
  refine aw_dup d_Su_read_3 rfl ?_
  refine aw_aload_n (x := a0) d_Su_read_4 rfl ?_
  obtain ⟨hk1, w⟩ := w
  obtain ⟨b2, hb2, w⟩ := w
  refine gs_Su_9 rfl hk1 hb2 d_Su_read_5 ?_
  refine aw_aload_n (x := a0) d_Su_read_8 rfl ?_
  refine gf_Su_13 rfl hk1 d_Su_read_9 ?_
  obtain ⟨c1, s1, c2, s2, hq1, hq2, w⟩ := w
  exact aw_room hq1 hq2 (aw_weak (lv' := [some (.ref a0), none, none]) ⟨rfl, trivial⟩ (aw_callIO (M' := m_Reader_init) (lv0 := [some (.ref sa0), some (.ref b2), some (.int (I a0 1))]) (As := [.ref b2, .int (I a0 1)]) (rest := [.ref sa0]) 214 215 216 tb_214 tb_215 tb_216 rfl rfl rfl (by decide) 2 1 rfl rfl ⟨by decide, by decide, by decide +kernel, by decide +kernel, by decide, by decide⟩ (Nat.le_of_ble_eq_true rfl) ⟨rfl, rfl, rfl, trivial⟩ rfl d_Su_read_12 w))
set_option maxRecDepth 20000 in
theorem r_Su_read_15 {E : zE} {K n : Nat → Nat} {I : Nat → Nat → Int32} {F : Nat → Nat → Option Nat} {J : Nat → Nat → Int64} {cb sb : Nat} {Q : zO → zH → Prop} {a0 : Nat} {sa0 : Nat}
    (w : K a0 = 8 ∧ K sa0 = 3 ∧ (∃ c1 s1 c2 s2 : Nat, c1 + c2 ≤ cb ∧ s1 + s2 ≤ sb ∧ AW E m_Reader_readAll (K, n, (zup I a0 1 (0 : Int32)), F, J) c1 s1 (zAftH E m_Su_read c2 s2 Q 23 [some (.ref a0), some (.ref sa0), none] [none, some (.ref sa0), none] [.ref a0] 32 "java/lang/IllegalArgumentException") 0 [some (.ref sa0)] [])) :
    AW E m_Su_read (K, n, I, F, J) cb sb Q 15 [some (.ref a0), none, none] [.ref sa0] := by
  refine aw_astore_n d_Su_read_15 (by decide) ?_
  refine aw_aload_n (x := a0) d_Su_read_16 rfl ?_
  refine aw_iconst (v := (0 : Int32)) d_Su_read_17 (by decide) ?_
  obtain ⟨hk1, w⟩ := w
  refine pf_Su_13 rfl hk1 d_Su_read_18 ?_
  refine aw_aload_n (x := a0) d_Su_read_21 rfl ?_
  refine aw_aload_n (x := sa0) d_Su_read_22 rfl ?_
  obtain ⟨hk2, w⟩ := w
  obtain ⟨c1, s1, c2, s2, hq1, hq2, w⟩ := w
  exact aw_room hq1 hq2 (aw_weak (lv' := [some (.ref a0), some (.ref sa0), none]) ⟨rfl, rfl, trivial⟩ (aw_callVH (M' := m_Reader_readAll) (lv0 := [some (.ref sa0)]) (As := []) (rest := [.ref a0]) (lvH := [none, some (.ref sa0), none]) 2 240 241 243 211 315 rfl (by decide) rfl hk2 tb_240 tb_241 tb_243 (fun U hU => hU.t 242 tb_242 rfl) rfl rfl ⟨by decide, by decide⟩ (by decide) tb_211 tb_315 ⟨rfl, trivial⟩ 0 1 rfl rfl ⟨by decide, by decide, by decide +kernel, by decide +kernel, by decide, by decide⟩ (Nat.le_of_ble_eq_true rfl) ⟨rfl, trivial⟩ rfl d_Su_read_23 w))
set_option maxRecDepth 20000 in
theorem r_Su_read_26 {E : zE} {K n : Nat → Nat} {I : Nat → Nat → Int32} {F : Nat → Nat → Option Nat} {J : Nat → Nat → Int64} {cb sb : Nat} {Q : zO → zH → Prop} {a0 : Nat} {a1 : Nat} {sa0 : Nat} {sa1 : Nat}
    (w : K sa0 = 8 ∧ K a0 = 8 ∧ (∃ b3 : Nat, (zup F sa0 2 (some sa1)) a0 2 = some b3 ∧ K b3 = 6 ∧ Q (.inl (some (.int (I b3 7)))) (K, n, I, (zup F sa0 2 (some sa1)), J))) :
    AW E m_Su_read (K, n, I, F, J) cb sb Q 26 [some (.ref a0), some (.ref a1), none] [.ref sa1, .ref sa0] := by
  obtain ⟨hk1, w⟩ := w
  refine pf_Su_20 (r := (some sa1)) rfl hk1 d_Su_read_26 ?_
  refine aw_goto (tgt := 40) d_Su_read_29 (by decide) ?_
  refine aw_aload_n (x := a0) d_Su_read_40 rfl ?_
  obtain ⟨hk2, w⟩ := w
  obtain ⟨b3, hb3, w⟩ := w
  refine gs_Su_20 rfl hk2 hb3 d_Su_read_41 ?_
  obtain ⟨hk4, w⟩ := w
  refine gf_Su_88 rfl hk4 d_Su_read_44 ?_
  exact aw_ireturn .int rfl rfl d_Su_read_47 w
set_option maxRecDepth 20000 in
theorem r_Su_read_32 {E : zE} {K n : Nat → Nat} {I : Nat → Nat → Int32} {F : Nat → Nat → Option Nat} {J : Nat → Nat → Int64} {cb sb : Nat} {Q : zO → zH → Prop} {a1 : Nat} {sa0 : Nat}
    (w : K a1 = 3 ∧ Q (.inl (some (.int (((-1) : Int32) - (I a1 4))))) (K, n, I, F, J)) :
    AW E m_Su_read (K, n, I, F, J) cb sb Q 32 [none, some (.ref a1), none] [.ref sa0] := by
  refine aw_astore_n d_Su_read_32 (by decide) ?_
  refine aw_iconst (v := ((-1) : Int32)) d_Su_read_33 (by decide) ?_
  refine aw_aload_n (x := a1) d_Su_read_34 rfl ?_
  obtain ⟨hk1, w⟩ := w
  refine gf_Su_85 rfl hk1 d_Su_read_35 ?_
  refine aw_isub d_Su_read_38 ?_
  exact aw_ireturn .int rfl rfl d_Su_read_39 w
set_option maxRecDepth 20000 in
theorem r_Su_record_0 {E : zE} {K n : Nat → Nat} {I : Nat → Nat → Int32} {F : Nat → Nat → Option Nat} {J : Nat → Nat → Int64} {cb sb : Nat} {Q : zO → zH → Prop} {a0 : Nat} {x1 : Int32}
    (w : AW E m_Su_isInput (K, n, I, F, J) 0 0 (zAft E m_Su_record cb sb Q 1 [some (.ref a0), some (.int x1), none, none] []) 0 [some (.int x1)] []) :
    AW E m_Su_record (K, n, I, F, J) cb sb Q 0 [some (.ref a0), some (.int x1), none, none] [] := by
  refine aw_iload_n (x := x1) d_Su_record_0 rfl ?_
  exact aw_room (cb' := 0 + cb) (sb' := 0 + sb) (by omega) (by omega) (aw_weak (lv' := [some (.ref a0), some (.int x1), none, none]) ⟨rfl, rfl, trivial⟩ (aw_callS (M' := m_Su_isInput) (lv0 := [some (.int x1)]) (As := [.int x1]) (rest := []) 578 579 580 1 tb_578 tb_579 tb_580 tb_1 rfl rfl 1 0 rfl rfl ⟨by decide, by decide, by decide +kernel, by decide +kernel, by decide, by decide⟩ (Nat.le_of_ble_eq_true rfl) ⟨rfl, trivial⟩ rfl d_Su_record_1 w))
set_option maxRecDepth 20000 in
theorem r_Su_record_4 {E : zE} {K n : Nat → Nat} {I : Nat → Nat → Int32} {F : Nat → Nat → Option Nat} {J : Nat → Nat → Int64} {cb sb : Nat} {Q : zO → zH → Prop} {a0 : Nat} {x1 : Int32} {sx0 : Int32}
    (w : ((¬ sx0 = 0 → K a0 = 8 ∧ (∃ b3 : Nat, F a0 3 = some b3 ∧ K b3 = 5 ∧ (∃ c1 s1 c2 s2 : Nat, c1 + c2 ≤ cb ∧ s1 + s2 ≤ sb ∧ AW E m_Rows_add (K, n, I, F, J) c1 s1 (zAft E m_Su_record c2 s2 Q 21 [none, some (.int x1), some (.int (I b3 1)), none] []) 0 [some (.ref b3), none] []))) ∧ (sx0 = 0 → Q (.inl (some (.int ((-1) : Int32)))) (K, n, I, F, J)))) :
    AW E m_Su_record (K, n, I, F, J) cb sb Q 4 [some (.ref a0), some (.int x1), none, none] [.int sx0] := by
  refine aw_if_ne (tgt := 9) d_Su_record_4 (by decide) (fun cc1 => ?_) (fun cc1 => ?_)
  · replace w := w.1 cc1
    refine aw_aload_n (x := a0) d_Su_record_9 rfl ?_
    obtain ⟨hk2, w⟩ := w
    obtain ⟨b3, hb3, w⟩ := w
    refine gs_Su_27 rfl hk2 hb3 d_Su_record_10 ?_
    obtain ⟨hk4, w⟩ := w
    refine gf_Su_95 rfl hk4 d_Su_record_13 ?_
    refine aw_istore_n d_Su_record_16 (by decide) ?_
    refine aw_aload_n (x := a0) d_Su_record_17 rfl ?_
    refine gs_Su_27 rfl hk2 hb3 d_Su_record_18 ?_
    obtain ⟨c1, s1, c2, s2, hq1, hq2, w⟩ := w
    exact aw_room hq1 hq2 (aw_weak (lv' := [none, some (.int x1), some (.int (I b3 1)), none]) ⟨rfl, rfl, trivial⟩ (aw_callV (M' := m_Rows_add) (lv0 := [some (.ref b3), none]) (As := []) (rest := []) 4 581 582 584 rfl (by decide) rfl hk4 tb_581 tb_582 tb_584 (fun U hU => hU.t 583 tb_583 rfl) rfl rfl 0 0 rfl rfl ⟨by decide, by decide, by decide +kernel, by decide +kernel, by decide, by decide⟩ (Nat.le_of_ble_eq_true rfl) ⟨rfl, trivial⟩ rfl d_Su_record_21 w))
  · replace w := w.2 cc1
    refine aw_iconst (v := ((-1) : Int32)) d_Su_record_7 (by decide) ?_
    exact aw_ireturn .int rfl rfl d_Su_record_8 w
set_option maxRecDepth 20000 in
theorem r_Su_record_24 {E : zE} {K n : Nat → Nat} {I : Nat → Nat → Int32} {F : Nat → Nat → Option Nat} {J : Nat → Nat → Int64} {cb sb : Nat} {Q : zO → zH → Prop} {x1 : Int32} {x2 : Int32} {sr0 : Option Nat}
    (w : ((sr0 = none → Q (.inl (some (.int ((-1) : Int32)))) (K, n, I, F, J)) ∧ (∀ z1 : Nat, sr0 = some z1 → K z1 = 4 ∧ Q (.inl (some (.int x2))) (K, n, (zup (zup I z1 2 x1) z1 3 x2), F, J)))) :
    AW E m_Su_record (K, n, I, F, J) cb sb Q 24 [none, some (.int x1), some (.int x2), none] [va_rf sr0] := by
  refine aw_astore_nR d_Su_record_24 (by decide) ?_
  refine aw_aload_nR (r := sr0) d_Su_record_25 (by first | rfl | (cases sr0 <;> rfl)) ?_
  refine aw_ifnonnull (r := sr0) (tgt := 31) d_Su_record_26 (by decide) (fun z1 cc2 => ?_) (fun cc2 => ?_)
  · replace w := w.2 z1 cc2
    subst cc2
    refine aw_aload_n (x := z1) d_Su_record_31 rfl ?_
    refine aw_iload_n (x := x1) d_Su_record_32 rfl ?_
    obtain ⟨hk3, w⟩ := w
    refine pf_Su_100 rfl hk3 d_Su_record_33 ?_
    refine aw_aload_n (x := z1) d_Su_record_36 rfl ?_
    refine aw_iload_n (x := x2) d_Su_record_37 rfl ?_
    refine pf_Su_103 rfl hk3 d_Su_record_38 ?_
    refine aw_iload_n (x := x2) d_Su_record_41 rfl ?_
    exact aw_ireturn .int rfl rfl d_Su_record_42 w
  · replace w := w.1 cc2
    subst cc2
    refine aw_iconst (v := ((-1) : Int32)) d_Su_record_29 (by decide) ?_
    exact aw_ireturn .int rfl rfl d_Su_record_30 w
set_option maxRecDepth 20000 in
theorem r_Su_octet_0 {E : zE} {K n : Nat → Nat} {I : Nat → Nat → Int32} {F : Nat → Nat → Option Nat} {J : Nat → Nat → Int64} {cb sb : Nat} {Q : zO → zH → Prop} {a0 : Nat} {x1 : Int32} {x2 : Int32} {x3 : Int32}
    (w : K a0 = 8 ∧ (∃ b2 : Nat, F a0 3 = some b2 ∧ K b2 = 5 ∧ AW E m_Rows_at (K, n, I, F, J) 0 0 (zAft E m_Su_octet cb sb Q 5 [none, none, some (.int x2), some (.int x3), none] []) 0 [some (.ref b2), some (.int x1)] [])) :
    AW E m_Su_octet (K, n, I, F, J) cb sb Q 0 [some (.ref a0), some (.int x1), some (.int x2), some (.int x3), none] [] := by
  refine aw_aload_n (x := a0) d_Su_octet_0 rfl ?_
  obtain ⟨hk1, w⟩ := w
  obtain ⟨b2, hb2, w⟩ := w
  refine gs_Su_27 rfl hk1 hb2 d_Su_octet_1 ?_
  refine aw_iload_n (x := x1) d_Su_octet_4 rfl ?_
  obtain ⟨hk3, w⟩ := w
  exact aw_room (cb' := 0 + cb) (sb' := 0 + sb) (by omega) (by omega) (aw_weak (lv' := [none, none, some (.int x2), some (.int x3), none]) ⟨rfl, rfl, trivial⟩ (aw_callV (M' := m_Rows_at) (lv0 := [some (.ref b2), some (.int x1)]) (As := [.int x1]) (rest := []) 4 617 618 620 rfl (by decide) rfl hk3 tb_617 tb_618 tb_620 (fun U hU => hU.t 619 tb_619 rfl) rfl rfl 1 0 rfl rfl ⟨by decide, by decide, by decide +kernel, by decide +kernel, by decide, by decide⟩ (Nat.le_of_ble_eq_true rfl) ⟨rfl, rfl, trivial⟩ rfl d_Su_octet_5 w))
set_option maxRecDepth 20000 in
theorem r_Su_octet_8 {E : zE} {K n : Nat → Nat} {I : Nat → Nat → Int32} {F : Nat → Nat → Option Nat} {J : Nat → Nat → Int64} {cb sb : Nat} {Q : zO → zH → Prop} {x2 : Int32} {x3 : Int32} {sr0 : Option Nat}
    (w : ((sr0 = none → (1 ≤ cb ∧ 6 ≤ sb ∧ Q (.inr "java/lang/ArrayIndexOutOfBoundsException") (K, n, I, F, J))) ∧ (∀ z1 : Nat, sr0 = some z1 → ((x2 < 0 → (1 ≤ cb ∧ 6 ≤ sb ∧ Q (.inr "java/lang/ArrayIndexOutOfBoundsException") (K, n, I, F, J))) ∧ (¬ x2 < 0 → ((x2 < (100 : Int32) → K z1 = 4 ∧ AW E m_Row_put (K, n, I, F, J) 0 0 (zAft E m_Su_octet cb sb Q 39 [none, none, none, none, none] []) 0 [some (.ref z1), some (.int x2), some (.int x3)] []) ∧ (¬ x2 < (100 : Int32) → (1 ≤ cb ∧ 6 ≤ sb ∧ Q (.inr "java/lang/ArrayIndexOutOfBoundsException") (K, n, I, F, J))))))))) :
    AW E m_Su_octet (K, n, I, F, J) cb sb Q 8 [none, none, some (.int x2), some (.int x3), none] [va_rf sr0] := by
  refine aw_astoreR d_Su_octet_8 (by decide) ?_
  refine aw_aloadR (r := sr0) d_Su_octet_10 (by first | rfl | (cases sr0 <;> rfl)) ?_
  refine aw_ifnull (r := sr0) (tgt := 25) d_Su_octet_12 (by decide) (fun cc2 => ?_) (fun z1 cc2 => ?_)
  · replace w := w.1 cc2
    subst cc2
    exact aw_throwS (cls := "java/lang/ArrayIndexOutOfBoundsException") (names := ["java/lang/IndexOutOfBoundsException", "java/lang/RuntimeException", "java/lang/Exception"]) 20 802 28 (by decide) rfl rfl (by decide +kernel) (by decide +kernel) tb_802 tb_28 zth_U zth_Ug d_Su_octet_25 d_Su_octet_28 d_Su_octet_29 d_Su_octet_31 d_Su_octet_34 rfl (by decide) (by decide) w.1 w.2.1 w.2.2
  · replace w := w.2 z1 cc2
    subst cc2
    refine aw_iload_n (x := x2) d_Su_octet_15 rfl ?_
    refine aw_if_lt (tgt := 25) d_Su_octet_16 (by decide) (fun cc3 => ?_) (fun cc3 => ?_)
    · replace w := w.1 cc3
      exact aw_throwS (cls := "java/lang/ArrayIndexOutOfBoundsException") (names := ["java/lang/IndexOutOfBoundsException", "java/lang/RuntimeException", "java/lang/Exception"]) 20 802 28 (by decide) rfl rfl (by decide +kernel) (by decide +kernel) tb_802 tb_28 zth_U zth_Ug d_Su_octet_25 d_Su_octet_28 d_Su_octet_29 d_Su_octet_31 d_Su_octet_34 rfl (by decide) (by decide) w.1 w.2.1 w.2.2
    · replace w := w.2 cc3
      refine aw_iload_n (x := x2) d_Su_octet_19 rfl ?_
      refine aw_bipush (v := (100 : Int32)) d_Su_octet_20 (by decide) ?_
      refine aw_icmp_lt (tgt := 35) d_Su_octet_22 (by decide) (fun cc4 => ?_) (fun cc4 => ?_)
      · replace w := w.1 cc4
        refine aw_aload (x := z1) d_Su_octet_35 rfl ?_
        refine aw_iload_n (x := x2) d_Su_octet_37 rfl ?_
        refine aw_iload_n (x := x3) d_Su_octet_38 rfl ?_
        obtain ⟨hk5, w⟩ := w
        exact aw_room (cb' := 0 + cb) (sb' := 0 + sb) (by omega) (by omega) (aw_weak (lv' := [none, none, none, none, none]) trivial (aw_callV (M' := m_Row_put) (lv0 := [some (.ref z1), some (.int x2), some (.int x3)]) (As := [.int x2, .int x3]) (rest := []) 3 823 713 715 rfl (by decide) rfl hk5 tb_823 tb_713 tb_715 (fun U hU => hU.t 714 tb_714 rfl) rfl rfl 2 0 rfl rfl ⟨by decide, by decide, by decide +kernel, by decide +kernel, by decide, by decide⟩ (Nat.le_of_ble_eq_true rfl) ⟨rfl, rfl, rfl, trivial⟩ rfl d_Su_octet_39 w))
      · replace w := w.2 cc4
        exact aw_throwS (cls := "java/lang/ArrayIndexOutOfBoundsException") (names := ["java/lang/IndexOutOfBoundsException", "java/lang/RuntimeException", "java/lang/Exception"]) 20 802 28 (by decide) rfl rfl (by decide +kernel) (by decide +kernel) tb_802 tb_28 zth_U zth_Ug d_Su_octet_25 d_Su_octet_28 d_Su_octet_29 d_Su_octet_31 d_Su_octet_34 rfl (by decide) (by decide) w.1 w.2.1 w.2.2
set_option maxRecDepth 20000 in
theorem r_Su_octet_42 {E : zE} {K n : Nat → Nat} {I : Nat → Nat → Int32} {F : Nat → Nat → Option Nat} {J : Nat → Nat → Int64} {cb sb : Nat} {Q : zO → zH → Prop}
    (w : Q (.inl none) (K, n, I, F, J)) :
    AW E m_Su_octet (K, n, I, F, J) cb sb Q 42 [none, none, none, none, none] [] := by
  exact aw_return rfl d_Su_octet_42 w
set_option maxRecDepth 20000 in
theorem r_Su_run_0 {E : zE} {K n : Nat → Nat} {I : Nat → Nat → Int32} {F : Nat → Nat → Option Nat} {J : Nat → Nat → Int64} {cb sb : Nat} {Q : zO → zH → Prop} {a0 : Nat}
    (w : K a0 = 8 ∧ (∃ b2 : Nat, F a0 4 = some b2 ∧ K b2 = 5 ∧ AW E m_Rows_clear (K, n, I, F, J) 0 0 (zAft E m_Su_run cb sb Q 4 [some (.ref a0)] []) 0 [some (.ref b2)] [])) :
    AW E m_Su_run (K, n, I, F, J) cb sb Q 0 [some (.ref a0)] [] := by
  refine aw_aload_n (x := a0) d_Su_run_0 rfl ?_
  obtain ⟨hk1, w⟩ := w
  obtain ⟨b2, hb2, w⟩ := w
  refine gs_Su_31 rfl hk1 hb2 d_Su_run_1 ?_
  obtain ⟨hk3, w⟩ := w
  exact aw_room (cb' := 0 + cb) (sb' := 0 + sb) (by omega) (by omega) (aw_weak (lv' := [some (.ref a0)]) ⟨rfl, trivial⟩ (aw_callV (M' := m_Rows_clear) (lv0 := [some (.ref b2)]) (As := []) (rest := []) 4 605 606 608 rfl (by decide) rfl hk3 tb_605 tb_606 tb_608 (fun U hU => hU.t 607 tb_607 rfl) rfl rfl 0 0 rfl rfl ⟨by decide, by decide, by decide +kernel, by decide +kernel, by decide, by decide⟩ (Nat.le_of_ble_eq_true rfl) ⟨rfl, trivial⟩ rfl d_Su_run_4 w))
set_option maxRecDepth 20000 in
theorem r_Su_run_7 {E : zE} {K n : Nat → Nat} {I : Nat → Nat → Int32} {F : Nat → Nat → Option Nat} {J : Nat → Nat → Int64} {cb sb : Nat} {Q : zO → zH → Prop} {a0 : Nat}
    (w : K a0 = 8 ∧ (∃ b2 : Nat, F a0 5 = some b2 ∧ K b2 = 5 ∧ AW E m_Rows_clear (K, n, I, F, J) 0 0 (zAft E m_Su_run cb sb Q 11 [some (.ref a0)] []) 0 [some (.ref b2)] [])) :
    AW E m_Su_run (K, n, I, F, J) cb sb Q 7 [some (.ref a0)] [] := by
  refine aw_aload_n (x := a0) d_Su_run_7 rfl ?_
  obtain ⟨hk1, w⟩ := w
  obtain ⟨b2, hb2, w⟩ := w
  refine gs_Su_34 rfl hk1 hb2 d_Su_run_8 ?_
  obtain ⟨hk3, w⟩ := w
  exact aw_room (cb' := 0 + cb) (sb' := 0 + sb) (by omega) (by omega) (aw_weak (lv' := [some (.ref a0)]) ⟨rfl, trivial⟩ (aw_callV (M' := m_Rows_clear) (lv0 := [some (.ref b2)]) (As := []) (rest := []) 4 605 606 608 rfl (by decide) rfl hk3 tb_605 tb_606 tb_608 (fun U hU => hU.t 607 tb_607 rfl) rfl rfl 0 0 rfl rfl ⟨by decide, by decide, by decide +kernel, by decide +kernel, by decide, by decide⟩ (Nat.le_of_ble_eq_true rfl) ⟨rfl, trivial⟩ rfl d_Su_run_11 w))
set_option maxRecDepth 20000 in
theorem r_Su_run_14 {E : zE} {K n : Nat → Nat} {I : Nat → Nat → Int32} {F : Nat → Nat → Option Nat} {J : Nat → Nat → Int64} {cb sb : Nat} {Q : zO → zH → Prop} {a0 : Nat}
    (w : K a0 = 8 ∧ (∃ b2 : Nat, F a0 10 = some b2 ∧ K b2 = 10 ∧ AW E m_ArrayList_clear (K, n, I, F, J) 0 0 (zAft E m_Su_run cb sb Q 18 [some (.ref a0)] []) 0 [some (.ref b2), none, none, none] [])) :
    AW E m_Su_run (K, n, I, F, J) cb sb Q 14 [some (.ref a0)] [] := by
  refine aw_aload_n (x := a0) d_Su_run_14 rfl ?_
  obtain ⟨hk1, w⟩ := w
  obtain ⟨b2, hb2, w⟩ := w
  refine gs_Su_54 rfl hk1 hb2 d_Su_run_15 ?_
  obtain ⟨hk3, w⟩ := w
  exact aw_room (cb' := 0 + cb) (sb' := 0 + sb) (by omega) (by omega) (aw_weak (lv' := [some (.ref a0)]) ⟨rfl, trivial⟩ (aw_callV (M' := m_ArrayList_clear) (lv0 := [some (.ref b2), none, none, none]) (As := []) (rest := []) 9 609 610 612 rfl (by decide) rfl hk3 tb_609 tb_610 tb_612 (fun U hU => hU.t 611 tb_611 rfl) rfl rfl 0 0 rfl rfl ⟨by decide, by decide, by decide +kernel, by decide +kernel, by decide, by decide⟩ (Nat.le_of_ble_eq_true rfl) ⟨rfl, trivial⟩ rfl d_Su_run_18 w))
set_option maxRecDepth 20000 in
theorem r_Su_run_21 {E : zE} {K n : Nat → Nat} {I : Nat → Nat → Int32} {F : Nat → Nat → Option Nat} {J : Nat → Nat → Int64} {cb sb : Nat} {Q : zO → zH → Prop} {a0 : Nat}
    (w : K a0 = 8 ∧ (∃ c1 s1 c2 s2 : Nat, c1 + c2 ≤ cb ∧ s1 + s2 ≤ sb ∧ AW E m_Su_pickRecords (K, n, (zup (zup I a0 13 (0 : Int32)) a0 14 (0 : Int32)), F, J) c1 s1 (zAft E m_Su_run c2 s2 Q 32 [some (.ref a0)] []) 0 [some (.ref a0), none, none, none, none] [])) :
    AW E m_Su_run (K, n, I, F, J) cb sb Q 21 [some (.ref a0)] [] := by
  refine aw_aload_n (x := a0) d_Su_run_21 rfl ?_
  refine aw_iconst (v := (0 : Int32)) d_Su_run_22 (by decide) ?_
  obtain ⟨hk1, w⟩ := w
  refine pf_Su_68 rfl hk1 d_Su_run_23 ?_
  refine aw_aload_n (x := a0) d_Su_run_26 rfl ?_
  refine aw_iconst (v := (0 : Int32)) d_Su_run_27 (by decide) ?_
  refine pf_Su_71 rfl hk1 d_Su_run_28 ?_
  refine aw_aload_n (x := a0) d_Su_run_31 rfl ?_
  obtain ⟨c1, s1, c2, s2, hq1, hq2, w⟩ := w
  exact aw_room hq1 hq2 (aw_weak (lv' := [some (.ref a0)]) ⟨rfl, trivial⟩ (aw_callV (M' := m_Su_pickRecords) (lv0 := [some (.ref a0), none, none, none, none]) (As := []) (rest := []) 7 613 615 616 rfl (by decide) rfl hk1 tb_613 tb_615 tb_616 (fun U hU => hU.p 18 rfl) rfl rfl 0 0 rfl rfl ⟨by decide, by decide, by decide +kernel, by decide +kernel, by decide, by decide⟩ (Nat.le_of_ble_eq_true rfl) ⟨rfl, trivial⟩ rfl d_Su_run_32 w))
set_option maxRecDepth 20000 in
theorem r_Su_run_35 {E : zE} {K n : Nat → Nat} {I : Nat → Nat → Int32} {F : Nat → Nat → Option Nat} {J : Nat → Nat → Int64} {cb sb : Nat} {Q : zO → zH → Prop} {a0 : Nat}
    (w : K a0 = 8 ∧ (∃ c1 s1 c2 s2 : Nat, c1 + c2 ≤ cb ∧ s1 + s2 ≤ sb ∧ AW E m_Su_sumAndDeliver (K, n, I, F, J) c1 s1 (zAft E m_Su_run c2 s2 Q 36 [some (.ref a0)] []) 0 [some (.ref a0), none, none] [])) :
    AW E m_Su_run (K, n, I, F, J) cb sb Q 35 [some (.ref a0)] [] := by
  refine aw_aload_n (x := a0) d_Su_run_35 rfl ?_
  obtain ⟨hk1, w⟩ := w
  obtain ⟨c1, s1, c2, s2, hq1, hq2, w⟩ := w
  exact aw_room hq1 hq2 (aw_weak (lv' := [some (.ref a0)]) ⟨rfl, trivial⟩ (aw_callV (M' := m_Su_sumAndDeliver) (lv0 := [some (.ref a0), none, none]) (As := []) (rest := []) 7 682 684 685 rfl (by decide) rfl hk1 tb_682 tb_684 tb_685 (fun U hU => hU.p 22 rfl) rfl rfl 0 0 rfl rfl ⟨by decide, by decide, by decide +kernel, by decide +kernel, by decide, by decide⟩ (Nat.le_of_ble_eq_true rfl) ⟨rfl, trivial⟩ rfl d_Su_run_36 w))
set_option maxRecDepth 20000 in
theorem r_Su_run_39 {E : zE} {K n : Nat → Nat} {I : Nat → Nat → Int32} {F : Nat → Nat → Option Nat} {J : Nat → Nat → Int64} {cb sb : Nat} {Q : zO → zH → Prop} {a0 : Nat}
    (w : K a0 = 8 ∧ (∃ b2 : Nat, F a0 4 = some b2 ∧ K b2 = 5 ∧ Q (.inl (some (.int (I b2 1)))) (K, n, I, F, J))) :
    AW E m_Su_run (K, n, I, F, J) cb sb Q 39 [some (.ref a0)] [] := by
  refine aw_aload_n (x := a0) d_Su_run_39 rfl ?_
  obtain ⟨hk1, w⟩ := w
  obtain ⟨b2, hb2, w⟩ := w
  refine gs_Su_31 rfl hk1 hb2 d_Su_run_40 ?_
  obtain ⟨hk3, w⟩ := w
  refine gf_Su_95 rfl hk3 d_Su_run_43 ?_
  exact aw_ireturn .int rfl rfl d_Su_run_46 w
set_option maxRecDepth 20000 in
theorem r_Su_out_0 {E : zE} {K n : Nat → Nat} {I : Nat → Nat → Int32} {F : Nat → Nat → Option Nat} {J : Nat → Nat → Int64} {cb sb : Nat} {Q : zO → zH → Prop} {a0 : Nat} {x1 : Int32} {x2 : Int32} {x3 : Int32}
    (w : K a0 = 8 ∧ AW E m_Su_outputRow (K, n, I, F, J) 0 0 (zAft E m_Su_out cb sb Q 3 [none, none, none, some (.int x3), none] []) 0 [some (.ref a0), some (.int x1), some (.int x2), none] []) :
    AW E m_Su_out (K, n, I, F, J) cb sb Q 0 [some (.ref a0), some (.int x1), some (.int x2), some (.int x3), none] [] := by
  refine aw_aload_n (x := a0) d_Su_out_0 rfl ?_
  refine aw_iload_n (x := x1) d_Su_out_1 rfl ?_
  refine aw_iload_n (x := x2) d_Su_out_2 rfl ?_
  obtain ⟨hk1, w⟩ := w
  exact aw_room (cb' := 0 + cb) (sb' := 0 + sb) (by omega) (by omega) (aw_weak (lv' := [none, none, none, some (.int x3), none]) ⟨rfl, trivial⟩ (aw_callV (M' := m_Su_outputRow) (lv0 := [some (.ref a0), some (.int x1), some (.int x2), none]) (As := [.int x1, .int x2]) (rest := []) 7 739 741 742 rfl (by decide) rfl hk1 tb_739 tb_741 tb_742 (fun U hU => hU.p 27 rfl) rfl rfl 2 0 rfl rfl ⟨by decide, by decide, by decide +kernel, by decide +kernel, by decide, by decide⟩ (Nat.le_of_ble_eq_true rfl) ⟨rfl, rfl, rfl, trivial⟩ rfl d_Su_out_3 w))
set_option maxRecDepth 20000 in
theorem r_Su_out_6 {E : zE} {K n : Nat → Nat} {I : Nat → Nat → Int32} {F : Nat → Nat → Option Nat} {J : Nat → Nat → Int64} {cb sb : Nat} {Q : zO → zH → Prop} {x3 : Int32} {sr0 : Option Nat}
    (w : ((sr0 = none → Q (.inl (some (.int ((-1) : Int32)))) (K, n, I, F, J)) ∧ (∀ z1 : Nat, sr0 = some z1 → ((x3 < 0 → Q (.inl (some (.int ((-1) : Int32)))) (K, n, I, F, J)) ∧ (¬ x3 < 0 → K z1 = 4 ∧ ((x3 < (I z1 1) → AW E m_Row_octetAt (K, n, I, F, J) 0 0 (zAft E m_Su_out cb sb Q 31 [none, none, none, none, none] []) 0 [some (.ref z1), some (.int x3)] []) ∧ (¬ x3 < (I z1 1) → Q (.inl (some (.int ((-1) : Int32)))) (K, n, I, F, J)))))))) :
    AW E m_Su_out (K, n, I, F, J) cb sb Q 6 [none, none, none, some (.int x3), none] [va_rf sr0] := by
  refine aw_astoreR d_Su_out_6 (by decide) ?_
  refine aw_aloadR (r := sr0) d_Su_out_8 (by first | rfl | (cases sr0 <;> rfl)) ?_
  refine aw_ifnull (r := sr0) (tgt := 26) d_Su_out_10 (by decide) (fun cc2 => ?_) (fun z1 cc2 => ?_)
  · replace w := w.1 cc2
    subst cc2
    refine aw_iconst (v := ((-1) : Int32)) d_Su_out_26 (by decide) ?_
    exact aw_ireturn .int rfl rfl d_Su_out_27 w
  · replace w := w.2 z1 cc2
    subst cc2
    refine aw_iload_n (x := x3) d_Su_out_13 rfl ?_
    refine aw_if_lt (tgt := 26) d_Su_out_14 (by decide) (fun cc3 => ?_) (fun cc3 => ?_)
    · replace w := w.1 cc3
      refine aw_iconst (v := ((-1) : Int32)) d_Su_out_26 (by decide) ?_
      exact aw_ireturn .int rfl rfl d_Su_out_27 w
    · replace w := w.2 cc3
      refine aw_iload_n (x := x3) d_Su_out_17 rfl ?_
      refine aw_aload (x := z1) d_Su_out_18 rfl ?_
      obtain ⟨hk4, w⟩ := w
      refine gf_Su_134 rfl hk4 d_Su_out_20 ?_
      refine aw_icmp_lt (tgt := 28) d_Su_out_23 (by decide) (fun cc5 => ?_) (fun cc5 => ?_)
      · replace w := w.1 cc5
        refine aw_aload (x := z1) d_Su_out_28 rfl ?_
        refine aw_iload_n (x := x3) d_Su_out_30 rfl ?_
        exact aw_room (cb' := 0 + cb) (sb' := 0 + sb) (by omega) (by omega) (aw_weak (lv' := [none, none, none, none, none]) trivial (aw_callV (M' := m_Row_octetAt) (lv0 := [some (.ref z1), some (.int x3)]) (As := [.int x3]) (rest := []) 3 721 644 646 rfl (by decide) rfl hk4 tb_721 tb_644 tb_646 (fun U hU => hU.t 645 tb_645 rfl) rfl rfl 1 0 rfl rfl ⟨by decide, by decide, by decide +kernel, by decide +kernel, by decide, by decide⟩ (Nat.le_of_ble_eq_true rfl) ⟨rfl, rfl, trivial⟩ rfl d_Su_out_31 w))
      · replace w := w.2 cc5
        refine aw_iconst (v := ((-1) : Int32)) d_Su_out_26 (by decide) ?_
        exact aw_ireturn .int rfl rfl d_Su_out_27 w
set_option maxRecDepth 20000 in
theorem r_Su_out_34 {E : zE} {K n : Nat → Nat} {I : Nat → Nat → Int32} {F : Nat → Nat → Option Nat} {J : Nat → Nat → Int64} {cb sb : Nat} {Q : zO → zH → Prop} {sx0 : Int32}
    (w : Q (.inl (some (.int sx0))) (K, n, I, F, J)) :
    AW E m_Su_out (K, n, I, F, J) cb sb Q 34 [none, none, none, none, none] [.int sx0] := by
  exact aw_ireturn .int rfl rfl d_Su_out_34 w
set_option maxRecDepth 20000 in
theorem r_Su_sum_0 {E : zE} {K n : Nat → Nat} {I : Nat → Nat → Int32} {F : Nat → Nat → Option Nat} {J : Nat → Nat → Int64} {cb sb : Nat} {Q : zO → zH → Prop} {a0 : Nat} {x1 : Int32} {x2 : Int32}
    (w : K a0 = 8 ∧ (∃ b2 : Nat, F a0 4 = some b2 ∧ K b2 = 5 ∧ AW E m_Rows_at (K, n, I, F, J) 0 0 (zAft E m_Su_sum cb sb Q 5 [none, none, some (.int x2), none] []) 0 [some (.ref b2), some (.int x1)] [])) :
    AW E m_Su_sum (K, n, I, F, J) cb sb Q 0 [some (.ref a0), some (.int x1), some (.int x2), none] [] := by
  refine aw_aload_n (x := a0) d_Su_sum_0 rfl ?_
  obtain ⟨hk1, w⟩ := w
  obtain ⟨b2, hb2, w⟩ := w
  refine gs_Su_31 rfl hk1 hb2 d_Su_sum_1 ?_
  refine aw_iload_n (x := x1) d_Su_sum_4 rfl ?_
  obtain ⟨hk3, w⟩ := w
  exact aw_room (cb' := 0 + cb) (sb' := 0 + sb) (by omega) (by omega) (aw_weak (lv' := [none, none, some (.int x2), none]) ⟨rfl, trivial⟩ (aw_callV (M' := m_Rows_at) (lv0 := [some (.ref b2), some (.int x1)]) (As := [.int x1]) (rest := []) 4 617 618 620 rfl (by decide) rfl hk3 tb_617 tb_618 tb_620 (fun U hU => hU.t 619 tb_619 rfl) rfl rfl 1 0 rfl rfl ⟨by decide, by decide, by decide +kernel, by decide +kernel, by decide, by decide⟩ (Nat.le_of_ble_eq_true rfl) ⟨rfl, rfl, trivial⟩ rfl d_Su_sum_5 w))
set_option maxRecDepth 20000 in
theorem r_Su_sum_8 {E : zE} {K n : Nat → Nat} {I : Nat → Nat → Int32} {F : Nat → Nat → Option Nat} {J : Nat → Nat → Int64} {cb sb : Nat} {Q : zO → zH → Prop} {x2 : Int32} {sr0 : Option Nat}
    (w : ((sr0 = none → Q (.inl (some (.int ((-1) : Int32)))) (K, n, I, F, J)) ∧ (∀ z1 : Nat, sr0 = some z1 → ((x2 = 0 → K z1 = 4 ∧ Q (.inl (some (.int (I z1 4)))) (K, n, I, F, J)) ∧ (x2 = 1 → K z1 = 4 ∧ Q (.inl (some (.int (I z1 1)))) (K, n, I, F, J)) ∧ (x2 = 2 → K z1 = 4 ∧ Q (.inl (some (.int (I z1 3)))) (K, n, I, F, J)) ∧ (¬ x2 = 0 → ¬ x2 = 1 → ¬ x2 = 2 → Q (.inl (some (.int ((-1) : Int32)))) (K, n, I, F, J)))))) :
    AW E m_Su_sum (K, n, I, F, J) cb sb Q 8 [none, none, some (.int x2), none] [va_rf sr0] := by
  refine aw_astore_nR d_Su_sum_8 (by decide) ?_
  refine aw_aload_nR (r := sr0) d_Su_sum_9 (by first | rfl | (cases sr0 <;> rfl)) ?_
  refine aw_ifnonnull (r := sr0) (tgt := 15) d_Su_sum_10 (by decide) (fun z1 cc2 => ?_) (fun cc2 => ?_)
  · replace w := w.2 z1 cc2
    subst cc2
    refine aw_iload_n (x := x2) d_Su_sum_15 rfl ?_
    by_cases cc3_0 : x2 = 0
    · replace w := w.1 cc3_0
      refine aw_tableIn (off := 28) (tgt := 44) d_Su_sum_16 (by rw [cc3_0]; decide) (by rw [cc3_0]; decide) (by rw [cc3_0]; rfl) (by decide) ?_
      refine aw_aload_n (x := z1) d_Su_sum_44 rfl ?_
      obtain ⟨hk4, w⟩ := w
      refine gf_Su_141 rfl hk4 d_Su_sum_45 ?_
      exact aw_ireturn .int rfl rfl d_Su_sum_48 w
    by_cases cc3_1 : x2 = 1
    · replace w := w.2.1 cc3_1
      refine aw_tableIn (off := 33) (tgt := 49) d_Su_sum_16 (by rw [cc3_1]; decide) (by rw [cc3_1]; decide) (by rw [cc3_1]; rfl) (by decide) ?_
      refine aw_aload_n (x := z1) d_Su_sum_49 rfl ?_
      obtain ⟨hk5, w⟩ := w
      refine gf_Su_134 rfl hk5 d_Su_sum_50 ?_
      exact aw_ireturn .int rfl rfl d_Su_sum_53 w
    by_cases cc3_2 : x2 = 2
    · replace w := w.2.2.1 cc3_2
      refine aw_tableIn (off := 38) (tgt := 54) d_Su_sum_16 (by rw [cc3_2]; decide) (by rw [cc3_2]; decide) (by rw [cc3_2]; rfl) (by decide) ?_
      refine aw_aload_n (x := z1) d_Su_sum_54 rfl ?_
      obtain ⟨hk6, w⟩ := w
      refine gf_Su_103 rfl hk6 d_Su_sum_55 ?_
      exact aw_ireturn .int rfl rfl d_Su_sum_58 w
    replace w := w.2.2.2 cc3_0 cc3_1 cc3_2
    have cc3_0_t : ¬ x2.toInt = 0 := lv_neT cc3_0 rfl
    have cc3_1_t : ¬ x2.toInt = 1 := lv_neT cc3_1 rfl
    have cc3_2_t : ¬ x2.toInt = 2 := lv_neT cc3_2 rfl
    refine aw_tableOut (tgt := 59) d_Su_sum_16 (by omega) (by decide) ?_
    refine aw_iconst (v := ((-1) : Int32)) d_Su_sum_59 (by decide) ?_
    exact aw_ireturn .int rfl rfl d_Su_sum_60 w
  · replace w := w.1 cc2
    subst cc2
    refine aw_iconst (v := ((-1) : Int32)) d_Su_sum_13 (by decide) ?_
    exact aw_ireturn .int rfl rfl d_Su_sum_14 w
set_option maxRecDepth 20000 in
theorem r_Su_join_0 {E : zE} {K n : Nat → Nat} {I : Nat → Nat → Int32} {F : Nat → Nat → Option Nat} {J : Nat → Nat → Int64} {cb sb : Nat} {Q : zO → zH → Prop} {a0 : Nat} {x1 : Int32} {x2 : Int32}
    (w : K a0 = 8 ∧ (∃ b2 : Nat, F a0 2 = some b2 ∧ K b2 = 6 ∧ (∃ b4 : Nat, F b2 0 = some b4 ∧ K b4 = 10 ∧ AW E m_ArrayList_isEmpty (K, n, I, F, J) 0 0 (zAft E m_Su_join cb sb Q 7 [some (.ref a0), some (.int x1), some (.int x2), none, none, none] []) 0 [some (.ref b4)] []))) :
    AW E m_Su_join (K, n, I, F, J) cb sb Q 0 [some (.ref a0), some (.int x1), some (.int x2), none, none, none] [] := by
  refine aw_aload_n (x := a0) d_Su_join_0 rfl ?_
  obtain ⟨hk1, w⟩ := w
  obtain ⟨b2, hb2, w⟩ := w
  refine gs_Su_20 rfl hk1 hb2 d_Su_join_1 ?_
  obtain ⟨hk3, w⟩ := w
  obtain ⟨b4, hb4, w⟩ := w
  refine gs_Su_144 rfl hk3 hb4 d_Su_join_4 ?_
  obtain ⟨hk5, w⟩ := w
  exact aw_room (cb' := 0 + cb) (sb' := 0 + sb) (by omega) (by omega) (aw_weak (lv' := [some (.ref a0), some (.int x1), some (.int x2), none, none, none]) ⟨rfl, rfl, rfl, trivial⟩ (aw_callV (M' := m_ArrayList_isEmpty) (lv0 := [some (.ref b4)]) (As := []) (rest := []) 9 690 626 628 rfl (by decide) rfl hk5 tb_690 tb_626 tb_628 (fun U hU => hU.t 627 tb_627 rfl) rfl rfl 0 0 rfl rfl ⟨by decide, by decide, by decide +kernel, by decide +kernel, by decide, by decide⟩ (Nat.le_of_ble_eq_true rfl) ⟨rfl, trivial⟩ rfl d_Su_join_7 w))
set_option maxRecDepth 20000 in
theorem r_Su_join_10 {E : zE} {K n : Nat → Nat} {I : Nat → Nat → Int32} {F : Nat → Nat → Option Nat} {J : Nat → Nat → Int64} {cb sb : Nat} {Q : zO → zH → Prop} {a0 : Nat} {x1 : Int32} {x2 : Int32} {sx0 : Int32}
    (w : ((¬ sx0 = 0 → Q (.inl (some (.int ((-1) : Int32)))) (K, n, I, F, J)) ∧ (sx0 = 0 → AW E m_Su_isInput (K, n, I, F, J) 0 0 (zAft E m_Su_join cb sb Q 14 [some (.ref a0), some (.int x1), some (.int x2), none, none, none] []) 0 [some (.int x1)] []))) :
    AW E m_Su_join (K, n, I, F, J) cb sb Q 10 [some (.ref a0), some (.int x1), some (.int x2), none, none, none] [.int sx0] := by
  refine aw_if_ne (tgt := 32) d_Su_join_10 (by decide) (fun cc1 => ?_) (fun cc1 => ?_)
  · replace w := w.1 cc1
    refine aw_iconst (v := ((-1) : Int32)) d_Su_join_32 (by decide) ?_
    exact aw_ireturn .int rfl rfl d_Su_join_33 w
  · replace w := w.2 cc1
    refine aw_iload_n (x := x1) d_Su_join_13 rfl ?_
    exact aw_room (cb' := 0 + cb) (sb' := 0 + sb) (by omega) (by omega) (aw_weak (lv' := [some (.ref a0), some (.int x1), some (.int x2), none, none, none]) ⟨rfl, rfl, rfl, trivial⟩ (aw_callS (M' := m_Su_isInput) (lv0 := [some (.int x1)]) (As := [.int x1]) (rest := []) 578 579 580 1 tb_578 tb_579 tb_580 tb_1 rfl rfl 1 0 rfl rfl ⟨by decide, by decide, by decide +kernel, by decide +kernel, by decide, by decide⟩ (Nat.le_of_ble_eq_true rfl) ⟨rfl, trivial⟩ rfl d_Su_join_14 w))
set_option maxRecDepth 20000 in
theorem r_Su_join_17 {E : zE} {K n : Nat → Nat} {I : Nat → Nat → Int32} {F : Nat → Nat → Option Nat} {J : Nat → Nat → Int64} {cb sb : Nat} {Q : zO → zH → Prop} {a0 : Nat} {x1 : Int32} {x2 : Int32} {sx0 : Int32}
    (w : ((sx0 = 0 → Q (.inl (some (.int ((-1) : Int32)))) (K, n, I, F, J)) ∧ (¬ sx0 = 0 → AW E m_Su_isInput (K, n, I, F, J) 0 0 (zAft E m_Su_join cb sb Q 21 [some (.ref a0), some (.int x1), some (.int x2), none, none, none] []) 0 [some (.int x2)] []))) :
    AW E m_Su_join (K, n, I, F, J) cb sb Q 17 [some (.ref a0), some (.int x1), some (.int x2), none, none, none] [.int sx0] := by
  refine aw_if_eq (tgt := 32) d_Su_join_17 (by decide) (fun cc1 => ?_) (fun cc1 => ?_)
  · replace w := w.1 cc1
    refine aw_iconst (v := ((-1) : Int32)) d_Su_join_32 (by decide) ?_
    exact aw_ireturn .int rfl rfl d_Su_join_33 w
  · replace w := w.2 cc1
    refine aw_iload_n (x := x2) d_Su_join_20 rfl ?_
    exact aw_room (cb' := 0 + cb) (sb' := 0 + sb) (by omega) (by omega) (aw_weak (lv' := [some (.ref a0), some (.int x1), some (.int x2), none, none, none]) ⟨rfl, rfl, rfl, trivial⟩ (aw_callS (M' := m_Su_isInput) (lv0 := [some (.int x2)]) (As := [.int x2]) (rest := []) 578 579 580 1 tb_578 tb_579 tb_580 tb_1 rfl rfl 1 0 rfl rfl ⟨by decide, by decide, by decide +kernel, by decide +kernel, by decide, by decide⟩ (Nat.le_of_ble_eq_true rfl) ⟨rfl, trivial⟩ rfl d_Su_join_21 w))
set_option maxRecDepth 20000 in
theorem r_Su_join_24 {E : zE} {K n : Nat → Nat} {I : Nat → Nat → Int32} {F : Nat → Nat → Option Nat} {J : Nat → Nat → Int64} {cb sb : Nat} {Q : zO → zH → Prop} {a0 : Nat} {x1 : Int32} {x2 : Int32} {sx0 : Int32}
    (w : ((sx0 = 0 → Q (.inl (some (.int ((-1) : Int32)))) (K, n, I, F, J)) ∧ (¬ sx0 = 0 → ((¬ x1 = x2 → K a0 = 8 ∧ (∃ b4 : Nat, F a0 6 = some b4 ∧ K b4 = 5 ∧ AW E m_Rows_clear (K, n, I, F, J) 0 0 (zAft E m_Su_join cb sb Q 38 [some (.ref a0), some (.int x1), some (.int x2), none, none, none] []) 0 [some (.ref b4)] [])) ∧ (x1 = x2 → Q (.inl (some (.int ((-1) : Int32)))) (K, n, I, F, J)))))) :
    AW E m_Su_join (K, n, I, F, J) cb sb Q 24 [some (.ref a0), some (.int x1), some (.int x2), none, none, none] [.int sx0] := by
  refine aw_if_eq (tgt := 32) d_Su_join_24 (by decide) (fun cc1 => ?_) (fun cc1 => ?_)
  · replace w := w.1 cc1
    refine aw_iconst (v := ((-1) : Int32)) d_Su_join_32 (by decide) ?_
    exact aw_ireturn .int rfl rfl d_Su_join_33 w
  · replace w := w.2 cc1
    refine aw_iload_n (x := x1) d_Su_join_27 rfl ?_
    refine aw_iload_n (x := x2) d_Su_join_28 rfl ?_
    refine aw_icmp_ne (tgt := 34) d_Su_join_29 (by decide) (fun cc2 => ?_) (fun cc2 => ?_)
    · replace w := w.1 cc2
      refine aw_aload_n (x := a0) d_Su_join_34 rfl ?_
      obtain ⟨hk3, w⟩ := w
      obtain ⟨b4, hb4, w⟩ := w
      refine gs_Su_37 rfl hk3 hb4 d_Su_join_35 ?_
      obtain ⟨hk5, w⟩ := w
      exact aw_room (cb' := 0 + cb) (sb' := 0 + sb) (by omega) (by omega) (aw_weak (lv' := [some (.ref a0), some (.int x1), some (.int x2), none, none, none]) ⟨rfl, rfl, rfl, trivial⟩ (aw_callV (M' := m_Rows_clear) (lv0 := [some (.ref b4)]) (As := []) (rest := []) 4 605 606 608 rfl (by decide) rfl hk5 tb_605 tb_606 tb_608 (fun U hU => hU.t 607 tb_607 rfl) rfl rfl 0 0 rfl rfl ⟨by decide, by decide, by decide +kernel, by decide +kernel, by decide, by decide⟩ (Nat.le_of_ble_eq_true rfl) ⟨rfl, trivial⟩ rfl d_Su_join_38 w))
    · replace w := w.2 cc2
      refine aw_iconst (v := ((-1) : Int32)) d_Su_join_32 (by decide) ?_
      exact aw_ireturn .int rfl rfl d_Su_join_33 w
set_option maxRecDepth 20000 in
theorem r_Su_join_41 {E : zE} {K n : Nat → Nat} {I : Nat → Nat → Int32} {F : Nat → Nat → Option Nat} {J : Nat → Nat → Int64} {cb sb : Nat} {Q : zO → zH → Prop} {a0 : Nat} {x1 : Int32} {x2 : Int32}
    (w : K a0 = 8 ∧ (∃ b2 : Nat, F a0 7 = some b2 ∧ K b2 = 10 ∧ AW E m_ArrayList_clear (K, n, I, F, J) 0 0 (zAft E m_Su_join cb sb Q 45 [some (.ref a0), some (.int x1), some (.int x2), none, none, none] []) 0 [some (.ref b2), none, none, none] [])) :
    AW E m_Su_join (K, n, I, F, J) cb sb Q 41 [some (.ref a0), some (.int x1), some (.int x2), none, none, none] [] := by
  refine aw_aload_n (x := a0) d_Su_join_41 rfl ?_
  obtain ⟨hk1, w⟩ := w
  obtain ⟨b2, hb2, w⟩ := w
  refine gs_Su_43 rfl hk1 hb2 d_Su_join_42 ?_
  obtain ⟨hk3, w⟩ := w
  exact aw_room (cb' := 0 + cb) (sb' := 0 + sb) (by omega) (by omega) (aw_weak (lv' := [some (.ref a0), some (.int x1), some (.int x2), none, none, none]) ⟨rfl, rfl, rfl, trivial⟩ (aw_callV (M' := m_ArrayList_clear) (lv0 := [some (.ref b2), none, none, none]) (As := []) (rest := []) 9 609 610 612 rfl (by decide) rfl hk3 tb_609 tb_610 tb_612 (fun U hU => hU.t 611 tb_611 rfl) rfl rfl 0 0 rfl rfl ⟨by decide, by decide, by decide +kernel, by decide +kernel, by decide, by decide⟩ (Nat.le_of_ble_eq_true rfl) ⟨rfl, trivial⟩ rfl d_Su_join_45 w))
set_option maxRecDepth 20000 in
theorem r_Su_join_48 {E : zE} {K n : Nat → Nat} {I : Nat → Nat → Int32} {F : Nat → Nat → Option Nat} {J : Nat → Nat → Int64} {cb sb : Nat} {Q : zO → zH → Prop} {a0 : Nat} {x1 : Int32} {x2 : Int32}
    (w : K a0 = 8 ∧ AW E m_Su_longestOf (K, n, I, F, J) 0 0 (zAft E m_Su_join cb sb Q 50 [some (.ref a0), some (.int x1), some (.int x2), none, none, none] []) 0 [some (.ref a0), some (.int x1), none, none, none] []) :
    AW E m_Su_join (K, n, I, F, J) cb sb Q 48 [some (.ref a0), some (.int x1), some (.int x2), none, none, none] [] := by
  refine aw_aload_n (x := a0) d_Su_join_48 rfl ?_
  refine aw_iload_n (x := x1) d_Su_join_49 rfl ?_
  obtain ⟨hk1, w⟩ := w
  exact aw_room (cb' := 0 + cb) (sb' := 0 + sb) (by omega) (by omega) (aw_weak (lv' := [some (.ref a0), some (.int x1), some (.int x2), none, none, none]) ⟨rfl, rfl, rfl, trivial⟩ (aw_callV (M' := m_Su_longestOf) (lv0 := [some (.ref a0), some (.int x1), none, none, none]) (As := [.int x1]) (rest := []) 7 755 757 758 rfl (by decide) rfl hk1 tb_755 tb_757 tb_758 (fun U hU => hU.p 29 rfl) rfl rfl 1 0 rfl rfl ⟨by decide, by decide, by decide +kernel, by decide +kernel, by decide, by decide⟩ (Nat.le_of_ble_eq_true rfl) ⟨rfl, rfl, trivial⟩ rfl d_Su_join_50 w))
set_option maxRecDepth 20000 in
theorem r_Su_join_53 {E : zE} {K n : Nat → Nat} {I : Nat → Nat → Int32} {F : Nat → Nat → Option Nat} {J : Nat → Nat → Int64} {cb sb : Nat} {Q : zO → zH → Prop} {a0 : Nat} {x1 : Int32} {x2 : Int32} {sx0 : Int32}
    (w : AW E m_Su_join (K, n, I, F, J) cb sb Q 57 [some (.ref a0), some (.int x1), some (.int x2), some (.int sx0), some (.int (0 : Int32)), none] []) :
    AW E m_Su_join (K, n, I, F, J) cb sb Q 53 [some (.ref a0), some (.int x1), some (.int x2), none, none, none] [.int sx0] := by
  refine aw_istore_n d_Su_join_53 (by decide) ?_
  refine aw_iconst (v := (0 : Int32)) d_Su_join_54 (by decide) ?_
  refine aw_istore d_Su_join_55 (by decide) ?_
  exact aw_weak (lv' := [some (.ref a0), some (.int x1), some (.int x2), some (.int sx0), some (.int (0 : Int32)), none]) ⟨rfl, rfl, rfl, rfl, rfl, trivial⟩ w
set_option maxRecDepth 20000 in
theorem r_Su_join_57 {E : zE} {K n : Nat → Nat} {I : Nat → Nat → Int32} {F : Nat → Nat → Option Nat} {J : Nat → Nat → Int64} {cb sb : Nat} {Q : zO → zH → Prop} {a0 : Nat} {x1 : Int32} {x2 : Int32} {x3 : Int32} {x4 : Int32}
    (w : K a0 = 8 ∧ (∃ b2 : Nat, F a0 3 = some b2 ∧ K b2 = 5 ∧ (((I b2 1) ≤ x4 → (∃ b5 : Nat, F a0 6 = some b5 ∧ K b5 = 5 ∧ Q (.inl (some (.int (I b5 1)))) (K, n, I, F, J))) ∧ (¬ (I b2 1) ≤ x4 → AW E m_Rows_at (K, n, I, F, J) 0 0 (zAft E m_Su_join cb sb Q 75 [some (.ref a0), some (.int x1), some (.int x2), some (.int x3), some (.int x4), none] []) 0 [some (.ref b2), some (.int x4)] [])))) :
    AW E m_Su_join (K, n, I, F, J) cb sb Q 57 [some (.ref a0), some (.int x1), some (.int x2), some (.int x3), some (.int x4), none] [] := by
  refine aw_iload (x := x4) d_Su_join_57 rfl ?_
  refine aw_aload_n (x := a0) d_Su_join_59 rfl ?_
  obtain ⟨hk1, w⟩ := w
  obtain ⟨b2, hb2, w⟩ := w
  refine gs_Su_27 rfl hk1 hb2 d_Su_join_60 ?_
  obtain ⟨hk3, w⟩ := w
  refine gf_Su_95 rfl hk3 d_Su_join_63 ?_
  refine aw_icmp_ge (tgt := 121) d_Su_join_66 (by decide) (fun cc4 => ?_) (fun cc4 => ?_)
  · replace w := w.1 cc4
    refine aw_aload_n (x := a0) d_Su_join_121 rfl ?_
    obtain ⟨b5, hb5, w⟩ := w
    refine gs_Su_37 rfl hk1 hb5 d_Su_join_122 ?_
    obtain ⟨hk6, w⟩ := w
    refine gf_Su_95 rfl hk6 d_Su_join_125 ?_
    exact aw_ireturn .int rfl rfl d_Su_join_128 w
  · replace w := w.2 cc4
    refine aw_aload_n (x := a0) d_Su_join_69 rfl ?_
    refine gs_Su_27 rfl hk1 hb2 d_Su_join_70 ?_
    refine aw_iload (x := x4) d_Su_join_73 rfl ?_
    exact aw_room (cb' := 0 + cb) (sb' := 0 + sb) (by omega) (by omega) (aw_weak (lv' := [some (.ref a0), some (.int x1), some (.int x2), some (.int x3), some (.int x4), none]) ⟨rfl, rfl, rfl, rfl, rfl, trivial⟩ (aw_callV (M' := m_Rows_at) (lv0 := [some (.ref b2), some (.int x4)]) (As := [.int x4]) (rest := []) 4 617 618 620 rfl (by decide) rfl hk3 tb_617 tb_618 tb_620 (fun U hU => hU.t 619 tb_619 rfl) rfl rfl 1 0 rfl rfl ⟨by decide, by decide, by decide +kernel, by decide +kernel, by decide, by decide⟩ (Nat.le_of_ble_eq_true rfl) ⟨rfl, rfl, trivial⟩ rfl d_Su_join_75 w))
set_option maxRecDepth 20000 in
theorem r_Su_join_78 {E : zE} {K n : Nat → Nat} {I : Nat → Nat → Int32} {F : Nat → Nat → Option Nat} {J : Nat → Nat → Int64} {cb sb : Nat} {Q : zO → zH → Prop} {a0 : Nat} {x1 : Int32} {x2 : Int32} {x3 : Int32} {x4 : Int32} {sr0 : Option Nat}
    (w : ((sr0 = none → AW E m_Su_join (K, n, I, F, J) cb sb Q 57 [some (.ref a0), some (.int x1), some (.int x2), some (.int x3), some (.int (x4 + (1 : Int32))), none] []) ∧ (∀ z1 : Nat, sr0 = some z1 → K z1 = 4 ∧ ((¬ (I z1 2) = x1 → AW E m_Su_join (K, n, I, F, J) cb sb Q 57 [some (.ref a0), some (.int x1), some (.int x2), some (.int x3), some (.int (x4 + (1 : Int32))), none] []) ∧ ((I z1 2) = x1 → K a0 = 8 ∧ (∃ c1 s1 c2 s2 : Nat, c1 + c2 ≤ cb ∧ s1 + s2 ≤ sb ∧ AW E m_Su_joinWithAll (K, n, I, F, J) c1 s1 (zAft E m_Su_join c2 s2 Q 99 [some (.ref a0), some (.int x1), some (.int x2), some (.int x3), some (.int x4), some (.ref z1)] []) 0 [some (.ref a0), some (.ref z1), some (.int x2), some (.int x3), none, none, none, none] [])))))) :
    AW E m_Su_join (K, n, I, F, J) cb sb Q 78 [some (.ref a0), some (.int x1), some (.int x2), some (.int x3), some (.int x4), none] [va_rf sr0] := by
  refine aw_astoreR d_Su_join_78 (by decide) ?_
  refine aw_aloadR (r := sr0) d_Su_join_80 (by first | rfl | (cases sr0 <;> rfl)) ?_
  refine aw_ifnull (r := sr0) (tgt := 115) d_Su_join_82 (by decide) (fun cc2 => ?_) (fun z1 cc2 => ?_)
  · replace w := w.1 cc2
    subst cc2
    refine aw_iinc (v := (x4 + (1 : Int32))) d_Su_join_115 rfl (by rfl) (by decide) ?_
    refine aw_goto (tgt := 57) d_Su_join_118 (by decide) ?_
    exact aw_weak (lv' := [some (.ref a0), some (.int x1), some (.int x2), some (.int x3), some (.int (x4 + (1 : Int32))), none]) ⟨rfl, rfl, rfl, rfl, rfl, trivial⟩ w
  · replace w := w.2 z1 cc2
    subst cc2
    refine aw_aload (x := z1) d_Su_join_85 rfl ?_
    obtain ⟨hk3, w⟩ := w
    refine gf_Su_100 rfl hk3 d_Su_join_87 ?_
    refine aw_iload_n (x := x1) d_Su_join_90 rfl ?_
    refine aw_icmp_ne (tgt := 115) d_Su_join_91 (by decide) (fun cc4 => ?_) (fun cc4 => ?_)
    · replace w := w.1 cc4
      refine aw_iinc (v := (x4 + (1 : Int32))) d_Su_join_115 rfl (by rfl) (by decide) ?_
      refine aw_goto (tgt := 57) d_Su_join_118 (by decide) ?_
      exact aw_weak (lv' := [some (.ref a0), some (.int x1), some (.int x2), some (.int x3), some (.int (x4 + (1 : Int32))), none]) ⟨rfl, rfl, rfl, rfl, rfl, trivial⟩ w
    · replace w := w.2 cc4
      refine aw_aload_n (x := a0) d_Su_join_94 rfl ?_
      refine aw_aload (x := z1) d_Su_join_95 rfl ?_
      refine aw_iload_n (x := x2) d_Su_join_97 rfl ?_
      refine aw_iload_n (x := x3) d_Su_join_98 rfl ?_
      obtain ⟨hk5, w⟩ := w
      obtain ⟨c1, s1, c2, s2, hq1, hq2, w⟩ := w
      exact aw_room hq1 hq2 (aw_weak (lv' := [some (.ref a0), some (.int x1), some (.int x2), some (.int x3), some (.int x4), some (.ref z1)]) ⟨rfl, rfl, rfl, rfl, rfl, rfl, trivial⟩ (aw_callV (M' := m_Su_joinWithAll) (lv0 := [some (.ref a0), some (.ref z1), some (.int x2), some (.int x3), none, none, none, none]) (As := [.ref z1, .int x2, .int x3]) (rest := []) 7 759 761 762 rfl (by decide) rfl hk5 tb_759 tb_761 tb_762 (fun U hU => hU.p 30 rfl) rfl rfl 3 0 rfl rfl ⟨by decide, by decide, by decide +kernel, by decide +kernel, by decide, by decide⟩ (Nat.le_of_ble_eq_true rfl) ⟨rfl, rfl, rfl, rfl, trivial⟩ rfl d_Su_join_99 w))
set_option maxRecDepth 20000 in
theorem r_Su_join_102 {E : zE} {K n : Nat → Nat} {I : Nat → Nat → Int32} {F : Nat → Nat → Option Nat} {J : Nat → Nat → Int64} {cb sb : Nat} {Q : zO → zH → Prop} {a0 : Nat} {x1 : Int32} {x2 : Int32} {x3 : Int32} {x4 : Int32} {a5 : Nat} {sx0 : Int32}
    (w : ((¬ sx0 = 0 → AW E m_Su_join (K, n, I, F, J) cb sb Q 57 [some (.ref a0), some (.int x1), some (.int x2), some (.int x3), some (.int (x4 + (1 : Int32))), none] []) ∧ (sx0 = 0 → K a0 = 8 ∧ (∃ b3 : Nat, F a0 7 = some b3 ∧ K b3 = 10 ∧ (∃ c1 s1 c2 s2 : Nat, c1 + c2 ≤ cb ∧ s1 + s2 ≤ sb ∧ AW E m_ArrayList_add (K, n, I, F, J) c1 s1 (zAft E m_Su_join c2 s2 Q 111 [some (.ref a0), some (.int x1), some (.int x2), some (.int x3), some (.int x4), none] []) 0 [some (.ref b3), some (.ref a5)] []))))) :
    AW E m_Su_join (K, n, I, F, J) cb sb Q 102 [some (.ref a0), some (.int x1), some (.int x2), some (.int x3), some (.int x4), some (.ref a5)] [.int sx0] := by
  refine aw_if_ne (tgt := 115) d_Su_join_102 (by decide) (fun cc1 => ?_) (fun cc1 => ?_)
  · replace w := w.1 cc1
    refine aw_iinc (v := (x4 + (1 : Int32))) d_Su_join_115 rfl (by rfl) (by decide) ?_
    refine aw_goto (tgt := 57) d_Su_join_118 (by decide) ?_
    exact aw_weak (lv' := [some (.ref a0), some (.int x1), some (.int x2), some (.int x3), some (.int (x4 + (1 : Int32))), none]) ⟨rfl, rfl, rfl, rfl, rfl, trivial⟩ w
  · replace w := w.2 cc1
    refine aw_aload_n (x := a0) d_Su_join_105 rfl ?_
    obtain ⟨hk2, w⟩ := w
    obtain ⟨b3, hb3, w⟩ := w
    refine gs_Su_43 rfl hk2 hb3 d_Su_join_106 ?_
    refine aw_aload (x := a5) d_Su_join_109 rfl ?_
    obtain ⟨hk4, w⟩ := w
    obtain ⟨c1, s1, c2, s2, hq1, hq2, w⟩ := w
    exact aw_room hq1 hq2 (aw_weak (lv' := [some (.ref a0), some (.int x1), some (.int x2), some (.int x3), some (.int x4), none]) ⟨rfl, rfl, rfl, rfl, rfl, trivial⟩ (aw_callV (M' := m_ArrayList_add) (lv0 := [some (.ref b3), some (.ref a5)]) (As := [.ref a5]) (rest := []) 9 769 457 459 rfl (by decide) rfl hk4 tb_769 tb_457 tb_459 (fun U hU => hU.t 458 tb_458 rfl) rfl rfl 1 0 rfl rfl ⟨by decide, by decide, by decide +kernel, by decide +kernel, by decide, by decide⟩ (Nat.le_of_ble_eq_true rfl) ⟨rfl, rfl, trivial⟩ rfl d_Su_join_111 w))
set_option maxRecDepth 20000 in
theorem r_Su_join_114 {E : zE} {K n : Nat → Nat} {I : Nat → Nat → Int32} {F : Nat → Nat → Option Nat} {J : Nat → Nat → Int64} {cb sb : Nat} {Q : zO → zH → Prop} {a0 : Nat} {x1 : Int32} {x2 : Int32} {x3 : Int32} {x4 : Int32} {sx0 : Int32}
    (w : AW E m_Su_join (K, n, I, F, J) cb sb Q 57 [some (.ref a0), some (.int x1), some (.int x2), some (.int x3), some (.int (x4 + (1 : Int32))), none] []) :
    AW E m_Su_join (K, n, I, F, J) cb sb Q 114 [some (.ref a0), some (.int x1), some (.int x2), some (.int x3), some (.int x4), none] [.int sx0] := by
  refine aw_pop d_Su_join_114 rfl ?_
  refine aw_iinc (v := (x4 + (1 : Int32))) d_Su_join_115 rfl (by rfl) (by decide) ?_
  refine aw_goto (tgt := 57) d_Su_join_118 (by decide) ?_
  exact aw_weak (lv' := [some (.ref a0), some (.int x1), some (.int x2), some (.int x3), some (.int (x4 + (1 : Int32))), none]) ⟨rfl, rfl, rfl, rfl, rfl, trivial⟩ w
set_option maxRecDepth 20000 in
theorem r_Su_left_0 {E : zE} {K n : Nat → Nat} {I : Nat → Nat → Int32} {F : Nat → Nat → Option Nat} {J : Nat → Nat → Int64} {cb sb : Nat} {Q : zO → zH → Prop} {a0 : Nat} {x1 : Int32}
    (w : ((x1 < 0 → Q (.inl (some (.int ((-1) : Int32)))) (K, n, I, F, J)) ∧ (¬ x1 < 0 → K a0 = 8 ∧ (∃ b3 : Nat, F a0 7 = some b3 ∧ K b3 = 10 ∧ AW E m_ArrayList_size (K, n, I, F, J) 0 0 (zAft E m_Su_left cb sb Q 9 [some (.ref a0), some (.int x1)] [.int x1]) 0 [some (.ref b3)] [])))) :
    AW E m_Su_left (K, n, I, F, J) cb sb Q 0 [some (.ref a0), some (.int x1)] [] := by
  refine aw_iload_n (x := x1) d_Su_left_0 rfl ?_
  refine aw_if_lt (tgt := 32) d_Su_left_1 (by decide) (fun cc1 => ?_) (fun cc1 => ?_)
  · replace w := w.1 cc1
    refine aw_iconst (v := ((-1) : Int32)) d_Su_left_32 (by decide) ?_
    exact aw_ireturn .int rfl rfl d_Su_left_33 w
  · replace w := w.2 cc1
    refine aw_iload_n (x := x1) d_Su_left_4 rfl ?_
    refine aw_aload_n (x := a0) d_Su_left_5 rfl ?_
    obtain ⟨hk2, w⟩ := w
    obtain ⟨b3, hb3, w⟩ := w
    refine gs_Su_43 rfl hk2 hb3 d_Su_left_6 ?_
    obtain ⟨hk4, w⟩ := w
    exact aw_room (cb' := 0 + cb) (sb' := 0 + sb) (by omega) (by omega) (aw_weak (lv' := [some (.ref a0), some (.int x1)]) ⟨rfl, rfl, trivial⟩ (aw_callV (M' := m_ArrayList_size) (lv0 := [some (.ref b3)]) (As := []) (rest := [.int x1]) 9 656 515 517 rfl (by decide) rfl hk4 tb_656 tb_515 tb_517 (fun U hU => hU.t 516 tb_516 rfl) rfl rfl 0 1 rfl rfl ⟨by decide, by decide, by decide +kernel, by decide +kernel, by decide, by decide⟩ (Nat.le_of_ble_eq_true rfl) ⟨rfl, trivial⟩ rfl d_Su_left_9 w))
set_option maxRecDepth 20000 in
theorem r_Su_left_12 {E : zE} {K n : Nat → Nat} {I : Nat → Nat → Int32} {F : Nat → Nat → Option Nat} {J : Nat → Nat → Int64} {cb sb : Nat} {Q : zO → zH → Prop} {a0 : Nat} {x1 : Int32} {sx0 : Int32} {sx1 : Int32}
    (w : ((sx1 ≤ sx0 → Q (.inl (some (.int ((-1) : Int32)))) (K, n, I, F, J)) ∧ (¬ sx1 ≤ sx0 → K a0 = 8 ∧ (∃ b3 : Nat, F a0 7 = some b3 ∧ K b3 = 10 ∧ AW E m_ArrayList_get (K, n, I, F, J) 0 0 (zAft E m_Su_left cb sb Q 20 [none, none] []) 0 [some (.ref b3), some (.int x1)] [])))) :
    AW E m_Su_left (K, n, I, F, J) cb sb Q 12 [some (.ref a0), some (.int x1)] [.int sx1, .int sx0] := by
  refine aw_icmp_ge (tgt := 32) d_Su_left_12 (by decide) (fun cc1 => ?_) (fun cc1 => ?_)
  · replace w := w.1 cc1
    refine aw_iconst (v := ((-1) : Int32)) d_Su_left_32 (by decide) ?_
    exact aw_ireturn .int rfl rfl d_Su_left_33 w
  · replace w := w.2 cc1
    refine aw_aload_n (x := a0) d_Su_left_15 rfl ?_
    obtain ⟨hk2, w⟩ := w
    obtain ⟨b3, hb3, w⟩ := w
    refine gs_Su_43 rfl hk2 hb3 d_Su_left_16 ?_
    refine aw_iload_n (x := x1) d_Su_left_19 rfl ?_
    obtain ⟨hk4, w⟩ := w
    exact aw_room (cb' := 0 + cb) (sb' := 0 + sb) (by omega) (by omega) (aw_weak (lv' := [none, none]) trivial (aw_callV (M' := m_ArrayList_get) (lv0 := [some (.ref b3), some (.int x1)]) (As := [.int x1]) (rest := []) 9 657 590 592 rfl (by decide) rfl hk4 tb_657 tb_590 tb_592 (fun U hU => hU.t 591 tb_591 rfl) rfl rfl 1 0 rfl rfl ⟨by decide, by decide, by decide +kernel, by decide +kernel, by decide, by decide⟩ (Nat.le_of_ble_eq_true rfl) ⟨rfl, rfl, trivial⟩ rfl d_Su_left_20 w))
set_option maxRecDepth 20000 in
theorem r_Su_left_23 {E : zE} {K n : Nat → Nat} {I : Nat → Nat → Int32} {F : Nat → Nat → Option Nat} {J : Nat → Nat → Int64} {cb sb : Nat} {Q : zO → zH → Prop} {sa0 : Nat}
    (w : K sa0 = 4 ∧ Q (.inl (some (.int (I sa0 3)))) (K, n, I, F, J)) :
    AW E m_Su_left (K, n, I, F, J) cb sb Q 23 [none, none] [.ref sa0] := by
  obtain ⟨hk1, w⟩ := w
  refine aw_castO 3 128 rfl (by decide) tb_128 hk1 d_Su_left_23 ?_
  refine gf_Su_103 rfl hk1 d_Su_left_26 ?_
  refine aw_goto (tgt := 33) d_Su_left_29 (by decide) ?_
  exact aw_ireturn .int rfl rfl d_Su_left_33 w
set_option maxRecDepth 20000 in
theorem r_Su_code_0 {E : zE} {K n : Nat → Nat} {I : Nat → Nat → Int32} {F : Nat → Nat → Option Nat} {J : Nat → Nat → Int64} {cb sb : Nat} {Q : zO → zH → Prop} {a0 : Nat}
    (w : K a0 = 8 ∧ Q (.inl (some (.int (I a0 14)))) (K, n, I, F, J)) :
    AW E m_Su_code (K, n, I, F, J) cb sb Q 0 [some (.ref a0)] [] := by
  refine aw_aload_n (x := a0) d_Su_code_0 rfl ?_
  obtain ⟨hk1, w⟩ := w
  refine gf_Su_71 rfl hk1 d_Su_code_1 ?_
  exact aw_ireturn .int rfl rfl d_Su_code_4 w
set_option maxRecDepth 20000 in
theorem r_Su_exit_0 {E : zE} {K n : Nat → Nat} {I : Nat → Nat → Int32} {F : Nat → Nat → Option Nat} {J : Nat → Nat → Int64} {cb sb : Nat} {Q : zO → zH → Prop} {a0 : Nat} {x1 : Int32} {x2 : Int32}
    (w : ((x1 < 0 → Q (.inl (some (.int ((-1) : Int32)))) (K, n, I, F, J)) ∧ (¬ x1 < 0 → ((x1 ≤ (2 : Int32) → K a0 = 8 ∧ (x2 = 0 ∨ x2 = 1) ∧ Q (.inl (some (.int (I a0 8)))) (K, n, (zup (zup I a0 8 x1) a0 9 x2), F, J)) ∧ (¬ x1 ≤ (2 : Int32) → Q (.inl (some (.int ((-1) : Int32)))) (K, n, I, F, J)))))) :
    AW E m_Su_exit (K, n, I, F, J) cb sb Q 0 [some (.ref a0), some (.int x1), some (.int x2), none] [] := by
  refine aw_iload_n (x := x1) d_Su_exit_0 rfl ?_
  refine aw_if_lt (tgt := 9) d_Su_exit_1 (by decide) (fun cc1 => ?_) (fun cc1 => ?_)
  · replace w := w.1 cc1
    refine aw_iconst (v := ((-1) : Int32)) d_Su_exit_9 (by decide) ?_
    exact aw_ireturn .int rfl rfl d_Su_exit_10 w
  · replace w := w.2 cc1
    refine aw_iload_n (x := x1) d_Su_exit_4 rfl ?_
    refine aw_iconst (v := (2 : Int32)) d_Su_exit_5 (by decide) ?_
    refine aw_icmp_le (tgt := 11) d_Su_exit_6 (by decide) (fun cc2 => ?_) (fun cc2 => ?_)
    · replace w := w.1 cc2
      refine aw_aload_n (x := a0) d_Su_exit_11 rfl ?_
      obtain ⟨hk3, w⟩ := w
      refine gf_Su_47 rfl hk3 d_Su_exit_12 ?_
      refine aw_istore_n d_Su_exit_15 (by decide) ?_
      refine aw_aload_n (x := a0) d_Su_exit_16 rfl ?_
      refine aw_iload_n (x := x1) d_Su_exit_17 rfl ?_
      refine pf_Su_47 rfl hk3 d_Su_exit_18 ?_
      refine aw_aload_n (x := a0) d_Su_exit_21 rfl ?_
      refine aw_iload_n (x := x2) d_Su_exit_22 rfl ?_
      obtain ⟨hz4, w⟩ := w
      refine pf_Su_50 rfl hk3 hz4 d_Su_exit_23 ?_
      refine aw_iload_n (x := (I a0 8)) d_Su_exit_26 rfl ?_
      exact aw_ireturn .int rfl rfl d_Su_exit_27 w
    · replace w := w.2 cc2
      refine aw_iconst (v := ((-1) : Int32)) d_Su_exit_9 (by decide) ?_
      exact aw_ireturn .int rfl rfl d_Su_exit_10 w
set_option maxRecDepth 20000 in
theorem r_Su_total_0 {E : zE} {K n : Nat → Nat} {I : Nat → Nat → Int32} {F : Nat → Nat → Option Nat} {J : Nat → Nat → Int64} {cb sb : Nat} {Q : zO → zH → Prop} {a0 : Nat} {x1 : Int32} {x2 : Int32}
    (w : K a0 = 8 ∧ AW E m_Su_outputRow (K, n, I, F, J) 0 0 (zAft E m_Su_total cb sb Q 3 [none, none, none, none, none, none] []) 0 [some (.ref a0), some (.int x1), some (.int x2), none] []) :
    AW E m_Su_total (K, n, I, F, J) cb sb Q 0 [some (.ref a0), some (.int x1), some (.int x2), none, none, none] [] := by
  refine aw_aload_n (x := a0) d_Su_total_0 rfl ?_
  refine aw_iload_n (x := x1) d_Su_total_1 rfl ?_
  refine aw_iload_n (x := x2) d_Su_total_2 rfl ?_
  obtain ⟨hk1, w⟩ := w
  exact aw_room (cb' := 0 + cb) (sb' := 0 + sb) (by omega) (by omega) (aw_weak (lv' := [none, none, none, none, none, none]) trivial (aw_callV (M' := m_Su_outputRow) (lv0 := [some (.ref a0), some (.int x1), some (.int x2), none]) (As := [.int x1, .int x2]) (rest := []) 7 739 741 742 rfl (by decide) rfl hk1 tb_739 tb_741 tb_742 (fun U hU => hU.p 27 rfl) rfl rfl 2 0 rfl rfl ⟨by decide, by decide, by decide +kernel, by decide +kernel, by decide, by decide⟩ (Nat.le_of_ble_eq_true rfl) ⟨rfl, rfl, rfl, trivial⟩ rfl d_Su_total_3 w))
set_option maxRecDepth 20000 in
theorem r_Su_total_6 {E : zE} {K n : Nat → Nat} {I : Nat → Nat → Int32} {F : Nat → Nat → Option Nat} {J : Nat → Nat → Int64} {cb sb : Nat} {Q : zO → zH → Prop} {sr0 : Option Nat}
    (w : ((sr0 = none → Q (.inl (some (.int ((-1) : Int32)))) (K, n, I, F, J)) ∧ (∀ z1 : Nat, sr0 = some z1 → AW E m_Su_total (K, n, I, F, J) cb sb Q 19 [none, none, none, some (.ref z1), some (.int (0 : Int32)), some (.int (0 : Int32))] []))) :
    AW E m_Su_total (K, n, I, F, J) cb sb Q 6 [none, none, none, none, none, none] [va_rf sr0] := by
  refine aw_astore_nR d_Su_total_6 (by decide) ?_
  refine aw_aload_nR (r := sr0) d_Su_total_7 (by first | rfl | (cases sr0 <;> rfl)) ?_
  refine aw_ifnonnull (r := sr0) (tgt := 13) d_Su_total_8 (by decide) (fun z1 cc2 => ?_) (fun cc2 => ?_)
  · replace w := w.2 z1 cc2
    subst cc2
    refine aw_iconst (v := (0 : Int32)) d_Su_total_13 (by decide) ?_
    refine aw_istore d_Su_total_14 (by decide) ?_
    refine aw_iconst (v := (0 : Int32)) d_Su_total_16 (by decide) ?_
    refine aw_istore d_Su_total_17 (by decide) ?_
    exact aw_weak (lv' := [none, none, none, some (.ref z1), some (.int (0 : Int32)), some (.int (0 : Int32))]) ⟨rfl, rfl, rfl, trivial⟩ w
  · replace w := w.1 cc2
    subst cc2
    refine aw_iconst (v := ((-1) : Int32)) d_Su_total_11 (by decide) ?_
    exact aw_ireturn .int rfl rfl d_Su_total_12 w
set_option maxRecDepth 20000 in
theorem r_Su_total_19 {E : zE} {K n : Nat → Nat} {I : Nat → Nat → Int32} {F : Nat → Nat → Option Nat} {J : Nat → Nat → Int64} {cb sb : Nat} {Q : zO → zH → Prop} {a3 : Nat} {x4 : Int32} {x5 : Int32}
    (w : K a3 = 4 ∧ (((I a3 1) ≤ x5 → Q (.inl (some (.int x4))) (K, n, I, F, J)) ∧ (¬ (I a3 1) ≤ x5 → AW E m_Row_octetAt (K, n, I, F, J) 0 0 (zAft E m_Su_total cb sb Q 33 [none, none, none, some (.ref a3), none, some (.int x5)] [.int x4]) 0 [some (.ref a3), some (.int x5)] []))) :
    AW E m_Su_total (K, n, I, F, J) cb sb Q 19 [none, none, none, some (.ref a3), some (.int x4), some (.int x5)] [] := by
  refine aw_iload (x := x5) d_Su_total_19 rfl ?_
  refine aw_aload_n (x := a3) d_Su_total_21 rfl ?_
  obtain ⟨hk1, w⟩ := w
  refine gf_Su_134 rfl hk1 d_Su_total_22 ?_
  refine aw_icmp_ge (tgt := 45) d_Su_total_25 (by decide) (fun cc2 => ?_) (fun cc2 => ?_)
  · replace w := w.1 cc2
    refine aw_iload (x := x4) d_Su_total_45 rfl ?_
    exact aw_ireturn .int rfl rfl d_Su_total_47 w
  · replace w := w.2 cc2
    refine aw_iload (x := x4) d_Su_total_28 rfl ?_
    refine aw_aload_n (x := a3) d_Su_total_30 rfl ?_
    refine aw_iload (x := x5) d_Su_total_31 rfl ?_
    exact aw_room (cb' := 0 + cb) (sb' := 0 + sb) (by omega) (by omega) (aw_weak (lv' := [none, none, none, some (.ref a3), none, some (.int x5)]) ⟨rfl, rfl, trivial⟩ (aw_callV (M' := m_Row_octetAt) (lv0 := [some (.ref a3), some (.int x5)]) (As := [.int x5]) (rest := [.int x4]) 3 721 644 646 rfl (by decide) rfl hk1 tb_721 tb_644 tb_646 (fun U hU => hU.t 645 tb_645 rfl) rfl rfl 1 1 rfl rfl ⟨by decide, by decide, by decide +kernel, by decide +kernel, by decide, by decide⟩ (Nat.le_of_ble_eq_true rfl) ⟨rfl, rfl, trivial⟩ rfl d_Su_total_33 w))
set_option maxRecDepth 20000 in
theorem r_Su_total_36 {E : zE} {K n : Nat → Nat} {I : Nat → Nat → Int32} {F : Nat → Nat → Option Nat} {J : Nat → Nat → Int64} {cb sb : Nat} {Q : zO → zH → Prop} {a3 : Nat} {x5 : Int32} {sx0 : Int32} {sx1 : Int32}
    (w : AW E m_Su_total (K, n, I, F, J) cb sb Q 19 [none, none, none, some (.ref a3), some (.int (sx0 + sx1)), some (.int (x5 + (1 : Int32)))] []) :
    AW E m_Su_total (K, n, I, F, J) cb sb Q 36 [none, none, none, some (.ref a3), none, some (.int x5)] [.int sx1, .int sx0] := by
  refine aw_iadd d_Su_total_36 ?_
  refine aw_istore d_Su_total_37 (by decide) ?_
  refine aw_iinc (v := (x5 + (1 : Int32))) d_Su_total_39 rfl (by rfl) (by decide) ?_
  refine aw_goto (tgt := 19) d_Su_total_42 (by decide) ?_
  exact aw_weak (lv' := [none, none, none, some (.ref a3), some (.int (sx0 + sx1)), some (.int (x5 + (1 : Int32)))]) ⟨rfl, rfl, rfl, trivial⟩ w
set_option maxRecDepth 20000 in
theorem r_Su_plain_0 {E : zE} {K n : Nat → Nat} {I : Nat → Nat → Int32} {F : Nat → Nat → Option Nat} {J : Nat → Nat → Int64} {cb sb : Nat} {Q : zO → zH → Prop} {a0 : Nat} {x1 : Int32}
    (w : K a0 = 8 ∧ AW E m_Su_outputRows (K, n, I, F, J) 0 0 (zAft E m_Su_plain cb sb Q 2 [some (.ref a0), none, none, none, none, none] []) 0 [some (.ref a0), some (.int x1)] []) :
    AW E m_Su_plain (K, n, I, F, J) cb sb Q 0 [some (.ref a0), some (.int x1), none, none, none, none] [] := by
  refine aw_aload_n (x := a0) d_Su_plain_0 rfl ?_
  refine aw_iload_n (x := x1) d_Su_plain_1 rfl ?_
  obtain ⟨hk1, w⟩ := w
  exact aw_room (cb' := 0 + cb) (sb' := 0 + sb) (by omega) (by omega) (aw_weak (lv' := [some (.ref a0), none, none, none, none, none]) ⟨rfl, trivial⟩ (aw_callV (M' := m_Su_outputRows) (lv0 := [some (.ref a0), some (.int x1)]) (As := [.int x1]) (rest := []) 7 743 745 746 rfl (by decide) rfl hk1 tb_743 tb_745 tb_746 (fun U hU => hU.p 28 rfl) rfl rfl 1 0 rfl rfl ⟨by decide, by decide, by decide +kernel, by decide +kernel, by decide, by decide⟩ (Nat.le_of_ble_eq_true rfl) ⟨rfl, rfl, trivial⟩ rfl d_Su_plain_2 w))
set_option maxRecDepth 20000 in
theorem r_Su_plain_5 {E : zE} {K n : Nat → Nat} {I : Nat → Nat → Int32} {F : Nat → Nat → Option Nat} {J : Nat → Nat → Int64} {cb sb : Nat} {Q : zO → zH → Prop} {a0 : Nat} {sr0 : Option Nat}
    (w : ((sr0 = none → Q (.inl (some (.int (1 : Int32)))) (K, n, I, F, J)) ∧ (∀ z1 : Nat, sr0 = some z1 → AW E m_Su_plain (K, n, I, F, J) cb sb Q 14 [some (.ref a0), none, some (.ref z1), some (.int (1 : Int32)), none, none] []))) :
    AW E m_Su_plain (K, n, I, F, J) cb sb Q 5 [some (.ref a0), none, none, none, none, none] [va_rf sr0] := by
  refine aw_astore_nR d_Su_plain_5 (by decide) ?_
  refine aw_aload_nR (r := sr0) d_Su_plain_6 (by first | rfl | (cases sr0 <;> rfl)) ?_
  refine aw_ifnonnull (r := sr0) (tgt := 12) d_Su_plain_7 (by decide) (fun z1 cc2 => ?_) (fun cc2 => ?_)
  · replace w := w.2 z1 cc2
    subst cc2
    refine aw_iconst (v := (1 : Int32)) d_Su_plain_12 (by decide) ?_
    refine aw_istore_n d_Su_plain_13 (by decide) ?_
    exact aw_weak (lv' := [some (.ref a0), none, some (.ref z1), some (.int (1 : Int32)), none, none]) ⟨rfl, rfl, rfl, trivial⟩ w
  · replace w := w.1 cc2
    subst cc2
    refine aw_iconst (v := (1 : Int32)) d_Su_plain_10 (by decide) ?_
    exact aw_ireturn .boolean rfl rfl d_Su_plain_11 w
set_option maxRecDepth 20000 in
theorem r_Su_plain_14 {E : zE} {K n : Nat → Nat} {I : Nat → Nat → Int32} {F : Nat → Nat → Option Nat} {J : Nat → Nat → Int64} {cb sb : Nat} {Q : zO → zH → Prop} {a0 : Nat} {a2 : Nat} {x3 : Int32}
    (w : K a2 = 5 ∧ (((I a2 1) ≤ x3 → Q (.inl (some (.int (1 : Int32)))) (K, n, I, F, J)) ∧ (¬ (I a2 1) ≤ x3 → AW E m_Rows_at (K, n, I, F, J) 0 0 (zAft E m_Su_plain cb sb Q 26 [some (.ref a0), none, some (.ref a2), some (.int x3), none, none] []) 0 [some (.ref a2), some (.int (x3 - (1 : Int32)))] []))) :
    AW E m_Su_plain (K, n, I, F, J) cb sb Q 14 [some (.ref a0), none, some (.ref a2), some (.int x3), none, none] [] := by
  refine aw_iload_n (x := x3) d_Su_plain_14 rfl ?_
  refine aw_aload_n (x := a2) d_Su_plain_15 rfl ?_
  obtain ⟨hk1, w⟩ := w
  refine gf_Su_95 rfl hk1 d_Su_plain_16 ?_
  refine aw_icmp_ge (tgt := 70) d_Su_plain_19 (by decide) (fun cc2 => ?_) (fun cc2 => ?_)
  · replace w := w.1 cc2
    refine aw_iconst (v := (1 : Int32)) d_Su_plain_70 (by decide) ?_
    exact aw_ireturn .boolean rfl rfl d_Su_plain_71 w
  · replace w := w.2 cc2
    refine aw_aload_n (x := a2) d_Su_plain_22 rfl ?_
    refine aw_iload_n (x := x3) d_Su_plain_23 rfl ?_
    refine aw_iconst (v := (1 : Int32)) d_Su_plain_24 (by decide) ?_
    refine aw_isub d_Su_plain_25 ?_
    exact aw_room (cb' := 0 + cb) (sb' := 0 + sb) (by omega) (by omega) (aw_weak (lv' := [some (.ref a0), none, some (.ref a2), some (.int x3), none, none]) ⟨rfl, rfl, rfl, trivial⟩ (aw_callV (M' := m_Rows_at) (lv0 := [some (.ref a2), some (.int (x3 - (1 : Int32)))]) (As := [.int (x3 - (1 : Int32))]) (rest := []) 4 617 618 620 rfl (by decide) rfl hk1 tb_617 tb_618 tb_620 (fun U hU => hU.t 619 tb_619 rfl) rfl rfl 1 0 rfl rfl ⟨by decide, by decide, by decide +kernel, by decide +kernel, by decide, by decide⟩ (Nat.le_of_ble_eq_true rfl) ⟨rfl, rfl, trivial⟩ rfl d_Su_plain_26 w))
set_option maxRecDepth 20000 in
theorem r_Su_plain_29 {E : zE} {K n : Nat → Nat} {I : Nat → Nat → Int32} {F : Nat → Nat → Option Nat} {J : Nat → Nat → Int64} {cb sb : Nat} {Q : zO → zH → Prop} {a0 : Nat} {a2 : Nat} {x3 : Int32} {sr0 : Option Nat}
    (w : K a2 = 5 ∧ AW E m_Rows_at (K, n, I, F, J) 0 0 (zAft E m_Su_plain cb sb Q 33 [some (.ref a0), none, some (.ref a2), some (.int x3), some (va_rf sr0), none] []) 0 [some (.ref a2), some (.int x3)] []) :
    AW E m_Su_plain (K, n, I, F, J) cb sb Q 29 [some (.ref a0), none, some (.ref a2), some (.int x3), none, none] [va_rf sr0] := by
  refine aw_astoreR d_Su_plain_29 (by decide) ?_
  refine aw_aload_n (x := a2) d_Su_plain_31 rfl ?_
  refine aw_iload_n (x := x3) d_Su_plain_32 rfl ?_
  obtain ⟨hk1, w⟩ := w
  exact aw_room (cb' := 0 + cb) (sb' := 0 + sb) (by omega) (by omega) (aw_weak (lv' := [some (.ref a0), none, some (.ref a2), some (.int x3), some (va_rf sr0), none]) ⟨rfl, rfl, rfl, rfl, trivial⟩ (aw_callV (M' := m_Rows_at) (lv0 := [some (.ref a2), some (.int x3)]) (As := [.int x3]) (rest := []) 4 617 618 620 rfl (by decide) rfl hk1 tb_617 tb_618 tb_620 (fun U hU => hU.t 619 tb_619 rfl) rfl rfl 1 0 rfl rfl ⟨by decide, by decide, by decide +kernel, by decide +kernel, by decide, by decide⟩ (Nat.le_of_ble_eq_true rfl) ⟨rfl, rfl, trivial⟩ rfl d_Su_plain_33 w))
set_option maxRecDepth 20000 in
theorem r_Su_plain_36 {E : zE} {K n : Nat → Nat} {I : Nat → Nat → Int32} {F : Nat → Nat → Option Nat} {J : Nat → Nat → Int64} {cb sb : Nat} {Q : zO → zH → Prop} {a0 : Nat} {a2 : Nat} {x3 : Int32} {r4 : Option Nat} {sr0 : Option Nat}
    (w : ((r4 = none → AW E m_Su_plain (K, n, I, F, J) cb sb Q 14 [some (.ref a0), none, some (.ref a2), some (.int (x3 + (1 : Int32))), none, none] []) ∧ (∀ z1 : Nat, r4 = some z1 → ((sr0 = none → AW E m_Su_plain (K, n, I, F, J) cb sb Q 14 [some (.ref a0), none, some (.ref a2), some (.int (x3 + (1 : Int32))), none, none] []) ∧ (∀ z3 : Nat, sr0 = some z3 → K a0 = 8 ∧ (∃ b6 : Nat, F a0 2 = some b6 ∧ K b6 = 6 ∧ AW E m_Statements_compareRows (K, n, I, F, J) 0 0 (zAft E m_Su_plain cb sb Q 56 [some (.ref a0), none, some (.ref a2), some (.int x3), none, none] []) 0 [some (.ref b6), some (.ref z1), some (.ref z3), none, none, none] [])))))) :
    AW E m_Su_plain (K, n, I, F, J) cb sb Q 36 [some (.ref a0), none, some (.ref a2), some (.int x3), some (va_rf r4), none] [va_rf sr0] := by
  refine aw_astoreR d_Su_plain_36 (by decide) ?_
  refine aw_aloadR (r := r4) d_Su_plain_38 (by first | rfl | (cases r4 <;> rfl)) ?_
  refine aw_ifnull (r := r4) (tgt := 64) d_Su_plain_40 (by decide) (fun cc2 => ?_) (fun z1 cc2 => ?_)
  · replace w := w.1 cc2
    subst cc2
    refine aw_iinc (v := (x3 + (1 : Int32))) d_Su_plain_64 rfl (by rfl) (by decide) ?_
    refine aw_goto (tgt := 14) d_Su_plain_67 (by decide) ?_
    exact aw_weak (lv' := [some (.ref a0), none, some (.ref a2), some (.int (x3 + (1 : Int32))), none, none]) ⟨rfl, rfl, rfl, trivial⟩ w
  · replace w := w.2 z1 cc2
    subst cc2
    refine aw_aloadR (r := sr0) d_Su_plain_43 (by first | rfl | (cases sr0 <;> rfl)) ?_
    refine aw_ifnull (r := sr0) (tgt := 64) d_Su_plain_45 (by decide) (fun cc4 => ?_) (fun z3 cc4 => ?_)
    · replace w := w.1 cc4
      subst cc4
      refine aw_iinc (v := (x3 + (1 : Int32))) d_Su_plain_64 rfl (by rfl) (by decide) ?_
      refine aw_goto (tgt := 14) d_Su_plain_67 (by decide) ?_
      exact aw_weak (lv' := [some (.ref a0), none, some (.ref a2), some (.int (x3 + (1 : Int32))), none, none]) ⟨rfl, rfl, rfl, trivial⟩ w
    · replace w := w.2 z3 cc4
      subst cc4
      refine aw_aload_n (x := a0) d_Su_plain_48 rfl ?_
      obtain ⟨hk5, w⟩ := w
      obtain ⟨b6, hb6, w⟩ := w
      refine gs_Su_20 rfl hk5 hb6 d_Su_plain_49 ?_
      refine aw_aload (x := z1) d_Su_plain_52 rfl ?_
      refine aw_aload (x := z3) d_Su_plain_54 rfl ?_
      obtain ⟨hk7, w⟩ := w
      exact aw_room (cb' := 0 + cb) (sb' := 0 + sb) (by omega) (by omega) (aw_weak (lv' := [some (.ref a0), none, some (.ref a2), some (.int x3), none, none]) ⟨rfl, rfl, rfl, trivial⟩ (aw_callV (M' := m_Statements_compareRows) (lv0 := [some (.ref b6), some (.ref z1), some (.ref z3), none, none, none]) (As := [.ref z1, .ref z3]) (rest := []) 5 658 659 661 rfl (by decide) rfl hk7 tb_658 tb_659 tb_661 (fun U hU => hU.t 660 tb_660 rfl) rfl rfl 2 0 rfl rfl ⟨by decide, by decide, by decide +kernel, by decide +kernel, by decide, by decide⟩ (Nat.le_of_ble_eq_true rfl) ⟨rfl, rfl, rfl, trivial⟩ rfl d_Su_plain_56 w))
set_option maxRecDepth 20000 in
theorem r_Su_plain_59 {E : zE} {K n : Nat → Nat} {I : Nat → Nat → Int32} {F : Nat → Nat → Option Nat} {J : Nat → Nat → Int64} {cb sb : Nat} {Q : zO → zH → Prop} {a0 : Nat} {a2 : Nat} {x3 : Int32} {sx0 : Int32}
    (w : ((sx0 ≤ 0 → AW E m_Su_plain (K, n, I, F, J) cb sb Q 14 [some (.ref a0), none, some (.ref a2), some (.int (x3 + (1 : Int32))), none, none] []) ∧ (¬ sx0 ≤ 0 → Q (.inl (some (.int (0 : Int32)))) (K, n, I, F, J)))) :
    AW E m_Su_plain (K, n, I, F, J) cb sb Q 59 [some (.ref a0), none, some (.ref a2), some (.int x3), none, none] [.int sx0] := by
  refine aw_if_le (tgt := 64) d_Su_plain_59 (by decide) (fun cc1 => ?_) (fun cc1 => ?_)
  · replace w := w.1 cc1
    refine aw_iinc (v := (x3 + (1 : Int32))) d_Su_plain_64 rfl (by rfl) (by decide) ?_
    refine aw_goto (tgt := 14) d_Su_plain_67 (by decide) ?_
    exact aw_weak (lv' := [some (.ref a0), none, some (.ref a2), some (.int (x3 + (1 : Int32))), none, none]) ⟨rfl, rfl, rfl, trivial⟩ w
  · replace w := w.2 cc1
    refine aw_iconst (v := (0 : Int32)) d_Su_plain_62 (by decide) ?_
    exact aw_ireturn .boolean rfl rfl d_Su_plain_63 w
set_option maxRecDepth 20000 in
theorem r_Su_count_0 {E : zE} {K n : Nat → Nat} {I : Nat → Nat → Int32} {F : Nat → Nat → Option Nat} {J : Nat → Nat → Int64} {cb sb : Nat} {Q : zO → zH → Prop} {a0 : Nat} {x1 : Int32}
    (w : ((x1 = 0 → K a0 = 8 ∧ (∃ b3 : Nat, F a0 2 = some b3 ∧ K b3 = 6 ∧ Q (.inl (some (.int (I b3 7)))) (K, n, I, F, J))) ∧ (x1 = 1 → K a0 = 8 ∧ (∃ b6 : Nat, F a0 3 = some b6 ∧ K b6 = 5 ∧ Q (.inl (some (.int (I b6 1)))) (K, n, I, F, J))) ∧ (x1 = 2 → K a0 = 8 ∧ (∃ b9 : Nat, F a0 2 = some b9 ∧ K b9 = 6 ∧ (∃ b11 : Nat, F b9 0 = some b11 ∧ K b11 = 10 ∧ AW E m_ArrayList_size (K, n, I, F, J) 0 0 (zAft E m_Su_count cb sb Q 75 [none, none] []) 0 [some (.ref b11)] []))) ∧ (x1 = 3 → K a0 = 8 ∧ (∃ b14 : Nat, F a0 2 = some b14 ∧ K b14 = 6 ∧ (∃ b16 : Nat, F b14 1 = some b16 ∧ K b16 = 10 ∧ AW E m_ArrayList_size (K, n, I, F, J) 0 0 (zAft E m_Su_count cb sb Q 86 [none, none] []) 0 [some (.ref b16)] []))) ∧ (x1 = 4 → K a0 = 8 ∧ (∃ b19 : Nat, F a0 2 = some b19 ∧ K b19 = 6 ∧ (∃ b21 : Nat, F b19 2 = some b21 ∧ K b21 = 10 ∧ AW E m_ArrayList_size (K, n, I, F, J) 0 0 (zAft E m_Su_count cb sb Q 97 [none, none] []) 0 [some (.ref b21)] []))) ∧ (x1 = 5 → K a0 = 8 ∧ (∃ b24 : Nat, F a0 2 = some b24 ∧ K b24 = 6 ∧ (∃ b26 : Nat, F b24 3 = some b26 ∧ K b26 = 10 ∧ AW E m_ArrayList_size (K, n, I, F, J) 0 0 (zAft E m_Su_count cb sb Q 108 [none, none] []) 0 [some (.ref b26)] []))) ∧ (x1 = 6 → K a0 = 8 ∧ (∃ b29 : Nat, F a0 4 = some b29 ∧ K b29 = 5 ∧ Q (.inl (some (.int (I b29 1)))) (K, n, I, F, J))) ∧ (x1 = 7 → K a0 = 8 ∧ (∃ b32 : Nat, F a0 5 = some b32 ∧ K b32 = 5 ∧ Q (.inl (some (.int (I b32 1)))) (K, n, I, F, J))) ∧ (x1 = 8 → K a0 = 8 ∧ (∃ b35 : Nat, F a0 6 = some b35 ∧ K b35 = 5 ∧ Q (.inl (some (.int (I b35 1)))) (K, n, I, F, J))) ∧ (¬ x1 = 0 → ¬ x1 = 1 → ¬ x1 = 2 → ¬ x1 = 3 → ¬ x1 = 4 → ¬ x1 = 5 → ¬ x1 = 6 → ¬ x1 = 7 → ¬ x1 = 8 → Q (.inl (some (.int ((-1) : Int32)))) (K, n, I, F, J)))) :
    AW E m_Su_count (K, n, I, F, J) cb sb Q 0 [some (.ref a0), some (.int x1)] [] := by
  refine aw_iload_n (x := x1) d_Su_count_0 rfl ?_
  by_cases cc1_0 : x1 = 0
  · replace w := w.1 cc1_0
    refine aw_tableIn (off := 51) (tgt := 52) d_Su_count_1 (by rw [cc1_0]; decide) (by rw [cc1_0]; decide) (by rw [cc1_0]; rfl) (by decide) ?_
    refine aw_aload_n (x := a0) d_Su_count_52 rfl ?_
    obtain ⟨hk2, w⟩ := w
    obtain ⟨b3, hb3, w⟩ := w
    refine gs_Su_20 rfl hk2 hb3 d_Su_count_53 ?_
    obtain ⟨hk4, w⟩ := w
    refine gf_Su_88 rfl hk4 d_Su_count_56 ?_
    exact aw_ireturn .int rfl rfl d_Su_count_59 w
  by_cases cc1_1 : x1 = 1
  · replace w := w.2.1 cc1_1
    refine aw_tableIn (off := 59) (tgt := 60) d_Su_count_1 (by rw [cc1_1]; decide) (by rw [cc1_1]; decide) (by rw [cc1_1]; rfl) (by decide) ?_
    refine aw_aload_n (x := a0) d_Su_count_60 rfl ?_
    obtain ⟨hk5, w⟩ := w
    obtain ⟨b6, hb6, w⟩ := w
    refine gs_Su_27 rfl hk5 hb6 d_Su_count_61 ?_
    obtain ⟨hk7, w⟩ := w
    refine gf_Su_95 rfl hk7 d_Su_count_64 ?_
    exact aw_ireturn .int rfl rfl d_Su_count_67 w
  by_cases cc1_2 : x1 = 2
  · replace w := w.2.2.1 cc1_2
    refine aw_tableIn (off := 67) (tgt := 68) d_Su_count_1 (by rw [cc1_2]; decide) (by rw [cc1_2]; decide) (by rw [cc1_2]; rfl) (by decide) ?_
    refine aw_aload_n (x := a0) d_Su_count_68 rfl ?_
    obtain ⟨hk8, w⟩ := w
    obtain ⟨b9, hb9, w⟩ := w
    refine gs_Su_20 rfl hk8 hb9 d_Su_count_69 ?_
    obtain ⟨hk10, w⟩ := w
    obtain ⟨b11, hb11, w⟩ := w
    refine gs_Su_144 rfl hk10 hb11 d_Su_count_72 ?_
    obtain ⟨hk12, w⟩ := w
    exact aw_room (cb' := 0 + cb) (sb' := 0 + sb) (by omega) (by omega) (aw_weak (lv' := [none, none]) trivial (aw_callV (M' := m_ArrayList_size) (lv0 := [some (.ref b11)]) (As := []) (rest := []) 9 656 515 517 rfl (by decide) rfl hk12 tb_656 tb_515 tb_517 (fun U hU => hU.t 516 tb_516 rfl) rfl rfl 0 0 rfl rfl ⟨by decide, by decide, by decide +kernel, by decide +kernel, by decide, by decide⟩ (Nat.le_of_ble_eq_true rfl) ⟨rfl, trivial⟩ rfl d_Su_count_75 w))
  by_cases cc1_3 : x1 = 3
  · replace w := w.2.2.2.1 cc1_3
    refine aw_tableIn (off := 78) (tgt := 79) d_Su_count_1 (by rw [cc1_3]; decide) (by rw [cc1_3]; decide) (by rw [cc1_3]; rfl) (by decide) ?_
    refine aw_aload_n (x := a0) d_Su_count_79 rfl ?_
    obtain ⟨hk13, w⟩ := w
    obtain ⟨b14, hb14, w⟩ := w
    refine gs_Su_20 rfl hk13 hb14 d_Su_count_80 ?_
    obtain ⟨hk15, w⟩ := w
    obtain ⟨b16, hb16, w⟩ := w
    refine gs_Su_176 rfl hk15 hb16 d_Su_count_83 ?_
    obtain ⟨hk17, w⟩ := w
    exact aw_room (cb' := 0 + cb) (sb' := 0 + sb) (by omega) (by omega) (aw_weak (lv' := [none, none]) trivial (aw_callV (M' := m_ArrayList_size) (lv0 := [some (.ref b16)]) (As := []) (rest := []) 9 656 515 517 rfl (by decide) rfl hk17 tb_656 tb_515 tb_517 (fun U hU => hU.t 516 tb_516 rfl) rfl rfl 0 0 rfl rfl ⟨by decide, by decide, by decide +kernel, by decide +kernel, by decide, by decide⟩ (Nat.le_of_ble_eq_true rfl) ⟨rfl, trivial⟩ rfl d_Su_count_86 w))
  by_cases cc1_4 : x1 = 4
  · replace w := w.2.2.2.2.1 cc1_4
    refine aw_tableIn (off := 89) (tgt := 90) d_Su_count_1 (by rw [cc1_4]; decide) (by rw [cc1_4]; decide) (by rw [cc1_4]; rfl) (by decide) ?_
    refine aw_aload_n (x := a0) d_Su_count_90 rfl ?_
    obtain ⟨hk18, w⟩ := w
    obtain ⟨b19, hb19, w⟩ := w
    refine gs_Su_20 rfl hk18 hb19 d_Su_count_91 ?_
    obtain ⟨hk20, w⟩ := w
    obtain ⟨b21, hb21, w⟩ := w
    refine gs_Su_179 rfl hk20 hb21 d_Su_count_94 ?_
    obtain ⟨hk22, w⟩ := w
    exact aw_room (cb' := 0 + cb) (sb' := 0 + sb) (by omega) (by omega) (aw_weak (lv' := [none, none]) trivial (aw_callV (M' := m_ArrayList_size) (lv0 := [some (.ref b21)]) (As := []) (rest := []) 9 656 515 517 rfl (by decide) rfl hk22 tb_656 tb_515 tb_517 (fun U hU => hU.t 516 tb_516 rfl) rfl rfl 0 0 rfl rfl ⟨by decide, by decide, by decide +kernel, by decide +kernel, by decide, by decide⟩ (Nat.le_of_ble_eq_true rfl) ⟨rfl, trivial⟩ rfl d_Su_count_97 w))
  by_cases cc1_5 : x1 = 5
  · replace w := w.2.2.2.2.2.1 cc1_5
    refine aw_tableIn (off := 100) (tgt := 101) d_Su_count_1 (by rw [cc1_5]; decide) (by rw [cc1_5]; decide) (by rw [cc1_5]; rfl) (by decide) ?_
    refine aw_aload_n (x := a0) d_Su_count_101 rfl ?_
    obtain ⟨hk23, w⟩ := w
    obtain ⟨b24, hb24, w⟩ := w
    refine gs_Su_20 rfl hk23 hb24 d_Su_count_102 ?_
    obtain ⟨hk25, w⟩ := w
    obtain ⟨b26, hb26, w⟩ := w
    refine gs_Su_182 rfl hk25 hb26 d_Su_count_105 ?_
    obtain ⟨hk27, w⟩ := w
    exact aw_room (cb' := 0 + cb) (sb' := 0 + sb) (by omega) (by omega) (aw_weak (lv' := [none, none]) trivial (aw_callV (M' := m_ArrayList_size) (lv0 := [some (.ref b26)]) (As := []) (rest := []) 9 656 515 517 rfl (by decide) rfl hk27 tb_656 tb_515 tb_517 (fun U hU => hU.t 516 tb_516 rfl) rfl rfl 0 0 rfl rfl ⟨by decide, by decide, by decide +kernel, by decide +kernel, by decide, by decide⟩ (Nat.le_of_ble_eq_true rfl) ⟨rfl, trivial⟩ rfl d_Su_count_108 w))
  by_cases cc1_6 : x1 = 6
  · replace w := w.2.2.2.2.2.2.1 cc1_6
    refine aw_tableIn (off := 111) (tgt := 112) d_Su_count_1 (by rw [cc1_6]; decide) (by rw [cc1_6]; decide) (by rw [cc1_6]; rfl) (by decide) ?_
    refine aw_aload_n (x := a0) d_Su_count_112 rfl ?_
    obtain ⟨hk28, w⟩ := w
    obtain ⟨b29, hb29, w⟩ := w
    refine gs_Su_31 rfl hk28 hb29 d_Su_count_113 ?_
    obtain ⟨hk30, w⟩ := w
    refine gf_Su_95 rfl hk30 d_Su_count_116 ?_
    exact aw_ireturn .int rfl rfl d_Su_count_119 w
  by_cases cc1_7 : x1 = 7
  · replace w := w.2.2.2.2.2.2.2.1 cc1_7
    refine aw_tableIn (off := 119) (tgt := 120) d_Su_count_1 (by rw [cc1_7]; decide) (by rw [cc1_7]; decide) (by rw [cc1_7]; rfl) (by decide) ?_
    refine aw_aload_n (x := a0) d_Su_count_120 rfl ?_
    obtain ⟨hk31, w⟩ := w
    obtain ⟨b32, hb32, w⟩ := w
    refine gs_Su_34 rfl hk31 hb32 d_Su_count_121 ?_
    obtain ⟨hk33, w⟩ := w
    refine gf_Su_95 rfl hk33 d_Su_count_124 ?_
    exact aw_ireturn .int rfl rfl d_Su_count_127 w
  by_cases cc1_8 : x1 = 8
  · replace w := w.2.2.2.2.2.2.2.2.1 cc1_8
    refine aw_tableIn (off := 127) (tgt := 128) d_Su_count_1 (by rw [cc1_8]; decide) (by rw [cc1_8]; decide) (by rw [cc1_8]; rfl) (by decide) ?_
    refine aw_aload_n (x := a0) d_Su_count_128 rfl ?_
    obtain ⟨hk34, w⟩ := w
    obtain ⟨b35, hb35, w⟩ := w
    refine gs_Su_37 rfl hk34 hb35 d_Su_count_129 ?_
    obtain ⟨hk36, w⟩ := w
    refine gf_Su_95 rfl hk36 d_Su_count_132 ?_
    exact aw_ireturn .int rfl rfl d_Su_count_135 w
  replace w := w.2.2.2.2.2.2.2.2.2 cc1_0 cc1_1 cc1_2 cc1_3 cc1_4 cc1_5 cc1_6 cc1_7 cc1_8
  have cc1_0_t : ¬ x1.toInt = 0 := lv_neT cc1_0 rfl
  have cc1_1_t : ¬ x1.toInt = 1 := lv_neT cc1_1 rfl
  have cc1_2_t : ¬ x1.toInt = 2 := lv_neT cc1_2 rfl
  have cc1_3_t : ¬ x1.toInt = 3 := lv_neT cc1_3 rfl
  have cc1_4_t : ¬ x1.toInt = 4 := lv_neT cc1_4 rfl
  have cc1_5_t : ¬ x1.toInt = 5 := lv_neT cc1_5 rfl
  have cc1_6_t : ¬ x1.toInt = 6 := lv_neT cc1_6 rfl
  have cc1_7_t : ¬ x1.toInt = 7 := lv_neT cc1_7 rfl
  have cc1_8_t : ¬ x1.toInt = 8 := lv_neT cc1_8 rfl
  refine aw_tableOut (tgt := 136) d_Su_count_1 (by omega) (by decide) ?_
  refine aw_iconst (v := ((-1) : Int32)) d_Su_count_136 (by decide) ?_
  exact aw_ireturn .int rfl rfl d_Su_count_137 w
set_option maxRecDepth 20000 in
theorem r_Su_count_78 {E : zE} {K n : Nat → Nat} {I : Nat → Nat → Int32} {F : Nat → Nat → Option Nat} {J : Nat → Nat → Int64} {cb sb : Nat} {Q : zO → zH → Prop} {sx0 : Int32}
    (w : Q (.inl (some (.int sx0))) (K, n, I, F, J)) :
    AW E m_Su_count (K, n, I, F, J) cb sb Q 78 [none, none] [.int sx0] := by
  exact aw_ireturn .int rfl rfl d_Su_count_78 w
set_option maxRecDepth 20000 in
theorem r_Su_count_89 {E : zE} {K n : Nat → Nat} {I : Nat → Nat → Int32} {F : Nat → Nat → Option Nat} {J : Nat → Nat → Int64} {cb sb : Nat} {Q : zO → zH → Prop} {sx0 : Int32}
    (w : Q (.inl (some (.int sx0))) (K, n, I, F, J)) :
    AW E m_Su_count (K, n, I, F, J) cb sb Q 89 [none, none] [.int sx0] := by
  exact aw_ireturn .int rfl rfl d_Su_count_89 w
set_option maxRecDepth 20000 in
theorem r_Su_count_100 {E : zE} {K n : Nat → Nat} {I : Nat → Nat → Int32} {F : Nat → Nat → Option Nat} {J : Nat → Nat → Int64} {cb sb : Nat} {Q : zO → zH → Prop} {sx0 : Int32}
    (w : Q (.inl (some (.int sx0))) (K, n, I, F, J)) :
    AW E m_Su_count (K, n, I, F, J) cb sb Q 100 [none, none] [.int sx0] := by
  exact aw_ireturn .int rfl rfl d_Su_count_100 w
set_option maxRecDepth 20000 in
theorem r_Su_count_111 {E : zE} {K n : Nat → Nat} {I : Nat → Nat → Int32} {F : Nat → Nat → Option Nat} {J : Nat → Nat → Int64} {cb sb : Nat} {Q : zO → zH → Prop} {sx0 : Int32}
    (w : Q (.inl (some (.int sx0))) (K, n, I, F, J)) :
    AW E m_Su_count (K, n, I, F, J) cb sb Q 111 [none, none] [.int sx0] := by
  exact aw_ireturn .int rfl rfl d_Su_count_111 w
set_option maxRecDepth 20000 in
theorem r_Su_isInput_0 {E : zE} {K n : Nat → Nat} {I : Nat → Nat → Int32} {F : Nat → Nat → Option Nat} {J : Nat → Nat → Int64} {cb sb : Nat} {Q : zO → zH → Prop} {x0 : Int32}
    (w : ((x0 < 0 → Q (.inl (some (.int (0 : Int32)))) (K, n, I, F, J)) ∧ (¬ x0 < 0 → (((3 : Int32) ≤ x0 → Q (.inl (some (.int (0 : Int32)))) (K, n, I, F, J)) ∧ (¬ (3 : Int32) ≤ x0 → Q (.inl (some (.int (1 : Int32)))) (K, n, I, F, J)))))) :
    AW E m_Su_isInput (K, n, I, F, J) cb sb Q 0 [some (.int x0)] [] := by
  refine aw_iload_n (x := x0) d_Su_isInput_0 rfl ?_
  refine aw_if_lt (tgt := 13) d_Su_isInput_1 (by decide) (fun cc1 => ?_) (fun cc1 => ?_)
  · replace w := w.1 cc1
    refine aw_iconst (v := (0 : Int32)) d_Su_isInput_13 (by decide) ?_
    exact aw_ireturn .boolean rfl rfl d_Su_isInput_14 w
  · replace w := w.2 cc1
    refine aw_iload_n (x := x0) d_Su_isInput_4 rfl ?_
    refine aw_iconst (v := (3 : Int32)) d_Su_isInput_5 (by decide) ?_
    refine aw_icmp_ge (tgt := 13) d_Su_isInput_6 (by decide) (fun cc2 => ?_) (fun cc2 => ?_)
    · replace w := w.1 cc2
      refine aw_iconst (v := (0 : Int32)) d_Su_isInput_13 (by decide) ?_
      exact aw_ireturn .boolean rfl rfl d_Su_isInput_14 w
    · replace w := w.2 cc2
      refine aw_iconst (v := (1 : Int32)) d_Su_isInput_9 (by decide) ?_
      refine aw_goto (tgt := 14) d_Su_isInput_10 (by decide) ?_
      exact aw_ireturn .boolean rfl rfl d_Su_isInput_14 w
set_option maxRecDepth 20000 in
theorem r_Su_outputRows_0 {E : zE} {K n : Nat → Nat} {I : Nat → Nat → Int32} {F : Nat → Nat → Option Nat} {J : Nat → Nat → Int64} {cb sb : Nat} {Q : zO → zH → Prop} {a0 : Nat} {x1 : Int32}
    (w : ((x1 = 0 → K a0 = 8 ∧ (∃ b3 : Nat, F a0 4 = some b3 ∧ Q (.inl (some (.ref b3))) (K, n, I, F, J))) ∧ (x1 = 1 → K a0 = 8 ∧ (∃ b5 : Nat, F a0 5 = some b5 ∧ Q (.inl (some (.ref b5))) (K, n, I, F, J))) ∧ (x1 = 2 → K a0 = 8 ∧ (∃ b7 : Nat, F a0 6 = some b7 ∧ Q (.inl (some (.ref b7))) (K, n, I, F, J))) ∧ (¬ x1 = 0 → ¬ x1 = 1 → ¬ x1 = 2 → Q (.inl (some (va_rf none))) (K, n, I, F, J)))) :
    AW E m_Su_outputRows (K, n, I, F, J) cb sb Q 0 [some (.ref a0), some (.int x1)] [] := by
  refine aw_iload_n (x := x1) d_Su_outputRows_0 rfl ?_
  by_cases cc1_0 : x1 = 0
  · replace w := w.1 cc1_0
    refine aw_tableIn (off := 27) (tgt := 28) d_Su_outputRows_1 (by rw [cc1_0]; decide) (by rw [cc1_0]; decide) (by rw [cc1_0]; rfl) (by decide) ?_
    refine aw_aload_n (x := a0) d_Su_outputRows_28 rfl ?_
    obtain ⟨hk2, w⟩ := w
    obtain ⟨b3, hb3, w⟩ := w
    refine gs_Su_31 rfl hk2 hb3 d_Su_outputRows_29 ?_
    exact aw_areturn (r := (some b3)) _ rfl rfl d_Su_outputRows_32 w
  by_cases cc1_1 : x1 = 1
  · replace w := w.2.1 cc1_1
    refine aw_tableIn (off := 32) (tgt := 33) d_Su_outputRows_1 (by rw [cc1_1]; decide) (by rw [cc1_1]; decide) (by rw [cc1_1]; rfl) (by decide) ?_
    refine aw_aload_n (x := a0) d_Su_outputRows_33 rfl ?_
    obtain ⟨hk4, w⟩ := w
    obtain ⟨b5, hb5, w⟩ := w
    refine gs_Su_34 rfl hk4 hb5 d_Su_outputRows_34 ?_
    exact aw_areturn (r := (some b5)) _ rfl rfl d_Su_outputRows_37 w
  by_cases cc1_2 : x1 = 2
  · replace w := w.2.2.1 cc1_2
    refine aw_tableIn (off := 37) (tgt := 38) d_Su_outputRows_1 (by rw [cc1_2]; decide) (by rw [cc1_2]; decide) (by rw [cc1_2]; rfl) (by decide) ?_
    refine aw_aload_n (x := a0) d_Su_outputRows_38 rfl ?_
    obtain ⟨hk6, w⟩ := w
    obtain ⟨b7, hb7, w⟩ := w
    refine gs_Su_37 rfl hk6 hb7 d_Su_outputRows_39 ?_
    exact aw_areturn (r := (some b7)) _ rfl rfl d_Su_outputRows_42 w
  replace w := w.2.2.2 cc1_0 cc1_1 cc1_2
  have cc1_0_t : ¬ x1.toInt = 0 := lv_neT cc1_0 rfl
  have cc1_1_t : ¬ x1.toInt = 1 := lv_neT cc1_1 rfl
  have cc1_2_t : ¬ x1.toInt = 2 := lv_neT cc1_2 rfl
  refine aw_tableOut (tgt := 43) d_Su_outputRows_1 (by omega) (by decide) ?_
  refine aw_null d_Su_outputRows_43 ?_
  exact aw_areturn (r := none) _ rfl rfl d_Su_outputRows_44 w
set_option maxRecDepth 20000 in
theorem r_Su_outputRow_0 {E : zE} {K n : Nat → Nat} {I : Nat → Nat → Int32} {F : Nat → Nat → Option Nat} {J : Nat → Nat → Int64} {cb sb : Nat} {Q : zO → zH → Prop} {a0 : Nat} {x1 : Int32} {x2 : Int32}
    (w : K a0 = 8 ∧ AW E m_Su_outputRows (K, n, I, F, J) 0 0 (zAft E m_Su_outputRow cb sb Q 2 [none, none, some (.int x2), none] []) 0 [some (.ref a0), some (.int x1)] []) :
    AW E m_Su_outputRow (K, n, I, F, J) cb sb Q 0 [some (.ref a0), some (.int x1), some (.int x2), none] [] := by
  refine aw_aload_n (x := a0) d_Su_outputRow_0 rfl ?_
  refine aw_iload_n (x := x1) d_Su_outputRow_1 rfl ?_
  obtain ⟨hk1, w⟩ := w
  exact aw_room (cb' := 0 + cb) (sb' := 0 + sb) (by omega) (by omega) (aw_weak (lv' := [none, none, some (.int x2), none]) ⟨rfl, trivial⟩ (aw_callV (M' := m_Su_outputRows) (lv0 := [some (.ref a0), some (.int x1)]) (As := [.int x1]) (rest := []) 7 743 745 746 rfl (by decide) rfl hk1 tb_743 tb_745 tb_746 (fun U hU => hU.p 28 rfl) rfl rfl 1 0 rfl rfl ⟨by decide, by decide, by decide +kernel, by decide +kernel, by decide, by decide⟩ (Nat.le_of_ble_eq_true rfl) ⟨rfl, rfl, trivial⟩ rfl d_Su_outputRow_2 w))
set_option maxRecDepth 20000 in
theorem r_Su_outputRow_5 {E : zE} {K n : Nat → Nat} {I : Nat → Nat → Int32} {F : Nat → Nat → Option Nat} {J : Nat → Nat → Int64} {cb sb : Nat} {Q : zO → zH → Prop} {x2 : Int32} {sr0 : Option Nat}
    (w : ((sr0 = none → AW E m_Su_outputRow (K, n, I, F, J) cb sb Q 19 [none, none, none, none] [va_rf none]) ∧ (∀ z1 : Nat, sr0 = some z1 → K z1 = 5 ∧ AW E m_Rows_at (K, n, I, F, J) 0 0 (zAft E m_Su_outputRow cb sb Q 16 [none, none, none, none] []) 0 [some (.ref z1), some (.int x2)] []))) :
    AW E m_Su_outputRow (K, n, I, F, J) cb sb Q 5 [none, none, some (.int x2), none] [va_rf sr0] := by
  refine aw_astore_nR d_Su_outputRow_5 (by decide) ?_
  refine aw_aload_nR (r := sr0) d_Su_outputRow_6 (by first | rfl | (cases sr0 <;> rfl)) ?_
  refine aw_ifnonnull (r := sr0) (tgt := 14) d_Su_outputRow_7 (by decide) (fun z1 cc2 => ?_) (fun cc2 => ?_)
  · replace w := w.2 z1 cc2
    subst cc2
    refine aw_aload_n (x := z1) d_Su_outputRow_14 rfl ?_
    refine aw_iload_n (x := x2) d_Su_outputRow_15 rfl ?_
    obtain ⟨hk3, w⟩ := w
    exact aw_room (cb' := 0 + cb) (sb' := 0 + sb) (by omega) (by omega) (aw_weak (lv' := [none, none, none, none]) trivial (aw_callV (M' := m_Rows_at) (lv0 := [some (.ref z1), some (.int x2)]) (As := [.int x2]) (rest := []) 4 617 618 620 rfl (by decide) rfl hk3 tb_617 tb_618 tb_620 (fun U hU => hU.t 619 tb_619 rfl) rfl rfl 1 0 rfl rfl ⟨by decide, by decide, by decide +kernel, by decide +kernel, by decide, by decide⟩ (Nat.le_of_ble_eq_true rfl) ⟨rfl, rfl, trivial⟩ rfl d_Su_outputRow_16 w))
  · replace w := w.1 cc2
    subst cc2
    refine aw_null d_Su_outputRow_10 ?_
    refine aw_goto (tgt := 19) d_Su_outputRow_11 (by decide) ?_
    exact aw_weak (lv' := [none, none, none, none]) trivial w
set_option maxRecDepth 20000 in
theorem r_Su_outputRow_19 {E : zE} {K n : Nat → Nat} {I : Nat → Nat → Int32} {F : Nat → Nat → Option Nat} {J : Nat → Nat → Int64} {cb sb : Nat} {Q : zO → zH → Prop} {sr0 : Option Nat}
    (w : Q (.inl (some (va_rf sr0))) (K, n, I, F, J)) :
    AW E m_Su_outputRow (K, n, I, F, J) cb sb Q 19 [none, none, none, none] [va_rf sr0] := by
  exact aw_areturn (r := sr0) _ rfl rfl d_Su_outputRow_19 w
set_option maxRecDepth 20000 in
theorem r_Su_pickRecords_0 {E : zE} {K n : Nat → Nat} {I : Nat → Nat → Int32} {F : Nat → Nat → Option Nat} {J : Nat → Nat → Int64} {cb sb : Nat} {Q : zO → zH → Prop} {a0 : Nat}
    (w : AW E m_Su_pickRecords (K, n, I, F, J) cb sb Q 4 [some (.ref a0), some (.int (0 : Int32)), some (.int (0 : Int32)), none, none] []) :
    AW E m_Su_pickRecords (K, n, I, F, J) cb sb Q 0 [some (.ref a0), none, none, none, none] [] := by
  refine aw_iconst (v := (0 : Int32)) d_Su_pickRecords_0 (by decide) ?_
  refine aw_istore_n d_Su_pickRecords_1 (by decide) ?_
  refine aw_iconst (v := (0 : Int32)) d_Su_pickRecords_2 (by decide) ?_
  refine aw_istore_n d_Su_pickRecords_3 (by decide) ?_
  exact aw_weak (lv' := [some (.ref a0), some (.int (0 : Int32)), some (.int (0 : Int32)), none, none]) ⟨rfl, rfl, rfl, trivial⟩ w
set_option maxRecDepth 20000 in
theorem r_Su_pickRecords_4 {E : zE} {K n : Nat → Nat} {I : Nat → Nat → Int32} {F : Nat → Nat → Option Nat} {J : Nat → Nat → Int64} {cb sb : Nat} {Q : zO → zH → Prop} {a0 : Nat} {x1 : Int32} {x2 : Int32}
    (w : K a0 = 8 ∧ (∃ b2 : Nat, F a0 3 = some b2 ∧ K b2 = 5 ∧ (((I b2 1) ≤ x2 → Q (.inl none) (K, n, I, F, J)) ∧ (¬ (I b2 1) ≤ x2 → AW E m_Rows_at (K, n, I, F, J) 0 0 (zAft E m_Su_pickRecords cb sb Q 20 [some (.ref a0), some (.int x1), some (.int x2), none, none] []) 0 [some (.ref b2), some (.int x2)] [])))) :
    AW E m_Su_pickRecords (K, n, I, F, J) cb sb Q 4 [some (.ref a0), some (.int x1), some (.int x2), none, none] [] := by
  refine aw_iload_n (x := x2) d_Su_pickRecords_4 rfl ?_
  refine aw_aload_n (x := a0) d_Su_pickRecords_5 rfl ?_
  obtain ⟨hk1, w⟩ := w
  obtain ⟨b2, hb2, w⟩ := w
  refine gs_Su_27 rfl hk1 hb2 d_Su_pickRecords_6 ?_
  obtain ⟨hk3, w⟩ := w
  refine gf_Su_95 rfl hk3 d_Su_pickRecords_9 ?_
  refine aw_icmp_ge (tgt := 102) d_Su_pickRecords_12 (by decide) (fun cc4 => ?_) (fun cc4 => ?_)
  · replace w := w.1 cc4
    exact aw_return rfl d_Su_pickRecords_102 w
  · replace w := w.2 cc4
    refine aw_aload_n (x := a0) d_Su_pickRecords_15 rfl ?_
    refine gs_Su_27 rfl hk1 hb2 d_Su_pickRecords_16 ?_
    refine aw_iload_n (x := x2) d_Su_pickRecords_19 rfl ?_
    exact aw_room (cb' := 0 + cb) (sb' := 0 + sb) (by omega) (by omega) (aw_weak (lv' := [some (.ref a0), some (.int x1), some (.int x2), none, none]) ⟨rfl, rfl, rfl, trivial⟩ (aw_callV (M' := m_Rows_at) (lv0 := [some (.ref b2), some (.int x2)]) (As := [.int x2]) (rest := []) 4 617 618 620 rfl (by decide) rfl hk3 tb_617 tb_618 tb_620 (fun U hU => hU.t 619 tb_619 rfl) rfl rfl 1 0 rfl rfl ⟨by decide, by decide, by decide +kernel, by decide +kernel, by decide, by decide⟩ (Nat.le_of_ble_eq_true rfl) ⟨rfl, rfl, trivial⟩ rfl d_Su_pickRecords_20 w))
set_option maxRecDepth 20000 in
theorem r_Su_pickRecords_23 {E : zE} {K n : Nat → Nat} {I : Nat → Nat → Int32} {F : Nat → Nat → Option Nat} {J : Nat → Nat → Int64} {cb sb : Nat} {Q : zO → zH → Prop} {a0 : Nat} {x1 : Int32} {x2 : Int32} {sr0 : Option Nat}
    (w : ((sr0 = none → AW E m_Su_pickRecords (K, n, I, F, J) cb sb Q 96 [some (.ref a0), some (.int x1), some (.int x2), none, none] []) ∧ (∀ z1 : Nat, sr0 = some z1 → K z1 = 4 ∧ (((I z1 2) = 0 → K a0 = 8 ∧ (∃ b6 : Nat, F a0 2 = some b6 ∧ K b6 = 6 ∧ (((x1 - (I b6 5)) < 0 → AW E m_Su_pickRecords (K, n, I, F, J) cb sb Q 96 [some (.ref a0), some (.int (x1 + (1 : Int32))), some (.int x2), none, none] []) ∧ (¬ (x1 - (I b6 5)) < 0 → (((x1 - (I b6 5)) < (I b6 6) → AW E m_Statements_keeps (K, n, I, F, J) 0 0 (zAft E m_Su_pickRecords cb sb Q 77 [some (.ref a0), some (.int (x1 + (1 : Int32))), some (.int x2), some (.ref z1), none] []) 0 [some (.ref b6), some (.ref z1), none, none, none] []) ∧ (¬ (x1 - (I b6 5)) < (I b6 6) → AW E m_Su_pickRecords (K, n, I, F, J) cb sb Q 96 [some (.ref a0), some (.int (x1 + (1 : Int32))), some (.int x2), none, none] [])))))) ∧ (¬ (I z1 2) = 0 → AW E m_Su_pickRecords (K, n, I, F, J) cb sb Q 96 [some (.ref a0), some (.int x1), some (.int x2), none, none] []))))) :
    AW E m_Su_pickRecords (K, n, I, F, J) cb sb Q 23 [some (.ref a0), some (.int x1), some (.int x2), none, none] [va_rf sr0] := by
  refine aw_astore_nR d_Su_pickRecords_23 (by decide) ?_
  refine aw_aload_nR (r := sr0) d_Su_pickRecords_24 (by first | rfl | (cases sr0 <;> rfl)) ?_
  refine aw_ifnull (r := sr0) (tgt := 96) d_Su_pickRecords_25 (by decide) (fun cc2 => ?_) (fun z1 cc2 => ?_)
  · replace w := w.1 cc2
    subst cc2
    exact aw_weak (lv' := [some (.ref a0), some (.int x1), some (.int x2), none, none]) ⟨rfl, rfl, rfl, trivial⟩ w
  · replace w := w.2 z1 cc2
    subst cc2
    refine aw_aload_n (x := z1) d_Su_pickRecords_28 rfl ?_
    obtain ⟨hk3, w⟩ := w
    refine gf_Su_100 rfl hk3 d_Su_pickRecords_29 ?_
    refine aw_if_eq (tgt := 38) d_Su_pickRecords_32 (by decide) (fun cc4 => ?_) (fun cc4 => ?_)
    · replace w := w.1 cc4
      refine aw_iload_n (x := x1) d_Su_pickRecords_38 rfl ?_
      refine aw_aload_n (x := a0) d_Su_pickRecords_39 rfl ?_
      obtain ⟨hk5, w⟩ := w
      obtain ⟨b6, hb6, w⟩ := w
      refine gs_Su_20 rfl hk5 hb6 d_Su_pickRecords_40 ?_
      obtain ⟨hk7, w⟩ := w
      refine gf_Su_185 rfl hk7 d_Su_pickRecords_43 ?_
      refine aw_isub d_Su_pickRecords_46 ?_
      refine aw_istore d_Su_pickRecords_47 (by decide) ?_
      refine aw_iinc (v := (x1 + (1 : Int32))) d_Su_pickRecords_49 rfl (by rfl) (by decide) ?_
      refine aw_iload (x := (x1 - (I b6 5))) d_Su_pickRecords_52 rfl ?_
      refine aw_if_lt (tgt := 96) d_Su_pickRecords_54 (by decide) (fun cc8 => ?_) (fun cc8 => ?_)
      · replace w := w.1 cc8
        exact aw_weak (lv' := [some (.ref a0), some (.int (x1 + (1 : Int32))), some (.int x2), none, none]) ⟨rfl, rfl, rfl, trivial⟩ w
      · replace w := w.2 cc8
        refine aw_iload (x := (x1 - (I b6 5))) d_Su_pickRecords_57 rfl ?_
        refine aw_aload_n (x := a0) d_Su_pickRecords_59 rfl ?_
        refine gs_Su_20 rfl hk5 hb6 d_Su_pickRecords_60 ?_
        refine gf_Su_188 rfl hk7 d_Su_pickRecords_63 ?_
        refine aw_icmp_lt (tgt := 72) d_Su_pickRecords_66 (by decide) (fun cc9 => ?_) (fun cc9 => ?_)
        · replace w := w.1 cc9
          refine aw_aload_n (x := a0) d_Su_pickRecords_72 rfl ?_
          refine gs_Su_20 rfl hk5 hb6 d_Su_pickRecords_73 ?_
          refine aw_aload_n (x := z1) d_Su_pickRecords_76 rfl ?_
          exact aw_room (cb' := 0 + cb) (sb' := 0 + sb) (by omega) (by omega) (aw_weak (lv' := [some (.ref a0), some (.int (x1 + (1 : Int32))), some (.int x2), some (.ref z1), none]) ⟨rfl, rfl, rfl, rfl, trivial⟩ (aw_callV (M' := m_Statements_keeps) (lv0 := [some (.ref b6), some (.ref z1), none, none, none]) (As := [.ref z1]) (rest := []) 5 621 622 624 rfl (by decide) rfl hk7 tb_621 tb_622 tb_624 (fun U hU => hU.t 623 tb_623 rfl) rfl rfl 1 0 rfl rfl ⟨by decide, by decide, by decide +kernel, by decide +kernel, by decide, by decide⟩ (Nat.le_of_ble_eq_true rfl) ⟨rfl, rfl, trivial⟩ rfl d_Su_pickRecords_77 w))
        · replace w := w.2 cc9
          refine aw_goto (tgt := 96) d_Su_pickRecords_69 (by decide) ?_
          exact aw_weak (lv' := [some (.ref a0), some (.int (x1 + (1 : Int32))), some (.int x2), none, none]) ⟨rfl, rfl, rfl, trivial⟩ w
    · replace w := w.2 cc4
      refine aw_goto (tgt := 96) d_Su_pickRecords_35 (by decide) ?_
      exact aw_weak (lv' := [some (.ref a0), some (.int x1), some (.int x2), none, none]) ⟨rfl, rfl, rfl, trivial⟩ w
set_option maxRecDepth 20000 in
theorem r_Su_pickRecords_80 {E : zE} {K n : Nat → Nat} {I : Nat → Nat → Int32} {F : Nat → Nat → Option Nat} {J : Nat → Nat → Int64} {cb sb : Nat} {Q : zO → zH → Prop} {a0 : Nat} {x1 : Int32} {x2 : Int32} {a3 : Nat} {sx0 : Int32}
    (w : ((sx0 = 0 → K a0 = 8 ∧ (∃ c1 s1 c2 s2 : Nat, c1 + c2 ≤ cb ∧ s1 + s2 ≤ sb ∧ AW E m_Su_refuse (K, n, I, F, J) c1 s1 (zAft E m_Su_pickRecords c2 s2 Q 93 [some (.ref a0), some (.int x1), some (.int x2), none, none] []) 0 [some (.ref a0), some (.ref a3), none] [])) ∧ (¬ sx0 = 0 → K a0 = 8 ∧ (∃ c1 s1 c2 s2 : Nat, c1 + c2 ≤ cb ∧ s1 + s2 ≤ sb ∧ AW E m_Su_insertSorted (K, n, I, F, J) c1 s1 (zAft E m_Su_pickRecords c2 s2 Q 85 [some (.ref a0), some (.int x1), some (.int x2), none, none] []) 0 [some (.ref a0), some (.ref a3), none, none, none] [])))) :
    AW E m_Su_pickRecords (K, n, I, F, J) cb sb Q 80 [some (.ref a0), some (.int x1), some (.int x2), some (.ref a3), none] [.int sx0] := by
  refine aw_if_eq (tgt := 91) d_Su_pickRecords_80 (by decide) (fun cc1 => ?_) (fun cc1 => ?_)
  · replace w := w.1 cc1
    refine aw_aload_n (x := a0) d_Su_pickRecords_91 rfl ?_
    refine aw_aload_n (x := a3) d_Su_pickRecords_92 rfl ?_
    obtain ⟨hk2, w⟩ := w
    obtain ⟨c1, s1, c2, s2, hq1, hq2, w⟩ := w
    exact aw_room hq1 hq2 (aw_weak (lv' := [some (.ref a0), some (.int x1), some (.int x2), none, none]) ⟨rfl, rfl, rfl, trivial⟩ (aw_callV (M' := m_Su_refuse) (lv0 := [some (.ref a0), some (.ref a3), none]) (As := [.ref a3]) (rest := []) 7 673 675 676 rfl (by decide) rfl hk2 tb_673 tb_675 tb_676 (fun U hU => hU.p 21 rfl) rfl rfl 1 0 rfl rfl ⟨by decide, by decide, by decide +kernel, by decide +kernel, by decide, by decide⟩ (Nat.le_of_ble_eq_true rfl) ⟨rfl, rfl, trivial⟩ rfl d_Su_pickRecords_93 w))
  · replace w := w.2 cc1
    refine aw_aload_n (x := a0) d_Su_pickRecords_83 rfl ?_
    refine aw_aload_n (x := a3) d_Su_pickRecords_84 rfl ?_
    obtain ⟨hk3, w⟩ := w
    obtain ⟨c1, s1, c2, s2, hq1, hq2, w⟩ := w
    exact aw_room hq1 hq2 (aw_weak (lv' := [some (.ref a0), some (.int x1), some (.int x2), none, none]) ⟨rfl, rfl, rfl, trivial⟩ (aw_callV (M' := m_Su_insertSorted) (lv0 := [some (.ref a0), some (.ref a3), none, none, none]) (As := [.ref a3]) (rest := []) 7 652 654 655 rfl (by decide) rfl hk3 tb_652 tb_654 tb_655 (fun U hU => hU.p 19 rfl) rfl rfl 1 0 rfl rfl ⟨by decide, by decide, by decide +kernel, by decide +kernel, by decide, by decide⟩ (Nat.le_of_ble_eq_true rfl) ⟨rfl, rfl, trivial⟩ rfl d_Su_pickRecords_85 w))
set_option maxRecDepth 20000 in
theorem r_Su_pickRecords_88 {E : zE} {K n : Nat → Nat} {I : Nat → Nat → Int32} {F : Nat → Nat → Option Nat} {J : Nat → Nat → Int64} {cb sb : Nat} {Q : zO → zH → Prop} {a0 : Nat} {x1 : Int32} {x2 : Int32}
    (w : AW E m_Su_pickRecords (K, n, I, F, J) cb sb Q 96 [some (.ref a0), some (.int x1), some (.int x2), none, none] []) :
    AW E m_Su_pickRecords (K, n, I, F, J) cb sb Q 88 [some (.ref a0), some (.int x1), some (.int x2), none, none] [] := by
  refine aw_goto (tgt := 96) d_Su_pickRecords_88 (by decide) ?_
  exact aw_weak (lv' := [some (.ref a0), some (.int x1), some (.int x2), none, none]) ⟨rfl, rfl, rfl, trivial⟩ w
set_option maxRecDepth 20000 in
theorem r_Su_pickRecords_96 {E : zE} {K n : Nat → Nat} {I : Nat → Nat → Int32} {F : Nat → Nat → Option Nat} {J : Nat → Nat → Int64} {cb sb : Nat} {Q : zO → zH → Prop} {a0 : Nat} {x1 : Int32} {x2 : Int32}
    (w : AW E m_Su_pickRecords (K, n, I, F, J) cb sb Q 4 [some (.ref a0), some (.int x1), some (.int (x2 + (1 : Int32))), none, none] []) :
    AW E m_Su_pickRecords (K, n, I, F, J) cb sb Q 96 [some (.ref a0), some (.int x1), some (.int x2), none, none] [] := by
  refine aw_iinc (v := (x2 + (1 : Int32))) d_Su_pickRecords_96 rfl (by rfl) (by decide) ?_
  refine aw_goto (tgt := 4) d_Su_pickRecords_99 (by decide) ?_
  exact aw_weak (lv' := [some (.ref a0), some (.int x1), some (.int (x2 + (1 : Int32))), none, none]) ⟨rfl, rfl, rfl, trivial⟩ w
set_option maxRecDepth 20000 in
theorem r_Su_insertSorted_0 {E : zE} {K n : Nat → Nat} {I : Nat → Nat → Int32} {F : Nat → Nat → Option Nat} {J : Nat → Nat → Int64} {cb sb : Nat} {Q : zO → zH → Prop} {a0 : Nat} {a1 : Nat}
    (w : K a0 = 8 ∧ (∃ b2 : Nat, F a0 10 = some b2 ∧ K b2 = 10 ∧ AW E m_ArrayList_size (K, n, I, F, J) 0 0 (zAft E m_Su_insertSorted cb sb Q 6 [some (.ref a0), some (.ref a1), some (.int (0 : Int32)), none, none] []) 0 [some (.ref b2)] [])) :
    AW E m_Su_insertSorted (K, n, I, F, J) cb sb Q 0 [some (.ref a0), some (.ref a1), none, none, none] [] := by
  refine aw_iconst (v := (0 : Int32)) d_Su_insertSorted_0 (by decide) ?_
  refine aw_istore_n d_Su_insertSorted_1 (by decide) ?_
  refine aw_aload_n (x := a0) d_Su_insertSorted_2 rfl ?_
  obtain ⟨hk1, w⟩ := w
  obtain ⟨b2, hb2, w⟩ := w
  refine gs_Su_54 rfl hk1 hb2 d_Su_insertSorted_3 ?_
  obtain ⟨hk3, w⟩ := w
  exact aw_room (cb' := 0 + cb) (sb' := 0 + sb) (by omega) (by omega) (aw_weak (lv' := [some (.ref a0), some (.ref a1), some (.int (0 : Int32)), none, none]) ⟨rfl, rfl, rfl, trivial⟩ (aw_callV (M' := m_ArrayList_size) (lv0 := [some (.ref b2)]) (As := []) (rest := []) 9 656 515 517 rfl (by decide) rfl hk3 tb_656 tb_515 tb_517 (fun U hU => hU.t 516 tb_516 rfl) rfl rfl 0 0 rfl rfl ⟨by decide, by decide, by decide +kernel, by decide +kernel, by decide, by decide⟩ (Nat.le_of_ble_eq_true rfl) ⟨rfl, trivial⟩ rfl d_Su_insertSorted_6 w))
set_option maxRecDepth 20000 in
theorem r_Su_insertSorted_9 {E : zE} {K n : Nat → Nat} {I : Nat → Nat → Int32} {F : Nat → Nat → Option Nat} {J : Nat → Nat → Int64} {cb sb : Nat} {Q : zO → zH → Prop} {a0 : Nat} {a1 : Nat} {x2 : Int32} {sx0 : Int32}
    (w : AW E m_Su_insertSorted (K, n, I, F, J) cb sb Q 10 [some (.ref a0), some (.ref a1), some (.int x2), some (.int sx0), none] []) :
    AW E m_Su_insertSorted (K, n, I, F, J) cb sb Q 9 [some (.ref a0), some (.ref a1), some (.int x2), none, none] [.int sx0] := by
  refine aw_istore_n d_Su_insertSorted_9 (by decide) ?_
  exact aw_weak (lv' := [some (.ref a0), some (.ref a1), some (.int x2), some (.int sx0), none]) ⟨rfl, rfl, rfl, rfl, trivial⟩ w
set_option maxRecDepth 20000 in
theorem r_Su_insertSorted_10 {E : zE} {K n : Nat → Nat} {I : Nat → Nat → Int32} {F : Nat → Nat → Option Nat} {J : Nat → Nat → Int64} {cb sb : Nat} {Q : zO → zH → Prop} {a0 : Nat} {a1 : Nat} {x2 : Int32} {x3 : Int32}
    (w : ((x3 ≤ x2 → K a0 = 8 ∧ (∃ b3 : Nat, F a0 10 = some b3 ∧ K b3 = 10 ∧ (∃ c1 s1 c2 s2 : Nat, c1 + c2 ≤ cb ∧ s1 + s2 ≤ sb ∧ AW E m_ArrayList_add1 (K, n, I, F, J) c1 s1 (zAft E m_Su_insertSorted c2 s2 Q 65 [none, none, none, none, none] []) 0 [some (.ref b3), some (.int x2), some (.ref a1), none, none] []))) ∧ (¬ x3 ≤ x2 → K a0 = 8 ∧ (∃ b6 : Nat, F a0 2 = some b6 ∧ (∃ b7 : Nat, F a0 10 = some b7 ∧ K b7 = 10 ∧ AW E m_ArrayList_get (K, n, I, F, J) 0 0 (zAft E m_Su_insertSorted cb sb Q 32 [some (.ref a0), some (.ref a1), some (.int x2), some (.int x3), some (.int ((x2 + x3) / (2 : Int32)))] [.ref b6]) 0 [some (.ref b7), some (.int ((x2 + x3) / (2 : Int32)))] []))))) :
    AW E m_Su_insertSorted (K, n, I, F, J) cb sb Q 10 [some (.ref a0), some (.ref a1), some (.int x2), some (.int x3), none] [] := by
  refine aw_iload_n (x := x2) d_Su_insertSorted_10 rfl ?_
  refine aw_iload_n (x := x3) d_Su_insertSorted_11 rfl ?_
  refine aw_icmp_ge (tgt := 59) d_Su_insertSorted_12 (by decide) (fun cc1 => ?_) (fun cc1 => ?_)
  · replace w := w.1 cc1
    refine aw_aload_n (x := a0) d_Su_insertSorted_59 rfl ?_
    obtain ⟨hk2, w⟩ := w
    obtain ⟨b3, hb3, w⟩ := w
    refine gs_Su_54 rfl hk2 hb3 d_Su_insertSorted_60 ?_
    refine aw_iload_n (x := x2) d_Su_insertSorted_63 rfl ?_
    refine aw_aload_n (x := a1) d_Su_insertSorted_64 rfl ?_
    obtain ⟨hk4, w⟩ := w
    obtain ⟨c1, s1, c2, s2, hq1, hq2, w⟩ := w
    exact aw_room hq1 hq2 (aw_weak (lv' := [none, none, none, none, none]) trivial (aw_callV (M' := m_ArrayList_add1) (lv0 := [some (.ref b3), some (.int x2), some (.ref a1), none, none]) (As := [.int x2, .ref a1]) (rest := []) 9 664 665 667 rfl (by decide) rfl hk4 tb_664 tb_665 tb_667 (fun U hU => hU.t 666 tb_666 rfl) rfl rfl 2 0 rfl rfl ⟨by decide, by decide, by decide +kernel, by decide +kernel, by decide, by decide⟩ (Nat.le_of_ble_eq_true rfl) ⟨rfl, rfl, rfl, trivial⟩ rfl d_Su_insertSorted_65 w))
  · replace w := w.2 cc1
    refine aw_iload_n (x := x2) d_Su_insertSorted_15 rfl ?_
    refine aw_iload_n (x := x3) d_Su_insertSorted_16 rfl ?_
    refine aw_iadd d_Su_insertSorted_17 ?_
    refine aw_iconst (v := (2 : Int32)) d_Su_insertSorted_18 (by decide) ?_
    refine aw_idiv d_Su_insertSorted_19 (by decide) ?_
    refine aw_istore d_Su_insertSorted_20 (by decide) ?_
    refine aw_aload_n (x := a0) d_Su_insertSorted_22 rfl ?_
    obtain ⟨hk5, w⟩ := w
    obtain ⟨b6, hb6, w⟩ := w
    refine gs_Su_20 rfl hk5 hb6 d_Su_insertSorted_23 ?_
    refine aw_aload_n (x := a0) d_Su_insertSorted_26 rfl ?_
    obtain ⟨b7, hb7, w⟩ := w
    refine gs_Su_54 rfl hk5 hb7 d_Su_insertSorted_27 ?_
    refine aw_iload (x := ((x2 + x3) / (2 : Int32))) d_Su_insertSorted_30 rfl ?_
    obtain ⟨hk8, w⟩ := w
    exact aw_room (cb' := 0 + cb) (sb' := 0 + sb) (by omega) (by omega) (aw_weak (lv' := [some (.ref a0), some (.ref a1), some (.int x2), some (.int x3), some (.int ((x2 + x3) / (2 : Int32)))]) ⟨rfl, rfl, rfl, rfl, rfl, trivial⟩ (aw_callV (M' := m_ArrayList_get) (lv0 := [some (.ref b7), some (.int ((x2 + x3) / (2 : Int32)))]) (As := [.int ((x2 + x3) / (2 : Int32))]) (rest := [.ref b6]) 9 657 590 592 rfl (by decide) rfl hk8 tb_657 tb_590 tb_592 (fun U hU => hU.t 591 tb_591 rfl) rfl rfl 1 1 rfl rfl ⟨by decide, by decide, by decide +kernel, by decide +kernel, by decide, by decide⟩ (Nat.le_of_ble_eq_true rfl) ⟨rfl, rfl, trivial⟩ rfl d_Su_insertSorted_32 w))
set_option maxRecDepth 20000 in
theorem r_Su_insertSorted_35 {E : zE} {K n : Nat → Nat} {I : Nat → Nat → Int32} {F : Nat → Nat → Option Nat} {J : Nat → Nat → Int64} {cb sb : Nat} {Q : zO → zH → Prop} {a0 : Nat} {a1 : Nat} {x2 : Int32} {x3 : Int32} {x4 : Int32} {sa0 : Nat} {sa1 : Nat}
    (w : K sa1 = 4 ∧ K sa0 = 6 ∧ AW E m_Statements_compareRows (K, n, I, F, J) 0 0 (zAft E m_Su_insertSorted cb sb Q 39 [some (.ref a0), some (.ref a1), some (.int x2), some (.int x3), some (.int x4)] []) 0 [some (.ref sa0), some (.ref sa1), some (.ref a1), none, none, none] []) :
    AW E m_Su_insertSorted (K, n, I, F, J) cb sb Q 35 [some (.ref a0), some (.ref a1), some (.int x2), some (.int x3), some (.int x4)] [.ref sa1, .ref sa0] := by
  obtain ⟨hk1, w⟩ := w
  refine aw_castO 3 128 rfl (by decide) tb_128 hk1 d_Su_insertSorted_35 ?_
  refine aw_aload_n (x := a1) d_Su_insertSorted_38 rfl ?_
  obtain ⟨hk2, w⟩ := w
  exact aw_room (cb' := 0 + cb) (sb' := 0 + sb) (by omega) (by omega) (aw_weak (lv' := [some (.ref a0), some (.ref a1), some (.int x2), some (.int x3), some (.int x4)]) ⟨rfl, rfl, rfl, rfl, rfl, trivial⟩ (aw_callV (M' := m_Statements_compareRows) (lv0 := [some (.ref sa0), some (.ref sa1), some (.ref a1), none, none, none]) (As := [.ref sa1, .ref a1]) (rest := []) 5 658 659 661 rfl (by decide) rfl hk2 tb_658 tb_659 tb_661 (fun U hU => hU.t 660 tb_660 rfl) rfl rfl 2 0 rfl rfl ⟨by decide, by decide, by decide +kernel, by decide +kernel, by decide, by decide⟩ (Nat.le_of_ble_eq_true rfl) ⟨rfl, rfl, rfl, trivial⟩ rfl d_Su_insertSorted_39 w))
set_option maxRecDepth 20000 in
theorem r_Su_insertSorted_42 {E : zE} {K n : Nat → Nat} {I : Nat → Nat → Int32} {F : Nat → Nat → Option Nat} {J : Nat → Nat → Int64} {cb sb : Nat} {Q : zO → zH → Prop} {a0 : Nat} {a1 : Nat} {x2 : Int32} {x3 : Int32} {x4 : Int32} {sx0 : Int32}
    (w : ((0 < sx0 → AW E m_Su_insertSorted (K, n, I, F, J) cb sb Q 10 [some (.ref a0), some (.ref a1), some (.int x2), some (.int x4), none] []) ∧ (¬ 0 < sx0 → AW E m_Su_insertSorted (K, n, I, F, J) cb sb Q 10 [some (.ref a0), some (.ref a1), some (.int (x4 + (1 : Int32))), some (.int x3), none] []))) :
    AW E m_Su_insertSorted (K, n, I, F, J) cb sb Q 42 [some (.ref a0), some (.ref a1), some (.int x2), some (.int x3), some (.int x4)] [.int sx0] := by
  refine aw_if_gt (tgt := 53) d_Su_insertSorted_42 (by decide) (fun cc1 => ?_) (fun cc1 => ?_)
  · replace w := w.1 cc1
    refine aw_iload (x := x4) d_Su_insertSorted_53 rfl ?_
    refine aw_istore_n d_Su_insertSorted_55 (by decide) ?_
    refine aw_goto (tgt := 10) d_Su_insertSorted_56 (by decide) ?_
    exact aw_weak (lv' := [some (.ref a0), some (.ref a1), some (.int x2), some (.int x4), none]) ⟨rfl, rfl, rfl, rfl, trivial⟩ w
  · replace w := w.2 cc1
    refine aw_iload (x := x4) d_Su_insertSorted_45 rfl ?_
    refine aw_iconst (v := (1 : Int32)) d_Su_insertSorted_47 (by decide) ?_
    refine aw_iadd d_Su_insertSorted_48 ?_
    refine aw_istore_n d_Su_insertSorted_49 (by decide) ?_
    refine aw_goto (tgt := 56) d_Su_insertSorted_50 (by decide) ?_
    refine aw_goto (tgt := 10) d_Su_insertSorted_56 (by decide) ?_
    exact aw_weak (lv' := [some (.ref a0), some (.ref a1), some (.int (x4 + (1 : Int32))), some (.int x3), none]) ⟨rfl, rfl, rfl, rfl, trivial⟩ w
set_option maxRecDepth 20000 in
theorem r_Su_insertSorted_68 {E : zE} {K n : Nat → Nat} {I : Nat → Nat → Int32} {F : Nat → Nat → Option Nat} {J : Nat → Nat → Int64} {cb sb : Nat} {Q : zO → zH → Prop}
    (w : Q (.inl none) (K, n, I, F, J)) :
    AW E m_Su_insertSorted (K, n, I, F, J) cb sb Q 68 [none, none, none, none, none] [] := by
  exact aw_return rfl d_Su_insertSorted_68 w
set_option maxRecDepth 20000 in
theorem r_Su_refuse_0 {E : zE} {K n : Nat → Nat} {I : Nat → Nat → Int32} {F : Nat → Nat → Option Nat} {J : Nat → Nat → Int64} {cb sb : Nat} {Q : zO → zH → Prop} {a0 : Nat} {a1 : Nat}
    (w : K a0 = 8 ∧ (∃ b2 : Nat, F a0 5 = some b2 ∧ K b2 = 5 ∧ (∃ c1 s1 c2 s2 : Nat, c1 + c2 ≤ cb ∧ s1 + s2 ≤ sb ∧ AW E m_Rows_add (K, n, I, F, J) c1 s1 (zAft E m_Su_refuse c2 s2 Q 4 [none, some (.ref a1), none] []) 0 [some (.ref b2), none] []))) :
    AW E m_Su_refuse (K, n, I, F, J) cb sb Q 0 [some (.ref a0), some (.ref a1), none] [] := by
  refine aw_aload_n (x := a0) d_Su_refuse_0 rfl ?_
  obtain ⟨hk1, w⟩ := w
  obtain ⟨b2, hb2, w⟩ := w
  refine gs_Su_34 rfl hk1 hb2 d_Su_refuse_1 ?_
  obtain ⟨hk3, w⟩ := w
  obtain ⟨c1, s1, c2, s2, hq1, hq2, w⟩ := w
  exact aw_room hq1 hq2 (aw_weak (lv' := [none, some (.ref a1), none]) ⟨rfl, trivial⟩ (aw_callV (M' := m_Rows_add) (lv0 := [some (.ref b2), none]) (As := []) (rest := []) 4 581 582 584 rfl (by decide) rfl hk3 tb_581 tb_582 tb_584 (fun U hU => hU.t 583 tb_583 rfl) rfl rfl 0 0 rfl rfl ⟨by decide, by decide, by decide +kernel, by decide +kernel, by decide, by decide⟩ (Nat.le_of_ble_eq_true rfl) ⟨rfl, trivial⟩ rfl d_Su_refuse_4 w))
set_option maxRecDepth 20000 in
theorem r_Su_refuse_7 {E : zE} {K n : Nat → Nat} {I : Nat → Nat → Int32} {F : Nat → Nat → Option Nat} {J : Nat → Nat → Int64} {cb sb : Nat} {Q : zO → zH → Prop} {a1 : Nat} {sr0 : Option Nat}
    (w : ((sr0 = none → AW E m_Su_refuse (K, n, I, F, J) cb sb Q 17 [none, none, none] []) ∧ (∀ z1 : Nat, sr0 = some z1 → K z1 = 4 ∧ AW E m_Row_become (K, n, I, F, J) 0 0 (zAft E m_Su_refuse cb sb Q 14 [none, none, none] []) 0 [some (.ref z1), some (.ref a1)] []))) :
    AW E m_Su_refuse (K, n, I, F, J) cb sb Q 7 [none, some (.ref a1), none] [va_rf sr0] := by
  refine aw_astore_nR d_Su_refuse_7 (by decide) ?_
  refine aw_aload_nR (r := sr0) d_Su_refuse_8 (by first | rfl | (cases sr0 <;> rfl)) ?_
  refine aw_ifnull (r := sr0) (tgt := 17) d_Su_refuse_9 (by decide) (fun cc2 => ?_) (fun z1 cc2 => ?_)
  · replace w := w.1 cc2
    subst cc2
    exact aw_weak (lv' := [none, none, none]) trivial w
  · replace w := w.2 z1 cc2
    subst cc2
    refine aw_aload_n (x := z1) d_Su_refuse_12 rfl ?_
    refine aw_aload_n (x := a1) d_Su_refuse_13 rfl ?_
    obtain ⟨hk3, w⟩ := w
    exact aw_room (cb' := 0 + cb) (sb' := 0 + sb) (by omega) (by omega) (aw_weak (lv' := [none, none, none]) trivial (aw_callV (M' := m_Row_become) (lv0 := [some (.ref z1), some (.ref a1)]) (As := [.ref a1]) (rest := []) 3 677 678 680 rfl (by decide) rfl hk3 tb_677 tb_678 tb_680 (fun U hU => hU.t 679 tb_679 rfl) rfl rfl 1 0 rfl rfl ⟨by decide, by decide, by decide +kernel, by decide +kernel, by decide, by decide⟩ (Nat.le_of_ble_eq_true rfl) ⟨rfl, rfl, trivial⟩ rfl d_Su_refuse_14 w))
set_option maxRecDepth 20000 in
theorem r_Su_refuse_17 {E : zE} {K n : Nat → Nat} {I : Nat → Nat → Int32} {F : Nat → Nat → Option Nat} {J : Nat → Nat → Int64} {cb sb : Nat} {Q : zO → zH → Prop}
    (w : Q (.inl none) (K, n, I, F, J)) :
    AW E m_Su_refuse (K, n, I, F, J) cb sb Q 17 [none, none, none] [] := by
  exact aw_return rfl d_Su_refuse_17 w
set_option maxRecDepth 20000 in
theorem r_Su_sumAndDeliver_0 {E : zE} {K n : Nat → Nat} {I : Nat → Nat → Int32} {F : Nat → Nat → Option Nat} {J : Nat → Nat → Int64} {cb sb : Nat} {Q : zO → zH → Prop} {a0 : Nat}
    (w : AW E m_Su_sumAndDeliver (K, n, I, F, J) cb sb Q 2 [some (.ref a0), some (.int (0 : Int32)), none] []) :
    AW E m_Su_sumAndDeliver (K, n, I, F, J) cb sb Q 0 [some (.ref a0), none, none] [] := by
  refine aw_iconst (v := (0 : Int32)) d_Su_sumAndDeliver_0 (by decide) ?_
  refine aw_istore_n d_Su_sumAndDeliver_1 (by decide) ?_
  exact aw_weak (lv' := [some (.ref a0), some (.int (0 : Int32)), none]) ⟨rfl, rfl, trivial⟩ w
set_option maxRecDepth 20000 in
theorem r_Su_sumAndDeliver_2 {E : zE} {K n : Nat → Nat} {I : Nat → Nat → Int32} {F : Nat → Nat → Option Nat} {J : Nat → Nat → Int64} {cb sb : Nat} {Q : zO → zH → Prop} {a0 : Nat} {x1 : Int32}
    (w : K a0 = 8 ∧ (∃ b2 : Nat, F a0 10 = some b2 ∧ K b2 = 10 ∧ AW E m_ArrayList_size (K, n, I, F, J) 0 0 (zAft E m_Su_sumAndDeliver cb sb Q 7 [some (.ref a0), some (.int x1), none] [.int x1]) 0 [some (.ref b2)] [])) :
    AW E m_Su_sumAndDeliver (K, n, I, F, J) cb sb Q 2 [some (.ref a0), some (.int x1), none] [] := by
  refine aw_iload_n (x := x1) d_Su_sumAndDeliver_2 rfl ?_
  refine aw_aload_n (x := a0) d_Su_sumAndDeliver_3 rfl ?_
  obtain ⟨hk1, w⟩ := w
  obtain ⟨b2, hb2, w⟩ := w
  refine gs_Su_54 rfl hk1 hb2 d_Su_sumAndDeliver_4 ?_
  obtain ⟨hk3, w⟩ := w
  exact aw_room (cb' := 0 + cb) (sb' := 0 + sb) (by omega) (by omega) (aw_weak (lv' := [some (.ref a0), some (.int x1), none]) ⟨rfl, rfl, trivial⟩ (aw_callV (M' := m_ArrayList_size) (lv0 := [some (.ref b2)]) (As := []) (rest := [.int x1]) 9 656 515 517 rfl (by decide) rfl hk3 tb_656 tb_515 tb_517 (fun U hU => hU.t 516 tb_516 rfl) rfl rfl 0 1 rfl rfl ⟨by decide, by decide, by decide +kernel, by decide +kernel, by decide, by decide⟩ (Nat.le_of_ble_eq_true rfl) ⟨rfl, trivial⟩ rfl d_Su_sumAndDeliver_7 w))
set_option maxRecDepth 20000 in
theorem r_Su_sumAndDeliver_10 {E : zE} {K n : Nat → Nat} {I : Nat → Nat → Int32} {F : Nat → Nat → Option Nat} {J : Nat → Nat → Int64} {cb sb : Nat} {Q : zO → zH → Prop} {a0 : Nat} {x1 : Int32} {sx0 : Int32} {sx1 : Int32}
    (w : ((sx1 ≤ sx0 → K a0 = 8 ∧ (∃ b3 : Nat, F a0 10 = some b3 ∧ K b3 = 10 ∧ AW E m_ArrayList_isEmpty (K, n, I, F, J) 0 0 (zAft E m_Su_sumAndDeliver cb sb Q 62 [some (.ref a0), none, none] []) 0 [some (.ref b3)] [])) ∧ (¬ sx1 ≤ sx0 → K a0 = 8 ∧ (∃ b6 : Nat, F a0 10 = some b6 ∧ K b6 = 10 ∧ AW E m_ArrayList_get (K, n, I, F, J) 0 0 (zAft E m_Su_sumAndDeliver cb sb Q 18 [some (.ref a0), some (.int x1), none] []) 0 [some (.ref b6), some (.int x1)] [])))) :
    AW E m_Su_sumAndDeliver (K, n, I, F, J) cb sb Q 10 [some (.ref a0), some (.int x1), none] [.int sx1, .int sx0] := by
  refine aw_icmp_ge (tgt := 58) d_Su_sumAndDeliver_10 (by decide) (fun cc1 => ?_) (fun cc1 => ?_)
  · replace w := w.1 cc1
    refine aw_aload_n (x := a0) d_Su_sumAndDeliver_58 rfl ?_
    obtain ⟨hk2, w⟩ := w
    obtain ⟨b3, hb3, w⟩ := w
    refine gs_Su_54 rfl hk2 hb3 d_Su_sumAndDeliver_59 ?_
    obtain ⟨hk4, w⟩ := w
    exact aw_room (cb' := 0 + cb) (sb' := 0 + sb) (by omega) (by omega) (aw_weak (lv' := [some (.ref a0), none, none]) ⟨rfl, trivial⟩ (aw_callV (M' := m_ArrayList_isEmpty) (lv0 := [some (.ref b3)]) (As := []) (rest := []) 9 690 626 628 rfl (by decide) rfl hk4 tb_690 tb_626 tb_628 (fun U hU => hU.t 627 tb_627 rfl) rfl rfl 0 0 rfl rfl ⟨by decide, by decide, by decide +kernel, by decide +kernel, by decide, by decide⟩ (Nat.le_of_ble_eq_true rfl) ⟨rfl, trivial⟩ rfl d_Su_sumAndDeliver_62 w))
  · replace w := w.2 cc1
    refine aw_aload_n (x := a0) d_Su_sumAndDeliver_13 rfl ?_
    obtain ⟨hk5, w⟩ := w
    obtain ⟨b6, hb6, w⟩ := w
    refine gs_Su_54 rfl hk5 hb6 d_Su_sumAndDeliver_14 ?_
    refine aw_iload_n (x := x1) d_Su_sumAndDeliver_17 rfl ?_
    obtain ⟨hk7, w⟩ := w
    exact aw_room (cb' := 0 + cb) (sb' := 0 + sb) (by omega) (by omega) (aw_weak (lv' := [some (.ref a0), some (.int x1), none]) ⟨rfl, rfl, trivial⟩ (aw_callV (M' := m_ArrayList_get) (lv0 := [some (.ref b6), some (.int x1)]) (As := [.int x1]) (rest := []) 9 657 590 592 rfl (by decide) rfl hk7 tb_657 tb_590 tb_592 (fun U hU => hU.t 591 tb_591 rfl) rfl rfl 1 0 rfl rfl ⟨by decide, by decide, by decide +kernel, by decide +kernel, by decide, by decide⟩ (Nat.le_of_ble_eq_true rfl) ⟨rfl, rfl, trivial⟩ rfl d_Su_sumAndDeliver_18 w))
set_option maxRecDepth 20000 in
theorem r_Su_sumAndDeliver_21 {E : zE} {K n : Nat → Nat} {I : Nat → Nat → Int32} {F : Nat → Nat → Option Nat} {J : Nat → Nat → Int64} {cb sb : Nat} {Q : zO → zH → Prop} {a0 : Nat} {x1 : Int32} {sa0 : Nat}
    (w : K sa0 = 4 ∧ ((x1 ≤ 0 → AW E m_Su_sumAndDeliver (K, n, I, F, J) cb sb Q 44 [some (.ref a0), some (.int x1), some (.ref sa0)] []) ∧ (¬ x1 ≤ 0 → K a0 = 8 ∧ AW E m_Su_heldTakesUp (K, n, I, F, J) 0 0 (zAft E m_Su_sumAndDeliver cb sb Q 31 [some (.ref a0), some (.int x1), some (.ref sa0)] []) 0 [some (.ref a0), some (.ref sa0), none] []))) :
    AW E m_Su_sumAndDeliver (K, n, I, F, J) cb sb Q 21 [some (.ref a0), some (.int x1), none] [.ref sa0] := by
  obtain ⟨hk1, w⟩ := w
  refine aw_castO 3 128 rfl (by decide) tb_128 hk1 d_Su_sumAndDeliver_21 ?_
  refine aw_astore_n d_Su_sumAndDeliver_24 (by decide) ?_
  refine aw_iload_n (x := x1) d_Su_sumAndDeliver_25 rfl ?_
  refine aw_if_le (tgt := 44) d_Su_sumAndDeliver_26 (by decide) (fun cc2 => ?_) (fun cc2 => ?_)
  · replace w := w.1 cc2
    exact aw_weak (lv' := [some (.ref a0), some (.int x1), some (.ref sa0)]) ⟨rfl, rfl, rfl, trivial⟩ w
  · replace w := w.2 cc2
    refine aw_aload_n (x := a0) d_Su_sumAndDeliver_29 rfl ?_
    refine aw_aload_n (x := sa0) d_Su_sumAndDeliver_30 rfl ?_
    obtain ⟨hk3, w⟩ := w
    exact aw_room (cb' := 0 + cb) (sb' := 0 + sb) (by omega) (by omega) (aw_weak (lv' := [some (.ref a0), some (.int x1), some (.ref sa0)]) ⟨rfl, rfl, rfl, trivial⟩ (aw_callV (M' := m_Su_heldTakesUp) (lv0 := [some (.ref a0), some (.ref sa0), none]) (As := [.ref sa0]) (rest := []) 7 686 688 689 rfl (by decide) rfl hk3 tb_686 tb_688 tb_689 (fun U hU => hU.p 23 rfl) rfl rfl 1 0 rfl rfl ⟨by decide, by decide, by decide +kernel, by decide +kernel, by decide, by decide⟩ (Nat.le_of_ble_eq_true rfl) ⟨rfl, rfl, trivial⟩ rfl d_Su_sumAndDeliver_31 w))
set_option maxRecDepth 20000 in
theorem r_Su_sumAndDeliver_34 {E : zE} {K n : Nat → Nat} {I : Nat → Nat → Int32} {F : Nat → Nat → Option Nat} {J : Nat → Nat → Int64} {cb sb : Nat} {Q : zO → zH → Prop} {a0 : Nat} {x1 : Int32} {a2 : Nat} {sx0 : Int32}
    (w : ((sx0 = 0 → K a0 = 8 ∧ (∃ c1 s1 c2 s2 : Nat, c1 + c2 ≤ cb ∧ s1 + s2 ≤ sb ∧ AW E m_Su_deliverHeld (K, n, I, F, J) c1 s1 (zAft E m_Su_sumAndDeliver c2 s2 Q 41 [some (.ref a0), some (.int x1), some (.ref a2)] []) 0 [some (.ref a0), none] [])) ∧ (¬ sx0 = 0 → AW E m_Su_sumAndDeliver (K, n, I, F, J) cb sb Q 52 [some (.ref a0), some (.int x1), none] []))) :
    AW E m_Su_sumAndDeliver (K, n, I, F, J) cb sb Q 34 [some (.ref a0), some (.int x1), some (.ref a2)] [.int sx0] := by
  refine aw_if_eq (tgt := 40) d_Su_sumAndDeliver_34 (by decide) (fun cc1 => ?_) (fun cc1 => ?_)
  · replace w := w.1 cc1
    refine aw_aload_n (x := a0) d_Su_sumAndDeliver_40 rfl ?_
    obtain ⟨hk2, w⟩ := w
    obtain ⟨c1, s1, c2, s2, hq1, hq2, w⟩ := w
    exact aw_room hq1 hq2 (aw_weak (lv' := [some (.ref a0), some (.int x1), some (.ref a2)]) ⟨rfl, rfl, rfl, trivial⟩ (aw_callV (M' := m_Su_deliverHeld) (lv0 := [some (.ref a0), none]) (As := []) (rest := []) 7 717 719 720 rfl (by decide) rfl hk2 tb_717 tb_719 tb_720 (fun U hU => hU.p 25 rfl) rfl rfl 0 0 rfl rfl ⟨by decide, by decide, by decide +kernel, by decide +kernel, by decide, by decide⟩ (Nat.le_of_ble_eq_true rfl) ⟨rfl, trivial⟩ rfl d_Su_sumAndDeliver_41 w))
  · replace w := w.2 cc1
    refine aw_goto (tgt := 52) d_Su_sumAndDeliver_37 (by decide) ?_
    exact aw_weak (lv' := [some (.ref a0), some (.int x1), none]) ⟨rfl, rfl, trivial⟩ w
set_option maxRecDepth 20000 in
theorem r_Su_sumAndDeliver_44 {E : zE} {K n : Nat → Nat} {I : Nat → Nat → Int32} {F : Nat → Nat → Option Nat} {J : Nat → Nat → Int64} {cb sb : Nat} {Q : zO → zH → Prop} {a0 : Nat} {x1 : Int32} {a2 : Nat}
    (w : K a0 = 8 ∧ (∃ b2 : Nat, F a0 11 = some b2 ∧ K b2 = 4 ∧ AW E m_Row_become (K, n, I, F, J) 0 0 (zAft E m_Su_sumAndDeliver cb sb Q 49 [some (.ref a0), some (.int x1), none] []) 0 [some (.ref b2), some (.ref a2)] [])) :
    AW E m_Su_sumAndDeliver (K, n, I, F, J) cb sb Q 44 [some (.ref a0), some (.int x1), some (.ref a2)] [] := by
  refine aw_aload_n (x := a0) d_Su_sumAndDeliver_44 rfl ?_
  obtain ⟨hk1, w⟩ := w
  obtain ⟨b2, hb2, w⟩ := w
  refine gs_Su_60 rfl hk1 hb2 d_Su_sumAndDeliver_45 ?_
  refine aw_aload_n (x := a2) d_Su_sumAndDeliver_48 rfl ?_
  obtain ⟨hk3, w⟩ := w
  exact aw_room (cb' := 0 + cb) (sb' := 0 + sb) (by omega) (by omega) (aw_weak (lv' := [some (.ref a0), some (.int x1), none]) ⟨rfl, rfl, trivial⟩ (aw_callV (M' := m_Row_become) (lv0 := [some (.ref b2), some (.ref a2)]) (As := [.ref a2]) (rest := []) 3 677 678 680 rfl (by decide) rfl hk3 tb_677 tb_678 tb_680 (fun U hU => hU.t 679 tb_679 rfl) rfl rfl 1 0 rfl rfl ⟨by decide, by decide, by decide +kernel, by decide +kernel, by decide, by decide⟩ (Nat.le_of_ble_eq_true rfl) ⟨rfl, rfl, trivial⟩ rfl d_Su_sumAndDeliver_49 w))
set_option maxRecDepth 20000 in
theorem r_Su_sumAndDeliver_52 {E : zE} {K n : Nat → Nat} {I : Nat → Nat → Int32} {F : Nat → Nat → Option Nat} {J : Nat → Nat → Int64} {cb sb : Nat} {Q : zO → zH → Prop} {a0 : Nat} {x1 : Int32}
    (w : AW E m_Su_sumAndDeliver (K, n, I, F, J) cb sb Q 2 [some (.ref a0), some (.int (x1 + (1 : Int32))), none] []) :
    AW E m_Su_sumAndDeliver (K, n, I, F, J) cb sb Q 52 [some (.ref a0), some (.int x1), none] [] := by
  refine aw_iinc (v := (x1 + (1 : Int32))) d_Su_sumAndDeliver_52 rfl (by rfl) (by decide) ?_
  refine aw_goto (tgt := 2) d_Su_sumAndDeliver_55 (by decide) ?_
  exact aw_weak (lv' := [some (.ref a0), some (.int (x1 + (1 : Int32))), none]) ⟨rfl, rfl, trivial⟩ w
set_option maxRecDepth 20000 in
theorem r_Su_sumAndDeliver_65 {E : zE} {K n : Nat → Nat} {I : Nat → Nat → Int32} {F : Nat → Nat → Option Nat} {J : Nat → Nat → Int64} {cb sb : Nat} {Q : zO → zH → Prop} {a0 : Nat} {sx0 : Int32}
    (w : ((¬ sx0 = 0 → AW E m_Su_sumAndDeliver (K, n, I, F, J) cb sb Q 72 [none, none, none] []) ∧ (sx0 = 0 → K a0 = 8 ∧ (∃ c1 s1 c2 s2 : Nat, c1 + c2 ≤ cb ∧ s1 + s2 ≤ sb ∧ AW E m_Su_deliverHeld (K, n, I, F, J) c1 s1 (zAft E m_Su_sumAndDeliver c2 s2 Q 69 [none, none, none] []) 0 [some (.ref a0), none] [])))) :
    AW E m_Su_sumAndDeliver (K, n, I, F, J) cb sb Q 65 [some (.ref a0), none, none] [.int sx0] := by
  refine aw_if_ne (tgt := 72) d_Su_sumAndDeliver_65 (by decide) (fun cc1 => ?_) (fun cc1 => ?_)
  · replace w := w.1 cc1
    exact aw_weak (lv' := [none, none, none]) trivial w
  · replace w := w.2 cc1
    refine aw_aload_n (x := a0) d_Su_sumAndDeliver_68 rfl ?_
    obtain ⟨hk2, w⟩ := w
    obtain ⟨c1, s1, c2, s2, hq1, hq2, w⟩ := w
    exact aw_room hq1 hq2 (aw_weak (lv' := [none, none, none]) trivial (aw_callV (M' := m_Su_deliverHeld) (lv0 := [some (.ref a0), none]) (As := []) (rest := []) 7 717 719 720 rfl (by decide) rfl hk2 tb_717 tb_719 tb_720 (fun U hU => hU.p 25 rfl) rfl rfl 0 0 rfl rfl ⟨by decide, by decide, by decide +kernel, by decide +kernel, by decide, by decide⟩ (Nat.le_of_ble_eq_true rfl) ⟨rfl, trivial⟩ rfl d_Su_sumAndDeliver_69 w))
set_option maxRecDepth 20000 in
theorem r_Su_sumAndDeliver_72 {E : zE} {K n : Nat → Nat} {I : Nat → Nat → Int32} {F : Nat → Nat → Option Nat} {J : Nat → Nat → Int64} {cb sb : Nat} {Q : zO → zH → Prop}
    (w : Q (.inl none) (K, n, I, F, J)) :
    AW E m_Su_sumAndDeliver (K, n, I, F, J) cb sb Q 72 [none, none, none] [] := by
  exact aw_return rfl d_Su_sumAndDeliver_72 w
set_option maxRecDepth 20000 in
theorem r_Su_heldTakesUp_0 {E : zE} {K n : Nat → Nat} {I : Nat → Nat → Int32} {F : Nat → Nat → Option Nat} {J : Nat → Nat → Int64} {cb sb : Nat} {Q : zO → zH → Prop} {a0 : Nat} {a1 : Nat}
    (w : K a0 = 8 ∧ (∃ b2 : Nat, F a0 2 = some b2 ∧ K b2 = 6 ∧ (∃ b4 : Nat, F b2 0 = some b4 ∧ K b4 = 10 ∧ AW E m_ArrayList_isEmpty (K, n, I, F, J) 0 0 (zAft E m_Su_heldTakesUp cb sb Q 7 [some (.ref a0), some (.ref a1), none] []) 0 [some (.ref b4)] []))) :
    AW E m_Su_heldTakesUp (K, n, I, F, J) cb sb Q 0 [some (.ref a0), some (.ref a1), none] [] := by
  refine aw_aload_n (x := a0) d_Su_heldTakesUp_0 rfl ?_
  obtain ⟨hk1, w⟩ := w
  obtain ⟨b2, hb2, w⟩ := w
  refine gs_Su_20 rfl hk1 hb2 d_Su_heldTakesUp_1 ?_
  obtain ⟨hk3, w⟩ := w
  obtain ⟨b4, hb4, w⟩ := w
  refine gs_Su_144 rfl hk3 hb4 d_Su_heldTakesUp_4 ?_
  obtain ⟨hk5, w⟩ := w
  exact aw_room (cb' := 0 + cb) (sb' := 0 + sb) (by omega) (by omega) (aw_weak (lv' := [some (.ref a0), some (.ref a1), none]) ⟨rfl, rfl, trivial⟩ (aw_callV (M' := m_ArrayList_isEmpty) (lv0 := [some (.ref b4)]) (As := []) (rest := []) 9 690 626 628 rfl (by decide) rfl hk5 tb_690 tb_626 tb_628 (fun U hU => hU.t 627 tb_627 rfl) rfl rfl 0 0 rfl rfl ⟨by decide, by decide, by decide +kernel, by decide +kernel, by decide, by decide⟩ (Nat.le_of_ble_eq_true rfl) ⟨rfl, trivial⟩ rfl d_Su_heldTakesUp_7 w))
set_option maxRecDepth 20000 in
theorem r_Su_heldTakesUp_10 {E : zE} {K n : Nat → Nat} {I : Nat → Nat → Int32} {F : Nat → Nat → Option Nat} {J : Nat → Nat → Int64} {cb sb : Nat} {Q : zO → zH → Prop} {a0 : Nat} {a1 : Nat} {sx0 : Int32}
    (w : ((¬ sx0 = 0 → Q (.inl (some (.int (0 : Int32)))) (K, n, I, F, J)) ∧ (sx0 = 0 → K a0 = 8 ∧ (∃ b3 : Nat, F a0 2 = some b3 ∧ K b3 = 6 ∧ (∃ b5 : Nat, F b3 2 = some b5 ∧ K b5 = 10 ∧ AW E m_ArrayList_isEmpty (K, n, I, F, J) 0 0 (zAft E m_Su_heldTakesUp cb sb Q 20 [some (.ref a0), some (.ref a1), none] []) 0 [some (.ref b5)] []))))) :
    AW E m_Su_heldTakesUp (K, n, I, F, J) cb sb Q 10 [some (.ref a0), some (.ref a1), none] [.int sx0] := by
  refine aw_if_ne (tgt := 41) d_Su_heldTakesUp_10 (by decide) (fun cc1 => ?_) (fun cc1 => ?_)
  · replace w := w.1 cc1
    refine aw_iconst (v := (0 : Int32)) d_Su_heldTakesUp_41 (by decide) ?_
    exact aw_ireturn .boolean rfl rfl d_Su_heldTakesUp_42 w
  · replace w := w.2 cc1
    refine aw_aload_n (x := a0) d_Su_heldTakesUp_13 rfl ?_
    obtain ⟨hk2, w⟩ := w
    obtain ⟨b3, hb3, w⟩ := w
    refine gs_Su_20 rfl hk2 hb3 d_Su_heldTakesUp_14 ?_
    obtain ⟨hk4, w⟩ := w
    obtain ⟨b5, hb5, w⟩ := w
    refine gs_Su_179 rfl hk4 hb5 d_Su_heldTakesUp_17 ?_
    obtain ⟨hk6, w⟩ := w
    exact aw_room (cb' := 0 + cb) (sb' := 0 + sb) (by omega) (by omega) (aw_weak (lv' := [some (.ref a0), some (.ref a1), none]) ⟨rfl, rfl, trivial⟩ (aw_callV (M' := m_ArrayList_isEmpty) (lv0 := [some (.ref b5)]) (As := []) (rest := []) 9 690 626 628 rfl (by decide) rfl hk6 tb_690 tb_626 tb_628 (fun U hU => hU.t 627 tb_627 rfl) rfl rfl 0 0 rfl rfl ⟨by decide, by decide, by decide +kernel, by decide +kernel, by decide, by decide⟩ (Nat.le_of_ble_eq_true rfl) ⟨rfl, trivial⟩ rfl d_Su_heldTakesUp_20 w))
set_option maxRecDepth 20000 in
theorem r_Su_heldTakesUp_23 {E : zE} {K n : Nat → Nat} {I : Nat → Nat → Int32} {F : Nat → Nat → Option Nat} {J : Nat → Nat → Int64} {cb sb : Nat} {Q : zO → zH → Prop} {a0 : Nat} {a1 : Nat} {sx0 : Int32}
    (w : ((¬ sx0 = 0 → Q (.inl (some (.int (0 : Int32)))) (K, n, I, F, J)) ∧ (sx0 = 0 → K a0 = 8 ∧ (∃ b3 : Nat, F a0 2 = some b3 ∧ (∃ b4 : Nat, F a0 11 = some b4 ∧ K b3 = 6 ∧ AW E m_Statements_compareRows (K, n, I, F, J) 0 0 (zAft E m_Su_heldTakesUp cb sb Q 35 [some (.ref a0), some (.ref a1), none] []) 0 [some (.ref b3), some (.ref b4), some (.ref a1), none, none, none] []))))) :
    AW E m_Su_heldTakesUp (K, n, I, F, J) cb sb Q 23 [some (.ref a0), some (.ref a1), none] [.int sx0] := by
  refine aw_if_ne (tgt := 41) d_Su_heldTakesUp_23 (by decide) (fun cc1 => ?_) (fun cc1 => ?_)
  · replace w := w.1 cc1
    refine aw_iconst (v := (0 : Int32)) d_Su_heldTakesUp_41 (by decide) ?_
    exact aw_ireturn .boolean rfl rfl d_Su_heldTakesUp_42 w
  · replace w := w.2 cc1
    refine aw_aload_n (x := a0) d_Su_heldTakesUp_26 rfl ?_
    obtain ⟨hk2, w⟩ := w
    obtain ⟨b3, hb3, w⟩ := w
    refine gs_Su_20 rfl hk2 hb3 d_Su_heldTakesUp_27 ?_
    refine aw_aload_n (x := a0) d_Su_heldTakesUp_30 rfl ?_
    obtain ⟨b4, hb4, w⟩ := w
    refine gs_Su_60 rfl hk2 hb4 d_Su_heldTakesUp_31 ?_
    refine aw_aload_n (x := a1) d_Su_heldTakesUp_34 rfl ?_
    obtain ⟨hk5, w⟩ := w
    exact aw_room (cb' := 0 + cb) (sb' := 0 + sb) (by omega) (by omega) (aw_weak (lv' := [some (.ref a0), some (.ref a1), none]) ⟨rfl, rfl, trivial⟩ (aw_callV (M' := m_Statements_compareRows) (lv0 := [some (.ref b3), some (.ref b4), some (.ref a1), none, none, none]) (As := [.ref b4, .ref a1]) (rest := []) 5 658 659 661 rfl (by decide) rfl hk5 tb_658 tb_659 tb_661 (fun U hU => hU.t 660 tb_660 rfl) rfl rfl 2 0 rfl rfl ⟨by decide, by decide, by decide +kernel, by decide +kernel, by decide, by decide⟩ (Nat.le_of_ble_eq_true rfl) ⟨rfl, rfl, rfl, trivial⟩ rfl d_Su_heldTakesUp_35 w))
set_option maxRecDepth 20000 in
theorem r_Su_heldTakesUp_38 {E : zE} {K n : Nat → Nat} {I : Nat → Nat → Int32} {F : Nat → Nat → Option Nat} {J : Nat → Nat → Int64} {cb sb : Nat} {Q : zO → zH → Prop} {a0 : Nat} {a1 : Nat} {sx0 : Int32}
    (w : ((sx0 = 0 → K a0 = 8 ∧ AW E m_Su_sumsHavePlace (K, n, I, F, J) 0 0 (zAft E m_Su_heldTakesUp cb sb Q 45 [some (.ref a0), none, none] []) 0 [some (.ref a0), some (.ref a1), none, none] []) ∧ (¬ sx0 = 0 → Q (.inl (some (.int (0 : Int32)))) (K, n, I, F, J)))) :
    AW E m_Su_heldTakesUp (K, n, I, F, J) cb sb Q 38 [some (.ref a0), some (.ref a1), none] [.int sx0] := by
  refine aw_if_eq (tgt := 43) d_Su_heldTakesUp_38 (by decide) (fun cc1 => ?_) (fun cc1 => ?_)
  · replace w := w.1 cc1
    refine aw_aload_n (x := a0) d_Su_heldTakesUp_43 rfl ?_
    refine aw_aload_n (x := a1) d_Su_heldTakesUp_44 rfl ?_
    obtain ⟨hk2, w⟩ := w
    exact aw_room (cb' := 0 + cb) (sb' := 0 + sb) (by omega) (by omega) (aw_weak (lv' := [some (.ref a0), none, none]) ⟨rfl, trivial⟩ (aw_callV (M' := m_Su_sumsHavePlace) (lv0 := [some (.ref a0), some (.ref a1), none, none]) (As := [.ref a1]) (rest := []) 7 691 693 694 rfl (by decide) rfl hk2 tb_691 tb_693 tb_694 (fun U hU => hU.p 24 rfl) rfl rfl 1 0 rfl rfl ⟨by decide, by decide, by decide +kernel, by decide +kernel, by decide, by decide⟩ (Nat.le_of_ble_eq_true rfl) ⟨rfl, rfl, trivial⟩ rfl d_Su_heldTakesUp_45 w))
  · replace w := w.2 cc1
    refine aw_iconst (v := (0 : Int32)) d_Su_heldTakesUp_41 (by decide) ?_
    exact aw_ireturn .boolean rfl rfl d_Su_heldTakesUp_42 w
set_option maxRecDepth 20000 in
theorem r_Su_heldTakesUp_48 {E : zE} {K n : Nat → Nat} {I : Nat → Nat → Int32} {F : Nat → Nat → Option Nat} {J : Nat → Nat → Int64} {cb sb : Nat} {Q : zO → zH → Prop} {a0 : Nat} {sx0 : Int32}
    (w : ((¬ sx0 = 0 → AW E m_Su_heldTakesUp (K, n, I, F, J) cb sb Q 67 [some (.ref a0), none, some (.int (0 : Int32))] []) ∧ (sx0 = 0 → K a0 = 8 ∧ AW E m_Math_max (K, n, I, F, J) 0 0 (zAft E m_Su_heldTakesUp cb sb Q 57 [none, none, none] [.ref a0]) 0 [some (.int (I a0 14)), some (.int (4 : Int32))] []))) :
    AW E m_Su_heldTakesUp (K, n, I, F, J) cb sb Q 48 [some (.ref a0), none, none] [.int sx0] := by
  refine aw_if_ne (tgt := 65) d_Su_heldTakesUp_48 (by decide) (fun cc1 => ?_) (fun cc1 => ?_)
  · replace w := w.1 cc1
    refine aw_iconst (v := (0 : Int32)) d_Su_heldTakesUp_65 (by decide) ?_
    refine aw_istore_n d_Su_heldTakesUp_66 (by decide) ?_
    exact aw_weak (lv' := [some (.ref a0), none, some (.int (0 : Int32))]) ⟨rfl, rfl, trivial⟩ w
  · replace w := w.2 cc1
    refine aw_aload_n (x := a0) d_Su_heldTakesUp_51 rfl ?_
    refine aw_aload_n (x := a0) d_Su_heldTakesUp_52 rfl ?_
    obtain ⟨hk2, w⟩ := w
    refine gf_Su_71 rfl hk2 d_Su_heldTakesUp_53 ?_
    refine aw_iconst (v := (4 : Int32)) d_Su_heldTakesUp_56 (by decide) ?_
    exact aw_room (cb' := 0 + cb) (sb' := 0 + sb) (by omega) (by omega) (aw_weak (lv' := [none, none, none]) trivial (aw_callS (M' := m_Math_max) (lv0 := [some (.int (I a0 14)), some (.int (4 : Int32))]) (As := [.int (I a0 14), .int (4 : Int32)]) (rest := [.ref a0]) 638 476 477 10 tb_638 tb_476 tb_477 tb_10 rfl rfl 2 1 rfl rfl ⟨by decide, by decide, by decide +kernel, by decide +kernel, by decide, by decide⟩ (Nat.le_of_ble_eq_true rfl) ⟨rfl, rfl, trivial⟩ rfl d_Su_heldTakesUp_57 w))
set_option maxRecDepth 20000 in
theorem r_Su_heldTakesUp_60 {E : zE} {K n : Nat → Nat} {I : Nat → Nat → Int32} {F : Nat → Nat → Option Nat} {J : Nat → Nat → Int64} {cb sb : Nat} {Q : zO → zH → Prop} {sa0 : Nat} {sx1 : Int32}
    (w : K sa0 = 8 ∧ Q (.inl (some (.int (0 : Int32)))) (K, n, (zup I sa0 14 sx1), F, J)) :
    AW E m_Su_heldTakesUp (K, n, I, F, J) cb sb Q 60 [none, none, none] [.int sx1, .ref sa0] := by
  obtain ⟨hk1, w⟩ := w
  refine pf_Su_71 rfl hk1 d_Su_heldTakesUp_60 ?_
  refine aw_iconst (v := (0 : Int32)) d_Su_heldTakesUp_63 (by decide) ?_
  exact aw_ireturn .boolean rfl rfl d_Su_heldTakesUp_64 w
set_option maxRecDepth 20000 in
theorem r_Su_heldTakesUp_67 {E : zE} {K n : Nat → Nat} {I : Nat → Nat → Int32} {F : Nat → Nat → Option Nat} {J : Nat → Nat → Int64} {cb sb : Nat} {Q : zO → zH → Prop} {a0 : Nat} {x2 : Int32}
    (w : K a0 = 8 ∧ (∃ b2 : Nat, F a0 2 = some b2 ∧ K b2 = 6 ∧ (∃ b4 : Nat, F b2 2 = some b4 ∧ K b4 = 10 ∧ AW E m_ArrayList_size (K, n, I, F, J) 0 0 (zAft E m_Su_heldTakesUp cb sb Q 75 [some (.ref a0), none, some (.int x2)] [.int x2]) 0 [some (.ref b4)] []))) :
    AW E m_Su_heldTakesUp (K, n, I, F, J) cb sb Q 67 [some (.ref a0), none, some (.int x2)] [] := by
  refine aw_iload_n (x := x2) d_Su_heldTakesUp_67 rfl ?_
  refine aw_aload_n (x := a0) d_Su_heldTakesUp_68 rfl ?_
  obtain ⟨hk1, w⟩ := w
  obtain ⟨b2, hb2, w⟩ := w
  refine gs_Su_20 rfl hk1 hb2 d_Su_heldTakesUp_69 ?_
  obtain ⟨hk3, w⟩ := w
  obtain ⟨b4, hb4, w⟩ := w
  refine gs_Su_179 rfl hk3 hb4 d_Su_heldTakesUp_72 ?_
  obtain ⟨hk5, w⟩ := w
  exact aw_room (cb' := 0 + cb) (sb' := 0 + sb) (by omega) (by omega) (aw_weak (lv' := [some (.ref a0), none, some (.int x2)]) ⟨rfl, rfl, trivial⟩ (aw_callV (M' := m_ArrayList_size) (lv0 := [some (.ref b4)]) (As := []) (rest := [.int x2]) 9 656 515 517 rfl (by decide) rfl hk5 tb_656 tb_515 tb_517 (fun U hU => hU.t 516 tb_516 rfl) rfl rfl 0 1 rfl rfl ⟨by decide, by decide, by decide +kernel, by decide +kernel, by decide, by decide⟩ (Nat.le_of_ble_eq_true rfl) ⟨rfl, trivial⟩ rfl d_Su_heldTakesUp_75 w))
set_option maxRecDepth 20000 in
theorem r_Su_heldTakesUp_78 {E : zE} {K n : Nat → Nat} {I : Nat → Nat → Int32} {F : Nat → Nat → Option Nat} {J : Nat → Nat → Int64} {cb sb : Nat} {Q : zO → zH → Prop} {a0 : Nat} {x2 : Int32} {sx0 : Int32} {sx1 : Int32}
    (w : ((sx1 ≤ sx0 → K a0 = 8 ∧ (∃ b3 : Nat, F a0 11 = some b3 ∧ K b3 = 4 ∧ Q (.inl (some (.int (1 : Int32)))) (K, n, (zup I b3 4 ((I b3 4) + (1 : Int32))), F, J))) ∧ (¬ sx1 ≤ sx0 → K a0 = 8 ∧ (∃ b6 : Nat, F a0 12 = some b6 ∧ (20 ≤ K b6 ∧ K b6 ≤ 23) ∧ (((nI (n b6)) ≤ x2 → (∃ b9 : Nat, F a0 11 = some b9 ∧ K b9 = 4 ∧ Q (.inl (some (.int (1 : Int32)))) (K, n, (zup I b9 4 ((I b9 4) + (1 : Int32))), F, J))) ∧ (¬ (nI (n b6)) ≤ x2 → (∃ b11 : Nat, F a0 2 = some b11 ∧ K b11 = 6 ∧ (∃ b13 : Nat, F b11 2 = some b13 ∧ K b13 = 10 ∧ AW E m_ArrayList_get (K, n, I, F, J) 0 0 (zAft E m_Su_heldTakesUp cb sb Q 98 [some (.ref a0), none, some (.int x2)] []) 0 [some (.ref b13), some (.int x2)] [])))))))) :
    AW E m_Su_heldTakesUp (K, n, I, F, J) cb sb Q 78 [some (.ref a0), none, some (.int x2)] [.int sx1, .int sx0] := by
  refine aw_icmp_ge (tgt := 123) d_Su_heldTakesUp_78 (by decide) (fun cc1 => ?_) (fun cc1 => ?_)
  · replace w := w.1 cc1
    refine aw_aload_n (x := a0) d_Su_heldTakesUp_123 rfl ?_
    obtain ⟨hk2, w⟩ := w
    obtain ⟨b3, hb3, w⟩ := w
    refine gs_Su_60 rfl hk2 hb3 d_Su_heldTakesUp_124 ?_
    refine aw_dup d_Su_heldTakesUp_127 rfl ?_
    obtain ⟨hk4, w⟩ := w
    refine gf_Su_141 rfl hk4 d_Su_heldTakesUp_128 ?_
    refine aw_iconst (v := (1 : Int32)) d_Su_heldTakesUp_131 (by decide) ?_
    refine aw_iadd d_Su_heldTakesUp_132 ?_
    refine pf_Su_141 rfl hk4 d_Su_heldTakesUp_133 ?_
    refine aw_iconst (v := (1 : Int32)) d_Su_heldTakesUp_136 (by decide) ?_
    exact aw_ireturn .boolean rfl rfl d_Su_heldTakesUp_137 w
  · replace w := w.2 cc1
    refine aw_iload_n (x := x2) d_Su_heldTakesUp_81 rfl ?_
    refine aw_aload_n (x := a0) d_Su_heldTakesUp_82 rfl ?_
    obtain ⟨hk5, w⟩ := w
    obtain ⟨b6, hb6, w⟩ := w
    refine gs_Su_64 rfl hk5 hb6 d_Su_heldTakesUp_83 ?_
    obtain ⟨hk7, w⟩ := w
    refine aw_alen hk7.1 hk7.2 d_Su_heldTakesUp_86 ?_
    refine aw_icmp_ge (tgt := 123) d_Su_heldTakesUp_87 (by decide) (fun cc8 => ?_) (fun cc8 => ?_)
    · replace w := w.1 cc8
      refine aw_aload_n (x := a0) d_Su_heldTakesUp_123 rfl ?_
      obtain ⟨b9, hb9, w⟩ := w
      refine gs_Su_60 rfl hk5 hb9 d_Su_heldTakesUp_124 ?_
      refine aw_dup d_Su_heldTakesUp_127 rfl ?_
      obtain ⟨hk10, w⟩ := w
      refine gf_Su_141 rfl hk10 d_Su_heldTakesUp_128 ?_
      refine aw_iconst (v := (1 : Int32)) d_Su_heldTakesUp_131 (by decide) ?_
      refine aw_iadd d_Su_heldTakesUp_132 ?_
      refine pf_Su_141 rfl hk10 d_Su_heldTakesUp_133 ?_
      refine aw_iconst (v := (1 : Int32)) d_Su_heldTakesUp_136 (by decide) ?_
      exact aw_ireturn .boolean rfl rfl d_Su_heldTakesUp_137 w
    · replace w := w.2 cc8
      refine aw_aload_n (x := a0) d_Su_heldTakesUp_90 rfl ?_
      obtain ⟨b11, hb11, w⟩ := w
      refine gs_Su_20 rfl hk5 hb11 d_Su_heldTakesUp_91 ?_
      obtain ⟨hk12, w⟩ := w
      obtain ⟨b13, hb13, w⟩ := w
      refine gs_Su_179 rfl hk12 hb13 d_Su_heldTakesUp_94 ?_
      refine aw_iload_n (x := x2) d_Su_heldTakesUp_97 rfl ?_
      obtain ⟨hk14, w⟩ := w
      exact aw_room (cb' := 0 + cb) (sb' := 0 + sb) (by omega) (by omega) (aw_weak (lv' := [some (.ref a0), none, some (.int x2)]) ⟨rfl, rfl, trivial⟩ (aw_callV (M' := m_ArrayList_get) (lv0 := [some (.ref b13), some (.int x2)]) (As := [.int x2]) (rest := []) 9 657 590 592 rfl (by decide) rfl hk14 tb_657 tb_590 tb_592 (fun U hU => hU.t 591 tb_591 rfl) rfl rfl 1 0 rfl rfl ⟨by decide, by decide, by decide +kernel, by decide +kernel, by decide, by decide⟩ (Nat.le_of_ble_eq_true rfl) ⟨rfl, rfl, trivial⟩ rfl d_Su_heldTakesUp_98 w))
set_option maxRecDepth 20000 in
theorem r_Su_heldTakesUp_101 {E : zE} {K n : Nat → Nat} {I : Nat → Nat → Int32} {F : Nat → Nat → Option Nat} {J : Nat → Nat → Int64} {cb sb : Nat} {Q : zO → zH → Prop} {a0 : Nat} {x2 : Int32} {sa0 : Nat}
    (w : K sa0 = 2 ∧ K a0 = 8 ∧ (∃ b3 : Nat, F a0 11 = some b3 ∧ (∃ b4 : Nat, F a0 12 = some b4 ∧ K b4 = 22 ∧ (∃ j6 : Nat, x2 = nI j6 ∧ j6 < n b4 ∧ j6 < 2147483648 ∧ AW E m_Part_writeNumber (K, n, I, F, J) 0 0 (zAft E m_Su_heldTakesUp cb sb Q 114 [some (.ref a0), none, some (.int x2)] []) 0 [some (.ref sa0), some (.ref b3), some (.long (J b4 j6)), none, none, none, none] [])))) :
    AW E m_Su_heldTakesUp (K, n, I, F, J) cb sb Q 101 [some (.ref a0), none, some (.int x2)] [.ref sa0] := by
  obtain ⟨hk1, w⟩ := w
  refine aw_castO 1 695 rfl (by decide) tb_695 hk1 d_Su_heldTakesUp_101 ?_
  refine aw_aload_n (x := a0) d_Su_heldTakesUp_104 rfl ?_
  obtain ⟨hk2, w⟩ := w
  obtain ⟨b3, hb3, w⟩ := w
  refine gs_Su_60 rfl hk2 hb3 d_Su_heldTakesUp_105 ?_
  refine aw_aload_n (x := a0) d_Su_heldTakesUp_108 rfl ?_
  obtain ⟨b4, hb4, w⟩ := w
  refine gs_Su_64 rfl hk2 hb4 d_Su_heldTakesUp_109 ?_
  refine aw_iload_n (x := x2) d_Su_heldTakesUp_112 rfl ?_
  obtain ⟨hk5, w⟩ := w
  obtain ⟨j6, hj6a, hj6b, hj6c, w⟩ := w
  refine aw_laload j6 hk5 hj6a hj6b hj6c d_Su_heldTakesUp_113 ?_
  exact aw_room (cb' := 0 + cb) (sb' := 0 + sb) (by omega) (by omega) (aw_weak (lv' := [some (.ref a0), none, some (.int x2)]) ⟨rfl, rfl, trivial⟩ (aw_callV (M' := m_Part_writeNumber) (lv0 := [some (.ref sa0), some (.ref b3), some (.long (J b4 j6)), none, none, none, none]) (As := [.ref b3, .long (J b4 j6)]) (rest := []) 1 707 708 710 rfl (by decide) rfl hk1 tb_707 tb_708 tb_710 (fun U hU => hU.t 709 tb_709 rfl) rfl rfl 2 0 rfl rfl ⟨by decide, by decide, by decide +kernel, by decide +kernel, by decide, by decide⟩ (Nat.le_of_ble_eq_true rfl) ⟨rfl, rfl, rfl, trivial⟩ rfl d_Su_heldTakesUp_114 w))
set_option maxRecDepth 20000 in
theorem r_Su_heldTakesUp_117 {E : zE} {K n : Nat → Nat} {I : Nat → Nat → Int32} {F : Nat → Nat → Option Nat} {J : Nat → Nat → Int64} {cb sb : Nat} {Q : zO → zH → Prop} {a0 : Nat} {x2 : Int32}
    (w : AW E m_Su_heldTakesUp (K, n, I, F, J) cb sb Q 67 [some (.ref a0), none, some (.int (x2 + (1 : Int32)))] []) :
    AW E m_Su_heldTakesUp (K, n, I, F, J) cb sb Q 117 [some (.ref a0), none, some (.int x2)] [] := by
  refine aw_iinc (v := (x2 + (1 : Int32))) d_Su_heldTakesUp_117 rfl (by rfl) (by decide) ?_
  refine aw_goto (tgt := 67) d_Su_heldTakesUp_120 (by decide) ?_
  exact aw_weak (lv' := [some (.ref a0), none, some (.int (x2 + (1 : Int32)))]) ⟨rfl, rfl, trivial⟩ w
set_option maxRecDepth 20000 in
theorem r_Su_sumsHavePlace_0 {E : zE} {K n : Nat → Nat} {I : Nat → Nat → Int32} {F : Nat → Nat → Option Nat} {J : Nat → Nat → Int64} {cb sb : Nat} {Q : zO → zH → Prop} {a0 : Nat} {a1 : Nat}
    (w : AW E m_Su_sumsHavePlace (K, n, I, F, J) cb sb Q 2 [some (.ref a0), some (.ref a1), some (.int (0 : Int32)), none] []) :
    AW E m_Su_sumsHavePlace (K, n, I, F, J) cb sb Q 0 [some (.ref a0), some (.ref a1), none, none] [] := by
  refine aw_iconst (v := (0 : Int32)) d_Su_sumsHavePlace_0 (by decide) ?_
  refine aw_istore_n d_Su_sumsHavePlace_1 (by decide) ?_
  exact aw_weak (lv' := [some (.ref a0), some (.ref a1), some (.int (0 : Int32)), none]) ⟨rfl, rfl, rfl, trivial⟩ w
set_option maxRecDepth 20000 in
theorem r_Su_sumsHavePlace_2 {E : zE} {K n : Nat → Nat} {I : Nat → Nat → Int32} {F : Nat → Nat → Option Nat} {J : Nat → Nat → Int64} {cb sb : Nat} {Q : zO → zH → Prop} {a0 : Nat} {a1 : Nat} {x2 : Int32}
    (w : K a0 = 8 ∧ (∃ b2 : Nat, F a0 2 = some b2 ∧ K b2 = 6 ∧ (∃ b4 : Nat, F b2 2 = some b4 ∧ K b4 = 10 ∧ AW E m_ArrayList_size (K, n, I, F, J) 0 0 (zAft E m_Su_sumsHavePlace cb sb Q 10 [some (.ref a0), some (.ref a1), some (.int x2), none] [.int x2]) 0 [some (.ref b4)] []))) :
    AW E m_Su_sumsHavePlace (K, n, I, F, J) cb sb Q 2 [some (.ref a0), some (.ref a1), some (.int x2), none] [] := by
  refine aw_iload_n (x := x2) d_Su_sumsHavePlace_2 rfl ?_
  refine aw_aload_n (x := a0) d_Su_sumsHavePlace_3 rfl ?_
  obtain ⟨hk1, w⟩ := w
  obtain ⟨b2, hb2, w⟩ := w
  refine gs_Su_20 rfl hk1 hb2 d_Su_sumsHavePlace_4 ?_
  obtain ⟨hk3, w⟩ := w
  obtain ⟨b4, hb4, w⟩ := w
  refine gs_Su_179 rfl hk3 hb4 d_Su_sumsHavePlace_7 ?_
  obtain ⟨hk5, w⟩ := w
  exact aw_room (cb' := 0 + cb) (sb' := 0 + sb) (by omega) (by omega) (aw_weak (lv' := [some (.ref a0), some (.ref a1), some (.int x2), none]) ⟨rfl, rfl, rfl, trivial⟩ (aw_callV (M' := m_ArrayList_size) (lv0 := [some (.ref b4)]) (As := []) (rest := [.int x2]) 9 656 515 517 rfl (by decide) rfl hk5 tb_656 tb_515 tb_517 (fun U hU => hU.t 516 tb_516 rfl) rfl rfl 0 1 rfl rfl ⟨by decide, by decide, by decide +kernel, by decide +kernel, by decide, by decide⟩ (Nat.le_of_ble_eq_true rfl) ⟨rfl, trivial⟩ rfl d_Su_sumsHavePlace_10 w))
set_option maxRecDepth 20000 in
theorem r_Su_sumsHavePlace_13 {E : zE} {K n : Nat → Nat} {I : Nat → Nat → Int32} {F : Nat → Nat → Option Nat} {J : Nat → Nat → Int64} {cb sb : Nat} {Q : zO → zH → Prop} {a0 : Nat} {a1 : Nat} {x2 : Int32} {sx0 : Int32} {sx1 : Int32}
    (w : ((sx1 ≤ sx0 → Q (.inl (some (.int (1 : Int32)))) (K, n, I, F, J)) ∧ (¬ sx1 ≤ sx0 → K a0 = 8 ∧ (∃ b3 : Nat, F a0 12 = some b3 ∧ (20 ≤ K b3 ∧ K b3 ≤ 23) ∧ (((nI (n b3)) ≤ x2 → Q (.inl (some (.int (1 : Int32)))) (K, n, I, F, J)) ∧ (¬ (nI (n b3)) ≤ x2 → (∃ b6 : Nat, F a0 2 = some b6 ∧ K b6 = 6 ∧ (∃ b8 : Nat, F b6 2 = some b8 ∧ K b8 = 10 ∧ AW E m_ArrayList_get (K, n, I, F, J) 0 0 (zAft E m_Su_sumsHavePlace cb sb Q 33 [some (.ref a0), some (.ref a1), some (.int x2), none] []) 0 [some (.ref b8), some (.int x2)] [])))))))) :
    AW E m_Su_sumsHavePlace (K, n, I, F, J) cb sb Q 13 [some (.ref a0), some (.ref a1), some (.int x2), none] [.int sx1, .int sx0] := by
  refine aw_icmp_ge (tgt := 82) d_Su_sumsHavePlace_13 (by decide) (fun cc1 => ?_) (fun cc1 => ?_)
  · replace w := w.1 cc1
    refine aw_iconst (v := (1 : Int32)) d_Su_sumsHavePlace_82 (by decide) ?_
    exact aw_ireturn .boolean rfl rfl d_Su_sumsHavePlace_83 w
  · replace w := w.2 cc1
    refine aw_iload_n (x := x2) d_Su_sumsHavePlace_16 rfl ?_
    refine aw_aload_n (x := a0) d_Su_sumsHavePlace_17 rfl ?_
    obtain ⟨hk2, w⟩ := w
    obtain ⟨b3, hb3, w⟩ := w
    refine gs_Su_64 rfl hk2 hb3 d_Su_sumsHavePlace_18 ?_
    obtain ⟨hk4, w⟩ := w
    refine aw_alen hk4.1 hk4.2 d_Su_sumsHavePlace_21 ?_
    refine aw_icmp_ge (tgt := 82) d_Su_sumsHavePlace_22 (by decide) (fun cc5 => ?_) (fun cc5 => ?_)
    · replace w := w.1 cc5
      refine aw_iconst (v := (1 : Int32)) d_Su_sumsHavePlace_82 (by decide) ?_
      exact aw_ireturn .boolean rfl rfl d_Su_sumsHavePlace_83 w
    · replace w := w.2 cc5
      refine aw_aload_n (x := a0) d_Su_sumsHavePlace_25 rfl ?_
      obtain ⟨b6, hb6, w⟩ := w
      refine gs_Su_20 rfl hk2 hb6 d_Su_sumsHavePlace_26 ?_
      obtain ⟨hk7, w⟩ := w
      obtain ⟨b8, hb8, w⟩ := w
      refine gs_Su_179 rfl hk7 hb8 d_Su_sumsHavePlace_29 ?_
      refine aw_iload_n (x := x2) d_Su_sumsHavePlace_32 rfl ?_
      obtain ⟨hk9, w⟩ := w
      exact aw_room (cb' := 0 + cb) (sb' := 0 + sb) (by omega) (by omega) (aw_weak (lv' := [some (.ref a0), some (.ref a1), some (.int x2), none]) ⟨rfl, rfl, rfl, trivial⟩ (aw_callV (M' := m_ArrayList_get) (lv0 := [some (.ref b8), some (.int x2)]) (As := [.int x2]) (rest := []) 9 657 590 592 rfl (by decide) rfl hk9 tb_657 tb_590 tb_592 (fun U hU => hU.t 591 tb_591 rfl) rfl rfl 1 0 rfl rfl ⟨by decide, by decide, by decide +kernel, by decide +kernel, by decide, by decide⟩ (Nat.le_of_ble_eq_true rfl) ⟨rfl, rfl, trivial⟩ rfl d_Su_sumsHavePlace_33 w))
set_option maxRecDepth 20000 in
theorem r_Su_sumsHavePlace_36 {E : zE} {K n : Nat → Nat} {I : Nat → Nat → Int32} {F : Nat → Nat → Option Nat} {J : Nat → Nat → Int64} {cb sb : Nat} {Q : zO → zH → Prop} {a0 : Nat} {a1 : Nat} {x2 : Int32} {sa0 : Nat}
    (w : K sa0 = 2 ∧ K a0 = 8 ∧ (∃ b3 : Nat, F a0 12 = some b3 ∧ (∃ b4 : Nat, F a0 11 = some b4 ∧ AW E m_Part_numberIn (K, n, I, F, J) 0 0 (zAft E m_Su_sumsHavePlace cb sb Q 50 [some (.ref a0), some (.ref a1), some (.int x2), some (.ref sa0)] [.int x2, .ref b3]) 0 [some (.ref sa0), some (.ref b4), none, none, none] []))) :
    AW E m_Su_sumsHavePlace (K, n, I, F, J) cb sb Q 36 [some (.ref a0), some (.ref a1), some (.int x2), none] [.ref sa0] := by
  obtain ⟨hk1, w⟩ := w
  refine aw_castO 1 695 rfl (by decide) tb_695 hk1 d_Su_sumsHavePlace_36 ?_
  refine aw_astore_n d_Su_sumsHavePlace_39 (by decide) ?_
  refine aw_aload_n (x := a0) d_Su_sumsHavePlace_40 rfl ?_
  obtain ⟨hk2, w⟩ := w
  obtain ⟨b3, hb3, w⟩ := w
  refine gs_Su_64 rfl hk2 hb3 d_Su_sumsHavePlace_41 ?_
  refine aw_iload_n (x := x2) d_Su_sumsHavePlace_44 rfl ?_
  refine aw_aload_n (x := sa0) d_Su_sumsHavePlace_45 rfl ?_
  refine aw_aload_n (x := a0) d_Su_sumsHavePlace_46 rfl ?_
  obtain ⟨b4, hb4, w⟩ := w
  refine gs_Su_60 rfl hk2 hb4 d_Su_sumsHavePlace_47 ?_
  exact aw_room (cb' := 0 + cb) (sb' := 0 + sb) (by omega) (by omega) (aw_weak (lv' := [some (.ref a0), some (.ref a1), some (.int x2), some (.ref sa0)]) ⟨rfl, rfl, rfl, rfl, trivial⟩ (aw_callV (M' := m_Part_numberIn) (lv0 := [some (.ref sa0), some (.ref b4), none, none, none]) (As := [.ref b4]) (rest := [.int x2, .ref b3]) 1 696 697 699 rfl (by decide) rfl hk1 tb_696 tb_697 tb_699 (fun U hU => hU.t 698 tb_698 rfl) rfl rfl 1 2 rfl rfl ⟨by decide, by decide, by decide +kernel, by decide +kernel, by decide, by decide⟩ (Nat.le_of_ble_eq_true rfl) ⟨rfl, rfl, trivial⟩ rfl d_Su_sumsHavePlace_50 w))
set_option maxRecDepth 20000 in
theorem r_Su_sumsHavePlace_53 {E : zE} {K n : Nat → Nat} {I : Nat → Nat → Int32} {F : Nat → Nat → Option Nat} {J : Nat → Nat → Int64} {cb sb : Nat} {Q : zO → zH → Prop} {a0 : Nat} {a1 : Nat} {x2 : Int32} {a3 : Nat} {sa0 : Nat} {sx1 : Int32} {sy2 : Int64}
    (w : K a3 = 2 ∧ AW E m_Part_numberIn (K, n, I, F, J) 0 0 (zAft E m_Su_sumsHavePlace cb sb Q 55 [some (.ref a0), some (.ref a1), some (.int x2), some (.ref a3)] [.long sy2, .int sx1, .ref sa0]) 0 [some (.ref a3), some (.ref a1), none, none, none] []) :
    AW E m_Su_sumsHavePlace (K, n, I, F, J) cb sb Q 53 [some (.ref a0), some (.ref a1), some (.int x2), some (.ref a3)] [.long sy2, .int sx1, .ref sa0] := by
  refine aw_aload_n (x := a3) d_Su_sumsHavePlace_53 rfl ?_
  refine aw_aload_n (x := a1) d_Su_sumsHavePlace_54 rfl ?_
  obtain ⟨hk1, w⟩ := w
  exact aw_room (cb' := 0 + cb) (sb' := 0 + sb) (by omega) (by omega) (aw_weak (lv' := [some (.ref a0), some (.ref a1), some (.int x2), some (.ref a3)]) ⟨rfl, rfl, rfl, rfl, trivial⟩ (aw_callV (M' := m_Part_numberIn) (lv0 := [some (.ref a3), some (.ref a1), none, none, none]) (As := [.ref a1]) (rest := [.long sy2, .int sx1, .ref sa0]) 1 696 697 699 rfl (by decide) rfl hk1 tb_696 tb_697 tb_699 (fun U hU => hU.t 698 tb_698 rfl) rfl rfl 1 3 rfl rfl ⟨by decide, by decide, by decide +kernel, by decide +kernel, by decide, by decide⟩ (Nat.le_of_ble_eq_true rfl) ⟨rfl, rfl, trivial⟩ rfl d_Su_sumsHavePlace_55 w))
set_option maxRecDepth 20000 in
theorem r_Su_sumsHavePlace_58 {E : zE} {K n : Nat → Nat} {I : Nat → Nat → Int32} {F : Nat → Nat → Option Nat} {J : Nat → Nat → Int64} {cb sb : Nat} {Q : zO → zH → Prop} {a0 : Nat} {a1 : Nat} {x2 : Int32} {a3 : Nat} {sa0 : Nat} {sx1 : Int32} {sy2 : Int64} {sy3 : Int64}
    (w : K sa0 = 22 ∧ (∃ j2 : Nat, sx1 = nI j2 ∧ j2 < n sa0 ∧ j2 < 2147483648 ∧ K a0 = 8 ∧ (∃ b4 : Nat, F a0 12 = some b4 ∧ K b4 = 22 ∧ (∃ j6 : Nat, x2 = nI j6 ∧ j6 < n b4 ∧ j6 < 2147483648 ∧ K a3 = 2 ∧ AW E m_Part_firstNumberTooLong (K, n, I, F, (zup J sa0 j2 (sy2 + sy3))) 0 0 (zAft E m_Su_sumsHavePlace cb sb Q 67 [some (.ref a0), some (.ref a1), some (.int x2), none] [.long ((zup J sa0 j2 (sy2 + sy3)) b4 j6)]) 0 [some (.ref a3), none, none, none] [])))) :
    AW E m_Su_sumsHavePlace (K, n, I, F, J) cb sb Q 58 [some (.ref a0), some (.ref a1), some (.int x2), some (.ref a3)] [.long sy3, .long sy2, .int sx1, .ref sa0] := by
  refine aw_ladd d_Su_sumsHavePlace_58 ?_
  obtain ⟨hk1, w⟩ := w
  obtain ⟨j2, hj2a, hj2b, hj2c, w⟩ := w
  refine aw_lastore j2 hk1 hj2a hj2b hj2c d_Su_sumsHavePlace_59 ?_
  refine aw_aload_n (x := a0) d_Su_sumsHavePlace_60 rfl ?_
  obtain ⟨hk3, w⟩ := w
  obtain ⟨b4, hb4, w⟩ := w
  refine gs_Su_64 rfl hk3 hb4 d_Su_sumsHavePlace_61 ?_
  refine aw_iload_n (x := x2) d_Su_sumsHavePlace_64 rfl ?_
  obtain ⟨hk5, w⟩ := w
  obtain ⟨j6, hj6a, hj6b, hj6c, w⟩ := w
  refine aw_laload j6 hk5 hj6a hj6b hj6c d_Su_sumsHavePlace_65 ?_
  refine aw_aload_n (x := a3) d_Su_sumsHavePlace_66 rfl ?_
  obtain ⟨hk7, w⟩ := w
  exact aw_room (cb' := 0 + cb) (sb' := 0 + sb) (by omega) (by omega) (aw_weak (lv' := [some (.ref a0), some (.ref a1), some (.int x2), none]) ⟨rfl, rfl, rfl, trivial⟩ (aw_callV (M' := m_Part_firstNumberTooLong) (lv0 := [some (.ref a3), none, none, none]) (As := []) (rest := [.long ((zup J sa0 j2 (sy2 + sy3)) b4 j6)]) 1 703 704 706 rfl (by decide) rfl hk7 tb_703 tb_704 tb_706 (fun U hU => hU.t 705 tb_705 rfl) rfl rfl 0 1 rfl rfl ⟨by decide, by decide, by decide +kernel, by decide +kernel, by decide, by decide⟩ (Nat.le_of_ble_eq_true rfl) ⟨rfl, trivial⟩ rfl d_Su_sumsHavePlace_67 w))
set_option maxRecDepth 20000 in
theorem r_Su_sumsHavePlace_70 {E : zE} {K n : Nat → Nat} {I : Nat → Nat → Int32} {F : Nat → Nat → Option Nat} {J : Nat → Nat → Int64} {cb sb : Nat} {Q : zO → zH → Prop} {a0 : Nat} {a1 : Nat} {x2 : Int32} {sy0 : Int64} {sy1 : Int64}
    (w : (((lg_cmp sy0 sy1) < 0 → AW E m_Su_sumsHavePlace (K, n, I, F, J) cb sb Q 2 [some (.ref a0), some (.ref a1), some (.int (x2 + (1 : Int32))), none] []) ∧ (¬ (lg_cmp sy0 sy1) < 0 → Q (.inl (some (.int (0 : Int32)))) (K, n, I, F, J)))) :
    AW E m_Su_sumsHavePlace (K, n, I, F, J) cb sb Q 70 [some (.ref a0), some (.ref a1), some (.int x2), none] [.long sy1, .long sy0] := by
  refine aw_lcmp d_Su_sumsHavePlace_70 ?_
  refine aw_if_lt (tgt := 76) d_Su_sumsHavePlace_71 (by decide) (fun cc1 => ?_) (fun cc1 => ?_)
  · replace w := w.1 cc1
    refine aw_iinc (v := (x2 + (1 : Int32))) d_Su_sumsHavePlace_76 rfl (by rfl) (by decide) ?_
    refine aw_goto (tgt := 2) d_Su_sumsHavePlace_79 (by decide) ?_
    exact aw_weak (lv' := [some (.ref a0), some (.ref a1), some (.int (x2 + (1 : Int32))), none]) ⟨rfl, rfl, rfl, trivial⟩ w
  · replace w := w.2 cc1
    refine aw_iconst (v := (0 : Int32)) d_Su_sumsHavePlace_74 (by decide) ?_
    exact aw_ireturn .boolean rfl rfl d_Su_sumsHavePlace_75 w
set_option maxRecDepth 20000 in
theorem r_Su_deliverHeld_0 {E : zE} {K n : Nat → Nat} {I : Nat → Nat → Int32} {F : Nat → Nat → Option Nat} {J : Nat → Nat → Int64} {cb sb : Nat} {Q : zO → zH → Prop} {a0 : Nat}
    (w : K a0 = 8 ∧ ((((zup I a0 13 ((I a0 13) + (1 : Int32))) a0 9) = 0 → ((¬ ((zup I a0 13 ((I a0 13) + (1 : Int32))) a0 8) = (1 : Int32) → ((¬ ((zup I a0 13 ((I a0 13) + (1 : Int32))) a0 8) = (2 : Int32) → AW E m_Su_deliverHeld (K, n, (zup I a0 13 ((I a0 13) + (1 : Int32))), F, J) cb sb Q 70 [some (.ref a0), none] []) ∧ (((zup I a0 13 ((I a0 13) + (1 : Int32))) a0 8) = (2 : Int32) → (∃ b5 : Nat, F a0 11 = some b5 ∧ K b5 = 4 ∧ AW E m_Row_raiseLetters (K, n, (zup I a0 13 ((I a0 13) + (1 : Int32))), F, J) 0 0 (zAft E m_Su_deliverHeld cb sb Q 67 [some (.ref a0), none] []) 0 [some (.ref b5), none] [])))) ∧ (((zup I a0 13 ((I a0 13) + (1 : Int32))) a0 8) = (1 : Int32) → (∃ b7 : Nat, F a0 11 = some b7 ∧ K b7 = 4 ∧ AW E m_Row_octetAt (K, n, (zup I a0 13 ((I a0 13) + (1 : Int32))), F, J) 0 0 (zAft E m_Su_deliverHeld cb sb Q 45 [some (.ref a0), none] []) 0 [some (.ref b7), some (.int (0 : Int32))] [])))) ∧ (¬ ((zup I a0 13 ((I a0 13) + (1 : Int32))) a0 9) = 0 → ((((zup I a0 13 ((I a0 13) + (1 : Int32))) a0 13) < (3 : Int32) → ((¬ ((zup I a0 13 ((I a0 13) + (1 : Int32))) a0 8) = (1 : Int32) → ((¬ ((zup I a0 13 ((I a0 13) + (1 : Int32))) a0 8) = (2 : Int32) → AW E m_Su_deliverHeld (K, n, (zup I a0 13 ((I a0 13) + (1 : Int32))), F, J) cb sb Q 70 [some (.ref a0), none] []) ∧ (((zup I a0 13 ((I a0 13) + (1 : Int32))) a0 8) = (2 : Int32) → (∃ b12 : Nat, F a0 11 = some b12 ∧ K b12 = 4 ∧ AW E m_Row_raiseLetters (K, n, (zup I a0 13 ((I a0 13) + (1 : Int32))), F, J) 0 0 (zAft E m_Su_deliverHeld cb sb Q 67 [some (.ref a0), none] []) 0 [some (.ref b12), none] [])))) ∧ (((zup I a0 13 ((I a0 13) + (1 : Int32))) a0 8) = (1 : Int32) → (∃ b14 : Nat, F a0 11 = some b14 ∧ K b14 = 4 ∧ AW E m_Row_octetAt (K, n, (zup I a0 13 ((I a0 13) + (1 : Int32))), F, J) 0 0 (zAft E m_Su_deliverHeld cb sb Q 45 [some (.ref a0), none] []) 0 [some (.ref b14), some (.int (0 : Int32))] [])))) ∧ (¬ ((zup I a0 13 ((I a0 13) + (1 : Int32))) a0 13) < (3 : Int32) → Q (.inl none) (K, n, (zup (zup I a0 13 ((I a0 13) + (1 : Int32))) a0 14 (16 : Int32)), F, J)))))) :
    AW E m_Su_deliverHeld (K, n, I, F, J) cb sb Q 0 [some (.ref a0), none] [] := by
  refine aw_aload_n (x := a0) d_Su_deliverHeld_0 rfl ?_
  refine aw_dup d_Su_deliverHeld_1 rfl ?_
  obtain ⟨hk1, w⟩ := w
  refine gf_Su_68 rfl hk1 d_Su_deliverHeld_2 ?_
  refine aw_iconst (v := (1 : Int32)) d_Su_deliverHeld_5 (by decide) ?_
  refine aw_iadd d_Su_deliverHeld_6 ?_
  refine pf_Su_68 rfl hk1 d_Su_deliverHeld_7 ?_
  refine aw_aload_n (x := a0) d_Su_deliverHeld_10 rfl ?_
  refine gf_Su_50 rfl hk1 d_Su_deliverHeld_11 ?_
  refine aw_if_eq (tgt := 32) d_Su_deliverHeld_14 (by decide) (fun cc2 => ?_) (fun cc2 => ?_)
  · replace w := w.1 cc2
    refine aw_aload_n (x := a0) d_Su_deliverHeld_32 rfl ?_
    refine gf_Su_47 rfl hk1 d_Su_deliverHeld_33 ?_
    refine aw_iconst (v := (1 : Int32)) d_Su_deliverHeld_36 (by decide) ?_
    refine aw_icmp_ne (tgt := 55) d_Su_deliverHeld_37 (by decide) (fun cc3 => ?_) (fun cc3 => ?_)
    · replace w := w.1 cc3
      refine aw_aload_n (x := a0) d_Su_deliverHeld_55 rfl ?_
      refine gf_Su_47 rfl hk1 d_Su_deliverHeld_56 ?_
      refine aw_iconst (v := (2 : Int32)) d_Su_deliverHeld_59 (by decide) ?_
      refine aw_icmp_ne (tgt := 70) d_Su_deliverHeld_60 (by decide) (fun cc4 => ?_) (fun cc4 => ?_)
      · replace w := w.1 cc4
        exact aw_weak (lv' := [some (.ref a0), none]) ⟨rfl, trivial⟩ w
      · replace w := w.2 cc4
        refine aw_aload_n (x := a0) d_Su_deliverHeld_63 rfl ?_
        obtain ⟨b5, hb5, w⟩ := w
        refine gs_Su_60 rfl hk1 hb5 d_Su_deliverHeld_64 ?_
        obtain ⟨hk6, w⟩ := w
        exact aw_room (cb' := 0 + cb) (sb' := 0 + sb) (by omega) (by omega) (aw_weak (lv' := [some (.ref a0), none]) ⟨rfl, trivial⟩ (aw_callV (M' := m_Row_raiseLetters) (lv0 := [some (.ref b5), none]) (As := []) (rest := []) 3 722 723 725 rfl (by decide) rfl hk6 tb_722 tb_723 tb_725 (fun U hU => hU.t 724 tb_724 rfl) rfl rfl 0 0 rfl rfl ⟨by decide, by decide, by decide +kernel, by decide +kernel, by decide, by decide⟩ (Nat.le_of_ble_eq_true rfl) ⟨rfl, trivial⟩ rfl d_Su_deliverHeld_67 w))
    · replace w := w.2 cc3
      refine aw_aload_n (x := a0) d_Su_deliverHeld_40 rfl ?_
      obtain ⟨b7, hb7, w⟩ := w
      refine gs_Su_60 rfl hk1 hb7 d_Su_deliverHeld_41 ?_
      refine aw_iconst (v := (0 : Int32)) d_Su_deliverHeld_44 (by decide) ?_
      obtain ⟨hk8, w⟩ := w
      exact aw_room (cb' := 0 + cb) (sb' := 0 + sb) (by omega) (by omega) (aw_weak (lv' := [some (.ref a0), none]) ⟨rfl, trivial⟩ (aw_callV (M' := m_Row_octetAt) (lv0 := [some (.ref b7), some (.int (0 : Int32))]) (As := [.int (0 : Int32)]) (rest := []) 3 721 644 646 rfl (by decide) rfl hk8 tb_721 tb_644 tb_646 (fun U hU => hU.t 645 tb_645 rfl) rfl rfl 1 0 rfl rfl ⟨by decide, by decide, by decide +kernel, by decide +kernel, by decide, by decide⟩ (Nat.le_of_ble_eq_true rfl) ⟨rfl, rfl, trivial⟩ rfl d_Su_deliverHeld_45 w))
  · replace w := w.2 cc2
    refine aw_aload_n (x := a0) d_Su_deliverHeld_17 rfl ?_
    refine gf_Su_68 rfl hk1 d_Su_deliverHeld_18 ?_
    refine aw_iconst (v := (3 : Int32)) d_Su_deliverHeld_21 (by decide) ?_
    refine aw_icmp_lt (tgt := 32) d_Su_deliverHeld_22 (by decide) (fun cc9 => ?_) (fun cc9 => ?_)
    · replace w := w.1 cc9
      refine aw_aload_n (x := a0) d_Su_deliverHeld_32 rfl ?_
      refine gf_Su_47 rfl hk1 d_Su_deliverHeld_33 ?_
      refine aw_iconst (v := (1 : Int32)) d_Su_deliverHeld_36 (by decide) ?_
      refine aw_icmp_ne (tgt := 55) d_Su_deliverHeld_37 (by decide) (fun cc10 => ?_) (fun cc10 => ?_)
      · replace w := w.1 cc10
        refine aw_aload_n (x := a0) d_Su_deliverHeld_55 rfl ?_
        refine gf_Su_47 rfl hk1 d_Su_deliverHeld_56 ?_
        refine aw_iconst (v := (2 : Int32)) d_Su_deliverHeld_59 (by decide) ?_
        refine aw_icmp_ne (tgt := 70) d_Su_deliverHeld_60 (by decide) (fun cc11 => ?_) (fun cc11 => ?_)
        · replace w := w.1 cc11
          exact aw_weak (lv' := [some (.ref a0), none]) ⟨rfl, trivial⟩ w
        · replace w := w.2 cc11
          refine aw_aload_n (x := a0) d_Su_deliverHeld_63 rfl ?_
          obtain ⟨b12, hb12, w⟩ := w
          refine gs_Su_60 rfl hk1 hb12 d_Su_deliverHeld_64 ?_
          obtain ⟨hk13, w⟩ := w
          exact aw_room (cb' := 0 + cb) (sb' := 0 + sb) (by omega) (by omega) (aw_weak (lv' := [some (.ref a0), none]) ⟨rfl, trivial⟩ (aw_callV (M' := m_Row_raiseLetters) (lv0 := [some (.ref b12), none]) (As := []) (rest := []) 3 722 723 725 rfl (by decide) rfl hk13 tb_722 tb_723 tb_725 (fun U hU => hU.t 724 tb_724 rfl) rfl rfl 0 0 rfl rfl ⟨by decide, by decide, by decide +kernel, by decide +kernel, by decide, by decide⟩ (Nat.le_of_ble_eq_true rfl) ⟨rfl, trivial⟩ rfl d_Su_deliverHeld_67 w))
      · replace w := w.2 cc10
        refine aw_aload_n (x := a0) d_Su_deliverHeld_40 rfl ?_
        obtain ⟨b14, hb14, w⟩ := w
        refine gs_Su_60 rfl hk1 hb14 d_Su_deliverHeld_41 ?_
        refine aw_iconst (v := (0 : Int32)) d_Su_deliverHeld_44 (by decide) ?_
        obtain ⟨hk15, w⟩ := w
        exact aw_room (cb' := 0 + cb) (sb' := 0 + sb) (by omega) (by omega) (aw_weak (lv' := [some (.ref a0), none]) ⟨rfl, trivial⟩ (aw_callV (M' := m_Row_octetAt) (lv0 := [some (.ref b14), some (.int (0 : Int32))]) (As := [.int (0 : Int32)]) (rest := []) 3 721 644 646 rfl (by decide) rfl hk15 tb_721 tb_644 tb_646 (fun U hU => hU.t 645 tb_645 rfl) rfl rfl 1 0 rfl rfl ⟨by decide, by decide, by decide +kernel, by decide +kernel, by decide, by decide⟩ (Nat.le_of_ble_eq_true rfl) ⟨rfl, rfl, trivial⟩ rfl d_Su_deliverHeld_45 w))
    · replace w := w.2 cc9
      refine aw_aload_n (x := a0) d_Su_deliverHeld_25 rfl ?_
      refine aw_bipush (v := (16 : Int32)) d_Su_deliverHeld_26 (by decide) ?_
      refine pf_Su_71 rfl hk1 d_Su_deliverHeld_28 ?_
      exact aw_return rfl d_Su_deliverHeld_31 w
set_option maxRecDepth 20000 in
theorem r_Su_deliverHeld_48 {E : zE} {K n : Nat → Nat} {I : Nat → Nat → Int32} {F : Nat → Nat → Option Nat} {J : Nat → Nat → Int64} {cb sb : Nat} {Q : zO → zH → Prop} {a0 : Nat} {sx0 : Int32}
    (w : ((¬ (sx0 - sx0 / (2 : Int32) * (2 : Int32)) = (1 : Int32) → K a0 = 8 ∧ ((¬ (I a0 8) = (2 : Int32) → AW E m_Su_deliverHeld (K, n, I, F, J) cb sb Q 70 [some (.ref a0), none] []) ∧ ((I a0 8) = (2 : Int32) → (∃ b4 : Nat, F a0 11 = some b4 ∧ K b4 = 4 ∧ AW E m_Row_raiseLetters (K, n, I, F, J) 0 0 (zAft E m_Su_deliverHeld cb sb Q 67 [some (.ref a0), none] []) 0 [some (.ref b4), none] [])))) ∧ ((sx0 - sx0 / (2 : Int32) * (2 : Int32)) = (1 : Int32) → Q (.inl none) (K, n, I, F, J)))) :
    AW E m_Su_deliverHeld (K, n, I, F, J) cb sb Q 48 [some (.ref a0), none] [.int sx0] := by
  refine aw_iconst (v := (2 : Int32)) d_Su_deliverHeld_48 (by decide) ?_
  refine aw_irem d_Su_deliverHeld_49 (by decide) ?_
  refine aw_iconst (v := (1 : Int32)) d_Su_deliverHeld_50 (by decide) ?_
  refine aw_icmp_ne (tgt := 55) d_Su_deliverHeld_51 (by decide) (fun cc1 => ?_) (fun cc1 => ?_)
  · replace w := w.1 cc1
    refine aw_aload_n (x := a0) d_Su_deliverHeld_55 rfl ?_
    obtain ⟨hk2, w⟩ := w
    refine gf_Su_47 rfl hk2 d_Su_deliverHeld_56 ?_
    refine aw_iconst (v := (2 : Int32)) d_Su_deliverHeld_59 (by decide) ?_
    refine aw_icmp_ne (tgt := 70) d_Su_deliverHeld_60 (by decide) (fun cc3 => ?_) (fun cc3 => ?_)
    · replace w := w.1 cc3
      exact aw_weak (lv' := [some (.ref a0), none]) ⟨rfl, trivial⟩ w
    · replace w := w.2 cc3
      refine aw_aload_n (x := a0) d_Su_deliverHeld_63 rfl ?_
      obtain ⟨b4, hb4, w⟩ := w
      refine gs_Su_60 rfl hk2 hb4 d_Su_deliverHeld_64 ?_
      obtain ⟨hk5, w⟩ := w
      exact aw_room (cb' := 0 + cb) (sb' := 0 + sb) (by omega) (by omega) (aw_weak (lv' := [some (.ref a0), none]) ⟨rfl, trivial⟩ (aw_callV (M' := m_Row_raiseLetters) (lv0 := [some (.ref b4), none]) (As := []) (rest := []) 3 722 723 725 rfl (by decide) rfl hk5 tb_722 tb_723 tb_725 (fun U hU => hU.t 724 tb_724 rfl) rfl rfl 0 0 rfl rfl ⟨by decide, by decide, by decide +kernel, by decide +kernel, by decide, by decide⟩ (Nat.le_of_ble_eq_true rfl) ⟨rfl, trivial⟩ rfl d_Su_deliverHeld_67 w))
  · replace w := w.2 cc1
    exact aw_return rfl d_Su_deliverHeld_54 w
set_option maxRecDepth 20000 in
theorem r_Su_deliverHeld_70 {E : zE} {K n : Nat → Nat} {I : Nat → Nat → Int32} {F : Nat → Nat → Option Nat} {J : Nat → Nat → Int64} {cb sb : Nat} {Q : zO → zH → Prop} {a0 : Nat}
    (w : K a0 = 8 ∧ (∃ b2 : Nat, F a0 4 = some b2 ∧ K b2 = 5 ∧ (∃ c1 s1 c2 s2 : Nat, c1 + c2 ≤ cb ∧ s1 + s2 ≤ sb ∧ AW E m_Rows_add (K, n, I, F, J) c1 s1 (zAft E m_Su_deliverHeld c2 s2 Q 74 [some (.ref a0), none] []) 0 [some (.ref b2), none] []))) :
    AW E m_Su_deliverHeld (K, n, I, F, J) cb sb Q 70 [some (.ref a0), none] [] := by
  refine aw_aload_n (x := a0) d_Su_deliverHeld_70 rfl ?_
  obtain ⟨hk1, w⟩ := w
  obtain ⟨b2, hb2, w⟩ := w
  refine gs_Su_31 rfl hk1 hb2 d_Su_deliverHeld_71 ?_
  obtain ⟨hk3, w⟩ := w
  obtain ⟨c1, s1, c2, s2, hq1, hq2, w⟩ := w
  exact aw_room hq1 hq2 (aw_weak (lv' := [some (.ref a0), none]) ⟨rfl, trivial⟩ (aw_callV (M' := m_Rows_add) (lv0 := [some (.ref b2), none]) (As := []) (rest := []) 4 581 582 584 rfl (by decide) rfl hk3 tb_581 tb_582 tb_584 (fun U hU => hU.t 583 tb_583 rfl) rfl rfl 0 0 rfl rfl ⟨by decide, by decide, by decide +kernel, by decide +kernel, by decide, by decide⟩ (Nat.le_of_ble_eq_true rfl) ⟨rfl, trivial⟩ rfl d_Su_deliverHeld_74 w))
set_option maxRecDepth 20000 in
theorem r_Su_deliverHeld_77 {E : zE} {K n : Nat → Nat} {I : Nat → Nat → Int32} {F : Nat → Nat → Option Nat} {J : Nat → Nat → Int64} {cb sb : Nat} {Q : zO → zH → Prop} {a0 : Nat} {sr0 : Option Nat}
    (w : ((sr0 = none → AW E m_Su_deliverHeld (K, n, I, F, J) cb sb Q 87 [none, none] []) ∧ (∀ z1 : Nat, sr0 = some z1 → K a0 = 8 ∧ AW E m_Su_layOutHeld (K, n, I, F, J) 0 0 (zAft E m_Su_deliverHeld cb sb Q 84 [none, none] []) 0 [some (.ref a0), some (.ref z1), none, none, none] []))) :
    AW E m_Su_deliverHeld (K, n, I, F, J) cb sb Q 77 [some (.ref a0), none] [va_rf sr0] := by
  refine aw_astore_nR d_Su_deliverHeld_77 (by decide) ?_
  refine aw_aload_nR (r := sr0) d_Su_deliverHeld_78 (by first | rfl | (cases sr0 <;> rfl)) ?_
  refine aw_ifnull (r := sr0) (tgt := 87) d_Su_deliverHeld_79 (by decide) (fun cc2 => ?_) (fun z1 cc2 => ?_)
  · replace w := w.1 cc2
    subst cc2
    exact aw_weak (lv' := [none, none]) trivial w
  · replace w := w.2 z1 cc2
    subst cc2
    refine aw_aload_n (x := a0) d_Su_deliverHeld_82 rfl ?_
    refine aw_aload_n (x := z1) d_Su_deliverHeld_83 rfl ?_
    obtain ⟨hk3, w⟩ := w
    exact aw_room (cb' := 0 + cb) (sb' := 0 + sb) (by omega) (by omega) (aw_weak (lv' := [none, none]) trivial (aw_callV (M' := m_Su_layOutHeld) (lv0 := [some (.ref a0), some (.ref z1), none, none, none]) (As := [.ref z1]) (rest := []) 7 726 728 729 rfl (by decide) rfl hk3 tb_726 tb_728 tb_729 (fun U hU => hU.p 26 rfl) rfl rfl 1 0 rfl rfl ⟨by decide, by decide, by decide +kernel, by decide +kernel, by decide, by decide⟩ (Nat.le_of_ble_eq_true rfl) ⟨rfl, rfl, trivial⟩ rfl d_Su_deliverHeld_84 w))
set_option maxRecDepth 20000 in
theorem r_Su_deliverHeld_87 {E : zE} {K n : Nat → Nat} {I : Nat → Nat → Int32} {F : Nat → Nat → Option Nat} {J : Nat → Nat → Int64} {cb sb : Nat} {Q : zO → zH → Prop}
    (w : Q (.inl none) (K, n, I, F, J)) :
    AW E m_Su_deliverHeld (K, n, I, F, J) cb sb Q 87 [none, none] [] := by
  exact aw_return rfl d_Su_deliverHeld_87 w
set_option maxRecDepth 20000 in
theorem r_Su_layOutHeld_0 {E : zE} {K n : Nat → Nat} {I : Nat → Nat → Int32} {F : Nat → Nat → Option Nat} {J : Nat → Nat → Int64} {cb sb : Nat} {Q : zO → zH → Prop} {a0 : Nat} {a1 : Nat}
    (w : K a0 = 8 ∧ (∃ b2 : Nat, F a0 2 = some b2 ∧ K b2 = 6 ∧ (∃ b4 : Nat, F b2 3 = some b4 ∧ K b4 = 10 ∧ AW E m_ArrayList_isEmpty (K, n, I, F, J) 0 0 (zAft E m_Su_layOutHeld cb sb Q 7 [some (.ref a0), some (.ref a1), none, none, none] []) 0 [some (.ref b4)] []))) :
    AW E m_Su_layOutHeld (K, n, I, F, J) cb sb Q 0 [some (.ref a0), some (.ref a1), none, none, none] [] := by
  refine aw_aload_n (x := a0) d_Su_layOutHeld_0 rfl ?_
  obtain ⟨hk1, w⟩ := w
  obtain ⟨b2, hb2, w⟩ := w
  refine gs_Su_20 rfl hk1 hb2 d_Su_layOutHeld_1 ?_
  obtain ⟨hk3, w⟩ := w
  obtain ⟨b4, hb4, w⟩ := w
  refine gs_Su_182 rfl hk3 hb4 d_Su_layOutHeld_4 ?_
  obtain ⟨hk5, w⟩ := w
  exact aw_room (cb' := 0 + cb) (sb' := 0 + sb) (by omega) (by omega) (aw_weak (lv' := [some (.ref a0), some (.ref a1), none, none, none]) ⟨rfl, rfl, trivial⟩ (aw_callV (M' := m_ArrayList_isEmpty) (lv0 := [some (.ref b4)]) (As := []) (rest := []) 9 690 626 628 rfl (by decide) rfl hk5 tb_690 tb_626 tb_628 (fun U hU => hU.t 627 tb_627 rfl) rfl rfl 0 0 rfl rfl ⟨by decide, by decide, by decide +kernel, by decide +kernel, by decide, by decide⟩ (Nat.le_of_ble_eq_true rfl) ⟨rfl, trivial⟩ rfl d_Su_layOutHeld_7 w))
set_option maxRecDepth 20000 in
theorem r_Su_layOutHeld_10 {E : zE} {K n : Nat → Nat} {I : Nat → Nat → Int32} {F : Nat → Nat → Option Nat} {J : Nat → Nat → Int64} {cb sb : Nat} {Q : zO → zH → Prop} {a0 : Nat} {a1 : Nat} {sx0 : Int32}
    (w : ((sx0 = 0 → AW E m_Su_layOutHeld (K, n, I, F, J) cb sb Q 21 [some (.ref a0), some (.ref a1), none, none, none] []) ∧ (¬ sx0 = 0 → K a0 = 8 ∧ (∃ b3 : Nat, F a0 11 = some b3 ∧ K a1 = 4 ∧ AW E m_Row_become (K, n, I, F, J) 0 0 (zAft E m_Su_layOutHeld cb sb Q 18 [some (.ref a0), some (.ref a1), none, none, none] []) 0 [some (.ref a1), some (.ref b3)] [])))) :
    AW E m_Su_layOutHeld (K, n, I, F, J) cb sb Q 10 [some (.ref a0), some (.ref a1), none, none, none] [.int sx0] := by
  refine aw_if_eq (tgt := 21) d_Su_layOutHeld_10 (by decide) (fun cc1 => ?_) (fun cc1 => ?_)
  · replace w := w.1 cc1
    exact aw_weak (lv' := [some (.ref a0), some (.ref a1), none, none, none]) ⟨rfl, rfl, trivial⟩ w
  · replace w := w.2 cc1
    refine aw_aload_n (x := a1) d_Su_layOutHeld_13 rfl ?_
    refine aw_aload_n (x := a0) d_Su_layOutHeld_14 rfl ?_
    obtain ⟨hk2, w⟩ := w
    obtain ⟨b3, hb3, w⟩ := w
    refine gs_Su_60 rfl hk2 hb3 d_Su_layOutHeld_15 ?_
    obtain ⟨hk4, w⟩ := w
    exact aw_room (cb' := 0 + cb) (sb' := 0 + sb) (by omega) (by omega) (aw_weak (lv' := [some (.ref a0), some (.ref a1), none, none, none]) ⟨rfl, rfl, trivial⟩ (aw_callV (M' := m_Row_become) (lv0 := [some (.ref a1), some (.ref b3)]) (As := [.ref b3]) (rest := []) 3 677 678 680 rfl (by decide) rfl hk4 tb_677 tb_678 tb_680 (fun U hU => hU.t 679 tb_679 rfl) rfl rfl 1 0 rfl rfl ⟨by decide, by decide, by decide +kernel, by decide +kernel, by decide, by decide⟩ (Nat.le_of_ble_eq_true rfl) ⟨rfl, rfl, trivial⟩ rfl d_Su_layOutHeld_18 w))
set_option maxRecDepth 20000 in
theorem r_Su_layOutHeld_21 {E : zE} {K n : Nat → Nat} {I : Nat → Nat → Int32} {F : Nat → Nat → Option Nat} {J : Nat → Nat → Int64} {cb sb : Nat} {Q : zO → zH → Prop} {a0 : Nat} {a1 : Nat}
    (w : AW E m_Su_layOutHeld (K, n, I, F, J) cb sb Q 23 [some (.ref a0), some (.ref a1), some (.int (0 : Int32)), none, none] []) :
    AW E m_Su_layOutHeld (K, n, I, F, J) cb sb Q 21 [some (.ref a0), some (.ref a1), none, none, none] [] := by
  refine aw_iconst (v := (0 : Int32)) d_Su_layOutHeld_21 (by decide) ?_
  refine aw_istore_n d_Su_layOutHeld_22 (by decide) ?_
  exact aw_weak (lv' := [some (.ref a0), some (.ref a1), some (.int (0 : Int32)), none, none]) ⟨rfl, rfl, rfl, trivial⟩ w
set_option maxRecDepth 20000 in
theorem r_Su_layOutHeld_23 {E : zE} {K n : Nat → Nat} {I : Nat → Nat → Int32} {F : Nat → Nat → Option Nat} {J : Nat → Nat → Int64} {cb sb : Nat} {Q : zO → zH → Prop} {a0 : Nat} {a1 : Nat} {x2 : Int32}
    (w : K a0 = 8 ∧ (∃ b2 : Nat, F a0 2 = some b2 ∧ K b2 = 6 ∧ (∃ b4 : Nat, F b2 3 = some b4 ∧ K b4 = 10 ∧ AW E m_ArrayList_size (K, n, I, F, J) 0 0 (zAft E m_Su_layOutHeld cb sb Q 31 [some (.ref a0), some (.ref a1), some (.int x2), none, none] [.int x2]) 0 [some (.ref b4)] []))) :
    AW E m_Su_layOutHeld (K, n, I, F, J) cb sb Q 23 [some (.ref a0), some (.ref a1), some (.int x2), none, none] [] := by
  refine aw_iload_n (x := x2) d_Su_layOutHeld_23 rfl ?_
  refine aw_aload_n (x := a0) d_Su_layOutHeld_24 rfl ?_
  obtain ⟨hk1, w⟩ := w
  obtain ⟨b2, hb2, w⟩ := w
  refine gs_Su_20 rfl hk1 hb2 d_Su_layOutHeld_25 ?_
  obtain ⟨hk3, w⟩ := w
  obtain ⟨b4, hb4, w⟩ := w
  refine gs_Su_182 rfl hk3 hb4 d_Su_layOutHeld_28 ?_
  obtain ⟨hk5, w⟩ := w
  exact aw_room (cb' := 0 + cb) (sb' := 0 + sb) (by omega) (by omega) (aw_weak (lv' := [some (.ref a0), some (.ref a1), some (.int x2), none, none]) ⟨rfl, rfl, rfl, trivial⟩ (aw_callV (M' := m_ArrayList_size) (lv0 := [some (.ref b4)]) (As := []) (rest := [.int x2]) 9 656 515 517 rfl (by decide) rfl hk5 tb_656 tb_515 tb_517 (fun U hU => hU.t 516 tb_516 rfl) rfl rfl 0 1 rfl rfl ⟨by decide, by decide, by decide +kernel, by decide +kernel, by decide, by decide⟩ (Nat.le_of_ble_eq_true rfl) ⟨rfl, trivial⟩ rfl d_Su_layOutHeld_31 w))
set_option maxRecDepth 20000 in
theorem r_Su_layOutHeld_34 {E : zE} {K n : Nat → Nat} {I : Nat → Nat → Int32} {F : Nat → Nat → Option Nat} {J : Nat → Nat → Int64} {cb sb : Nat} {Q : zO → zH → Prop} {a0 : Nat} {a1 : Nat} {x2 : Int32} {sx0 : Int32} {sx1 : Int32}
    (w : ((sx1 ≤ sx0 → K a0 = 8 ∧ (∃ b3 : Nat, F a0 11 = some b3 ∧ K b3 = 4 ∧ K a1 = 4 ∧ Q (.inl none) (K, n, (zup (zup I a1 3 (I b3 3)) a1 4 ((zup I a1 3 (I b3 3)) b3 4)), F, J))) ∧ (¬ sx1 ≤ sx0 → K a0 = 8 ∧ (∃ b7 : Nat, F a0 2 = some b7 ∧ K b7 = 6 ∧ (∃ b9 : Nat, F b7 3 = some b9 ∧ K b9 = 10 ∧ AW E m_ArrayList_get (K, n, I, F, J) 0 0 (zAft E m_Su_layOutHeld cb sb Q 45 [some (.ref a0), some (.ref a1), some (.int x2), none, none] []) 0 [some (.ref b9), some (.int x2)] []))))) :
    AW E m_Su_layOutHeld (K, n, I, F, J) cb sb Q 34 [some (.ref a0), some (.ref a1), some (.int x2), none, none] [.int sx1, .int sx0] := by
  refine aw_icmp_ge (tgt := 90) d_Su_layOutHeld_34 (by decide) (fun cc1 => ?_) (fun cc1 => ?_)
  · replace w := w.1 cc1
    refine aw_aload_n (x := a1) d_Su_layOutHeld_90 rfl ?_
    refine aw_aload_n (x := a0) d_Su_layOutHeld_91 rfl ?_
    obtain ⟨hk2, w⟩ := w
    obtain ⟨b3, hb3, w⟩ := w
    refine gs_Su_60 rfl hk2 hb3 d_Su_layOutHeld_92 ?_
    obtain ⟨hk4, w⟩ := w
    refine gf_Su_103 rfl hk4 d_Su_layOutHeld_95 ?_
    obtain ⟨hk5, w⟩ := w
    refine pf_Su_103 rfl hk5 d_Su_layOutHeld_98 ?_
    refine aw_aload_n (x := a1) d_Su_layOutHeld_101 rfl ?_
    refine aw_aload_n (x := a0) d_Su_layOutHeld_102 rfl ?_
    refine gs_Su_60 rfl hk2 hb3 d_Su_layOutHeld_103 ?_
    refine gf_Su_141 rfl hk4 d_Su_layOutHeld_106 ?_
    refine pf_Su_141 rfl hk5 d_Su_layOutHeld_109 ?_
    exact aw_return rfl d_Su_layOutHeld_112 w
  · replace w := w.2 cc1
    refine aw_aload_n (x := a0) d_Su_layOutHeld_37 rfl ?_
    obtain ⟨hk6, w⟩ := w
    obtain ⟨b7, hb7, w⟩ := w
    refine gs_Su_20 rfl hk6 hb7 d_Su_layOutHeld_38 ?_
    obtain ⟨hk8, w⟩ := w
    obtain ⟨b9, hb9, w⟩ := w
    refine gs_Su_182 rfl hk8 hb9 d_Su_layOutHeld_41 ?_
    refine aw_iload_n (x := x2) d_Su_layOutHeld_44 rfl ?_
    obtain ⟨hk10, w⟩ := w
    exact aw_room (cb' := 0 + cb) (sb' := 0 + sb) (by omega) (by omega) (aw_weak (lv' := [some (.ref a0), some (.ref a1), some (.int x2), none, none]) ⟨rfl, rfl, rfl, trivial⟩ (aw_callV (M' := m_ArrayList_get) (lv0 := [some (.ref b9), some (.int x2)]) (As := [.int x2]) (rest := []) 9 657 590 592 rfl (by decide) rfl hk10 tb_657 tb_590 tb_592 (fun U hU => hU.t 591 tb_591 rfl) rfl rfl 1 0 rfl rfl ⟨by decide, by decide, by decide +kernel, by decide +kernel, by decide, by decide⟩ (Nat.le_of_ble_eq_true rfl) ⟨rfl, rfl, trivial⟩ rfl d_Su_layOutHeld_45 w))
set_option maxRecDepth 20000 in
theorem r_Su_layOutHeld_48 {E : zE} {K n : Nat → Nat} {I : Nat → Nat → Int32} {F : Nat → Nat → Option Nat} {J : Nat → Nat → Int64} {cb sb : Nat} {Q : zO → zH → Prop} {a0 : Nat} {a1 : Nat} {x2 : Int32} {sa0 : Nat}
    (w : K sa0 = 2 ∧ AW E m_Su_layOutHeld (K, n, I, F, J) cb sb Q 55 [some (.ref a0), some (.ref a1), some (.int x2), some (.ref sa0), some (.int (0 : Int32))] []) :
    AW E m_Su_layOutHeld (K, n, I, F, J) cb sb Q 48 [some (.ref a0), some (.ref a1), some (.int x2), none, none] [.ref sa0] := by
  obtain ⟨hk1, w⟩ := w
  refine aw_castO 1 695 rfl (by decide) tb_695 hk1 d_Su_layOutHeld_48 ?_
  refine aw_astore_n d_Su_layOutHeld_51 (by decide) ?_
  refine aw_iconst (v := (0 : Int32)) d_Su_layOutHeld_52 (by decide) ?_
  refine aw_istore d_Su_layOutHeld_53 (by decide) ?_
  exact aw_weak (lv' := [some (.ref a0), some (.ref a1), some (.int x2), some (.ref sa0), some (.int (0 : Int32))]) ⟨rfl, rfl, rfl, rfl, rfl, trivial⟩ w
set_option maxRecDepth 20000 in
theorem r_Su_layOutHeld_55 {E : zE} {K n : Nat → Nat} {I : Nat → Nat → Int32} {F : Nat → Nat → Option Nat} {J : Nat → Nat → Int64} {cb sb : Nat} {Q : zO → zH → Prop} {a0 : Nat} {a1 : Nat} {x2 : Int32} {a3 : Nat} {x4 : Int32}
    (w : K a3 = 2 ∧ (((I a3 2) ≤ x4 → AW E m_Su_layOutHeld (K, n, I, F, J) cb sb Q 23 [some (.ref a0), some (.ref a1), some (.int (x2 + (1 : Int32))), none, none] []) ∧ (¬ (I a3 2) ≤ x4 → K a0 = 8 ∧ (∃ b4 : Nat, F a0 11 = some b4 ∧ AW E m_Part_octetAt (K, n, I, F, J) 0 0 (zAft E m_Su_layOutHeld cb sb Q 72 [some (.ref a0), some (.ref a1), some (.int x2), some (.ref a3), some (.int x4)] [.ref a1]) 0 [some (.ref a3), some (.ref b4), some (.int x4)] [])))) :
    AW E m_Su_layOutHeld (K, n, I, F, J) cb sb Q 55 [some (.ref a0), some (.ref a1), some (.int x2), some (.ref a3), some (.int x4)] [] := by
  refine aw_iload (x := x4) d_Su_layOutHeld_55 rfl ?_
  refine aw_aload_n (x := a3) d_Su_layOutHeld_57 rfl ?_
  obtain ⟨hk1, w⟩ := w
  refine gf_Su_243 rfl hk1 d_Su_layOutHeld_58 ?_
  refine aw_icmp_ge (tgt := 84) d_Su_layOutHeld_61 (by decide) (fun cc2 => ?_) (fun cc2 => ?_)
  · replace w := w.1 cc2
    refine aw_iinc (v := (x2 + (1 : Int32))) d_Su_layOutHeld_84 rfl (by rfl) (by decide) ?_
    refine aw_goto (tgt := 23) d_Su_layOutHeld_87 (by decide) ?_
    exact aw_weak (lv' := [some (.ref a0), some (.ref a1), some (.int (x2 + (1 : Int32))), none, none]) ⟨rfl, rfl, rfl, trivial⟩ w
  · replace w := w.2 cc2
    refine aw_aload_n (x := a1) d_Su_layOutHeld_64 rfl ?_
    refine aw_aload_n (x := a3) d_Su_layOutHeld_65 rfl ?_
    refine aw_aload_n (x := a0) d_Su_layOutHeld_66 rfl ?_
    obtain ⟨hk3, w⟩ := w
    obtain ⟨b4, hb4, w⟩ := w
    refine gs_Su_60 rfl hk3 hb4 d_Su_layOutHeld_67 ?_
    refine aw_iload (x := x4) d_Su_layOutHeld_70 rfl ?_
    exact aw_room (cb' := 0 + cb) (sb' := 0 + sb) (by omega) (by omega) (aw_weak (lv' := [some (.ref a0), some (.ref a1), some (.int x2), some (.ref a3), some (.int x4)]) ⟨rfl, rfl, rfl, rfl, rfl, trivial⟩ (aw_callV (M' := m_Part_octetAt) (lv0 := [some (.ref a3), some (.ref b4), some (.int x4)]) (As := [.ref b4, .int x4]) (rest := [.ref a1]) 1 639 640 642 rfl (by decide) rfl hk1 tb_639 tb_640 tb_642 (fun U hU => hU.t 641 tb_641 rfl) rfl rfl 2 1 rfl rfl ⟨by decide, by decide, by decide +kernel, by decide +kernel, by decide, by decide⟩ (Nat.le_of_ble_eq_true rfl) ⟨rfl, rfl, rfl, trivial⟩ rfl d_Su_layOutHeld_72 w))
set_option maxRecDepth 20000 in
theorem r_Su_layOutHeld_75 {E : zE} {K n : Nat → Nat} {I : Nat → Nat → Int32} {F : Nat → Nat → Option Nat} {J : Nat → Nat → Int64} {cb sb : Nat} {Q : zO → zH → Prop} {a0 : Nat} {a1 : Nat} {x2 : Int32} {a3 : Nat} {x4 : Int32} {sa0 : Nat} {sx1 : Int32}
    (w : K sa0 = 4 ∧ AW E m_Row_append (K, n, I, F, J) 0 0 (zAft E m_Su_layOutHeld cb sb Q 75 [some (.ref a0), some (.ref a1), some (.int x2), some (.ref a3), some (.int x4)] []) 0 [some (.ref sa0), some (.int sx1)] []) :
    AW E m_Su_layOutHeld (K, n, I, F, J) cb sb Q 75 [some (.ref a0), some (.ref a1), some (.int x2), some (.ref a3), some (.int x4)] [.int sx1, .ref sa0] := by
  obtain ⟨hk1, w⟩ := w
  exact aw_room (cb' := 0 + cb) (sb' := 0 + sb) (by omega) (by omega) (aw_weak (lv' := [some (.ref a0), some (.ref a1), some (.int x2), some (.ref a3), some (.int x4)]) ⟨rfl, rfl, rfl, rfl, rfl, trivial⟩ (aw_callV (M' := m_Row_append) (lv0 := [some (.ref sa0), some (.int sx1)]) (As := [.int sx1]) (rest := []) 3 730 731 733 rfl (by decide) rfl hk1 tb_730 tb_731 tb_733 (fun U hU => hU.t 732 tb_732 rfl) rfl rfl 1 0 rfl rfl ⟨by decide, by decide, by decide +kernel, by decide +kernel, by decide, by decide⟩ (Nat.le_of_ble_eq_true rfl) ⟨rfl, rfl, trivial⟩ rfl d_Su_layOutHeld_75 w))
set_option maxRecDepth 20000 in
theorem r_Su_layOutHeld_78 {E : zE} {K n : Nat → Nat} {I : Nat → Nat → Int32} {F : Nat → Nat → Option Nat} {J : Nat → Nat → Int64} {cb sb : Nat} {Q : zO → zH → Prop} {a0 : Nat} {a1 : Nat} {x2 : Int32} {a3 : Nat} {x4 : Int32}
    (w : AW E m_Su_layOutHeld (K, n, I, F, J) cb sb Q 55 [some (.ref a0), some (.ref a1), some (.int x2), some (.ref a3), some (.int (x4 + (1 : Int32)))] []) :
    AW E m_Su_layOutHeld (K, n, I, F, J) cb sb Q 78 [some (.ref a0), some (.ref a1), some (.int x2), some (.ref a3), some (.int x4)] [] := by
  refine aw_iinc (v := (x4 + (1 : Int32))) d_Su_layOutHeld_78 rfl (by rfl) (by decide) ?_
  refine aw_goto (tgt := 55) d_Su_layOutHeld_81 (by decide) ?_
  exact aw_weak (lv' := [some (.ref a0), some (.ref a1), some (.int x2), some (.ref a3), some (.int (x4 + (1 : Int32)))]) ⟨rfl, rfl, rfl, rfl, rfl, trivial⟩ w
set_option maxRecDepth 20000 in
theorem r_Su_longestOf_0 {E : zE} {K n : Nat → Nat} {I : Nat → Nat → Int32} {F : Nat → Nat → Option Nat} {J : Nat → Nat → Int64} {cb sb : Nat} {Q : zO → zH → Prop} {a0 : Nat} {x1 : Int32}
    (w : AW E m_Su_longestOf (K, n, I, F, J) cb sb Q 4 [some (.ref a0), some (.int x1), some (.int (0 : Int32)), some (.int (0 : Int32)), none] []) :
    AW E m_Su_longestOf (K, n, I, F, J) cb sb Q 0 [some (.ref a0), some (.int x1), none, none, none] [] := by
  refine aw_iconst (v := (0 : Int32)) d_Su_longestOf_0 (by decide) ?_
  refine aw_istore_n d_Su_longestOf_1 (by decide) ?_
  refine aw_iconst (v := (0 : Int32)) d_Su_longestOf_2 (by decide) ?_
  refine aw_istore_n d_Su_longestOf_3 (by decide) ?_
  exact aw_weak (lv' := [some (.ref a0), some (.int x1), some (.int (0 : Int32)), some (.int (0 : Int32)), none]) ⟨rfl, rfl, rfl, rfl, trivial⟩ w
set_option maxRecDepth 20000 in
theorem r_Su_longestOf_4 {E : zE} {K n : Nat → Nat} {I : Nat → Nat → Int32} {F : Nat → Nat → Option Nat} {J : Nat → Nat → Int64} {cb sb : Nat} {Q : zO → zH → Prop} {a0 : Nat} {x1 : Int32} {x2 : Int32} {x3 : Int32}
    (w : K a0 = 8 ∧ (∃ b2 : Nat, F a0 3 = some b2 ∧ K b2 = 5 ∧ (((I b2 1) ≤ x3 → Q (.inl (some (.int x2))) (K, n, I, F, J)) ∧ (¬ (I b2 1) ≤ x3 → AW E m_Rows_at (K, n, I, F, J) 0 0 (zAft E m_Su_longestOf cb sb Q 20 [some (.ref a0), some (.int x1), some (.int x2), some (.int x3), none] []) 0 [some (.ref b2), some (.int x3)] [])))) :
    AW E m_Su_longestOf (K, n, I, F, J) cb sb Q 4 [some (.ref a0), some (.int x1), some (.int x2), some (.int x3), none] [] := by
  refine aw_iload_n (x := x3) d_Su_longestOf_4 rfl ?_
  refine aw_aload_n (x := a0) d_Su_longestOf_5 rfl ?_
  obtain ⟨hk1, w⟩ := w
  obtain ⟨b2, hb2, w⟩ := w
  refine gs_Su_27 rfl hk1 hb2 d_Su_longestOf_6 ?_
  obtain ⟨hk3, w⟩ := w
  refine gf_Su_95 rfl hk3 d_Su_longestOf_9 ?_
  refine aw_icmp_ge (tgt := 55) d_Su_longestOf_12 (by decide) (fun cc4 => ?_) (fun cc4 => ?_)
  · replace w := w.1 cc4
    refine aw_iload_n (x := x2) d_Su_longestOf_55 rfl ?_
    exact aw_ireturn .int rfl rfl d_Su_longestOf_56 w
  · replace w := w.2 cc4
    refine aw_aload_n (x := a0) d_Su_longestOf_15 rfl ?_
    refine gs_Su_27 rfl hk1 hb2 d_Su_longestOf_16 ?_
    refine aw_iload_n (x := x3) d_Su_longestOf_19 rfl ?_
    exact aw_room (cb' := 0 + cb) (sb' := 0 + sb) (by omega) (by omega) (aw_weak (lv' := [some (.ref a0), some (.int x1), some (.int x2), some (.int x3), none]) ⟨rfl, rfl, rfl, rfl, trivial⟩ (aw_callV (M' := m_Rows_at) (lv0 := [some (.ref b2), some (.int x3)]) (As := [.int x3]) (rest := []) 4 617 618 620 rfl (by decide) rfl hk3 tb_617 tb_618 tb_620 (fun U hU => hU.t 619 tb_619 rfl) rfl rfl 1 0 rfl rfl ⟨by decide, by decide, by decide +kernel, by decide +kernel, by decide, by decide⟩ (Nat.le_of_ble_eq_true rfl) ⟨rfl, rfl, trivial⟩ rfl d_Su_longestOf_20 w))
set_option maxRecDepth 20000 in
theorem r_Su_longestOf_23 {E : zE} {K n : Nat → Nat} {I : Nat → Nat → Int32} {F : Nat → Nat → Option Nat} {J : Nat → Nat → Int64} {cb sb : Nat} {Q : zO → zH → Prop} {a0 : Nat} {x1 : Int32} {x2 : Int32} {x3 : Int32} {sr0 : Option Nat}
    (w : ((sr0 = none → AW E m_Su_longestOf (K, n, I, F, J) cb sb Q 4 [some (.ref a0), some (.int x1), some (.int x2), some (.int (x3 + (1 : Int32))), none] []) ∧ (∀ z1 : Nat, sr0 = some z1 → K z1 = 4 ∧ ((¬ (I z1 2) = x1 → AW E m_Su_longestOf (K, n, I, F, J) cb sb Q 4 [some (.ref a0), some (.int x1), some (.int x2), some (.int (x3 + (1 : Int32))), none] []) ∧ ((I z1 2) = x1 → AW E m_Math_max (K, n, I, F, J) 0 0 (zAft E m_Su_longestOf cb sb Q 45 [some (.ref a0), some (.int x1), none, some (.int x3), none] []) 0 [some (.int x2), some (.int (I z1 1))] []))))) :
    AW E m_Su_longestOf (K, n, I, F, J) cb sb Q 23 [some (.ref a0), some (.int x1), some (.int x2), some (.int x3), none] [va_rf sr0] := by
  refine aw_astoreR d_Su_longestOf_23 (by decide) ?_
  refine aw_aloadR (r := sr0) d_Su_longestOf_25 (by first | rfl | (cases sr0 <;> rfl)) ?_
  refine aw_ifnull (r := sr0) (tgt := 49) d_Su_longestOf_27 (by decide) (fun cc2 => ?_) (fun z1 cc2 => ?_)
  · replace w := w.1 cc2
    subst cc2
    refine aw_iinc (v := (x3 + (1 : Int32))) d_Su_longestOf_49 rfl (by rfl) (by decide) ?_
    refine aw_goto (tgt := 4) d_Su_longestOf_52 (by decide) ?_
    exact aw_weak (lv' := [some (.ref a0), some (.int x1), some (.int x2), some (.int (x3 + (1 : Int32))), none]) ⟨rfl, rfl, rfl, rfl, trivial⟩ w
  · replace w := w.2 z1 cc2
    subst cc2
    refine aw_aload (x := z1) d_Su_longestOf_30 rfl ?_
    obtain ⟨hk3, w⟩ := w
    refine gf_Su_100 rfl hk3 d_Su_longestOf_32 ?_
    refine aw_iload_n (x := x1) d_Su_longestOf_35 rfl ?_
    refine aw_icmp_ne (tgt := 49) d_Su_longestOf_36 (by decide) (fun cc4 => ?_) (fun cc4 => ?_)
    · replace w := w.1 cc4
      refine aw_iinc (v := (x3 + (1 : Int32))) d_Su_longestOf_49 rfl (by rfl) (by decide) ?_
      refine aw_goto (tgt := 4) d_Su_longestOf_52 (by decide) ?_
      exact aw_weak (lv' := [some (.ref a0), some (.int x1), some (.int x2), some (.int (x3 + (1 : Int32))), none]) ⟨rfl, rfl, rfl, rfl, trivial⟩ w
    · replace w := w.2 cc4
      refine aw_iload_n (x := x2) d_Su_longestOf_39 rfl ?_
      refine aw_aload (x := z1) d_Su_longestOf_40 rfl ?_
      refine gf_Su_134 rfl hk3 d_Su_longestOf_42 ?_
      exact aw_room (cb' := 0 + cb) (sb' := 0 + sb) (by omega) (by omega) (aw_weak (lv' := [some (.ref a0), some (.int x1), none, some (.int x3), none]) ⟨rfl, rfl, rfl, trivial⟩ (aw_callS (M' := m_Math_max) (lv0 := [some (.int x2), some (.int (I z1 1))]) (As := [.int x2, .int (I z1 1)]) (rest := []) 638 476 477 10 tb_638 tb_476 tb_477 tb_10 rfl rfl 2 0 rfl rfl ⟨by decide, by decide, by decide +kernel, by decide +kernel, by decide, by decide⟩ (Nat.le_of_ble_eq_true rfl) ⟨rfl, rfl, trivial⟩ rfl d_Su_longestOf_45 w))
set_option maxRecDepth 20000 in
theorem r_Su_longestOf_48 {E : zE} {K n : Nat → Nat} {I : Nat → Nat → Int32} {F : Nat → Nat → Option Nat} {J : Nat → Nat → Int64} {cb sb : Nat} {Q : zO → zH → Prop} {a0 : Nat} {x1 : Int32} {x3 : Int32} {sx0 : Int32}
    (w : AW E m_Su_longestOf (K, n, I, F, J) cb sb Q 4 [some (.ref a0), some (.int x1), some (.int sx0), some (.int (x3 + (1 : Int32))), none] []) :
    AW E m_Su_longestOf (K, n, I, F, J) cb sb Q 48 [some (.ref a0), some (.int x1), none, some (.int x3), none] [.int sx0] := by
  refine aw_istore_n d_Su_longestOf_48 (by decide) ?_
  refine aw_iinc (v := (x3 + (1 : Int32))) d_Su_longestOf_49 rfl (by rfl) (by decide) ?_
  refine aw_goto (tgt := 4) d_Su_longestOf_52 (by decide) ?_
  exact aw_weak (lv' := [some (.ref a0), some (.int x1), some (.int sx0), some (.int (x3 + (1 : Int32))), none]) ⟨rfl, rfl, rfl, rfl, trivial⟩ w
set_option maxRecDepth 20000 in
theorem r_Su_joinWithAll_0 {E : zE} {K n : Nat → Nat} {I : Nat → Nat → Int32} {F : Nat → Nat → Option Nat} {J : Nat → Nat → Int64} {cb sb : Nat} {Q : zO → zH → Prop} {a0 : Nat} {a1 : Nat} {x2 : Int32} {x3 : Int32}
    (w : K a0 = 8 ∧ (∃ b2 : Nat, F a0 2 = some b2 ∧ K b2 = 6 ∧ (∃ b4 : Nat, F b2 0 = some b4 ∧ K b4 = 10 ∧ AW E m_ArrayList_isEmpty (K, n, I, F, J) 0 0 (zAft E m_Su_joinWithAll cb sb Q 7 [some (.ref a0), some (.ref a1), some (.int x2), some (.int x3), none, none, none, none] []) 0 [some (.ref b4)] []))) :
    AW E m_Su_joinWithAll (K, n, I, F, J) cb sb Q 0 [some (.ref a0), some (.ref a1), some (.int x2), some (.int x3), none, none, none, none] [] := by
  refine aw_aload_n (x := a0) d_Su_joinWithAll_0 rfl ?_
  obtain ⟨hk1, w⟩ := w
  obtain ⟨b2, hb2, w⟩ := w
  refine gs_Su_20 rfl hk1 hb2 d_Su_joinWithAll_1 ?_
  obtain ⟨hk3, w⟩ := w
  obtain ⟨b4, hb4, w⟩ := w
  refine gs_Su_144 rfl hk3 hb4 d_Su_joinWithAll_4 ?_
  obtain ⟨hk5, w⟩ := w
  exact aw_room (cb' := 0 + cb) (sb' := 0 + sb) (by omega) (by omega) (aw_weak (lv' := [some (.ref a0), some (.ref a1), some (.int x2), some (.int x3), none, none, none, none]) ⟨rfl, rfl, rfl, rfl, trivial⟩ (aw_callV (M' := m_ArrayList_isEmpty) (lv0 := [some (.ref b4)]) (As := []) (rest := []) 9 690 626 628 rfl (by decide) rfl hk5 tb_690 tb_626 tb_628 (fun U hU => hU.t 627 tb_627 rfl) rfl rfl 0 0 rfl rfl ⟨by decide, by decide, by decide +kernel, by decide +kernel, by decide, by decide⟩ (Nat.le_of_ble_eq_true rfl) ⟨rfl, trivial⟩ rfl d_Su_joinWithAll_7 w))
set_option maxRecDepth 20000 in
theorem r_Su_joinWithAll_10 {E : zE} {K n : Nat → Nat} {I : Nat → Nat → Int32} {F : Nat → Nat → Option Nat} {J : Nat → Nat → Int64} {cb sb : Nat} {Q : zO → zH → Prop} {a0 : Nat} {a1 : Nat} {x2 : Int32} {x3 : Int32} {sx0 : Int32}
    (w : ((sx0 = 0 → K a0 = 8 ∧ (∃ b3 : Nat, F a0 2 = some b3 ∧ K b3 = 6 ∧ (∃ b5 : Nat, F b3 0 = some b5 ∧ K b5 = 10 ∧ AW E m_ArrayList_get (K, n, I, F, J) 0 0 (zAft E m_Su_joinWithAll cb sb Q 23 [some (.ref a0), some (.ref a1), some (.int x2), some (.int x3), none, none, none, none] []) 0 [some (.ref b5), some (.int (0 : Int32))] []))) ∧ (¬ sx0 = 0 → Q (.inl (some (.int (0 : Int32)))) (K, n, I, F, J)))) :
    AW E m_Su_joinWithAll (K, n, I, F, J) cb sb Q 10 [some (.ref a0), some (.ref a1), some (.int x2), some (.int x3), none, none, none, none] [.int sx0] := by
  refine aw_if_eq (tgt := 15) d_Su_joinWithAll_10 (by decide) (fun cc1 => ?_) (fun cc1 => ?_)
  · replace w := w.1 cc1
    refine aw_aload_n (x := a0) d_Su_joinWithAll_15 rfl ?_
    obtain ⟨hk2, w⟩ := w
    obtain ⟨b3, hb3, w⟩ := w
    refine gs_Su_20 rfl hk2 hb3 d_Su_joinWithAll_16 ?_
    obtain ⟨hk4, w⟩ := w
    obtain ⟨b5, hb5, w⟩ := w
    refine gs_Su_144 rfl hk4 hb5 d_Su_joinWithAll_19 ?_
    refine aw_iconst (v := (0 : Int32)) d_Su_joinWithAll_22 (by decide) ?_
    obtain ⟨hk6, w⟩ := w
    exact aw_room (cb' := 0 + cb) (sb' := 0 + sb) (by omega) (by omega) (aw_weak (lv' := [some (.ref a0), some (.ref a1), some (.int x2), some (.int x3), none, none, none, none]) ⟨rfl, rfl, rfl, rfl, trivial⟩ (aw_callV (M' := m_ArrayList_get) (lv0 := [some (.ref b5), some (.int (0 : Int32))]) (As := [.int (0 : Int32)]) (rest := []) 9 657 590 592 rfl (by decide) rfl hk6 tb_657 tb_590 tb_592 (fun U hU => hU.t 591 tb_591 rfl) rfl rfl 1 0 rfl rfl ⟨by decide, by decide, by decide +kernel, by decide +kernel, by decide, by decide⟩ (Nat.le_of_ble_eq_true rfl) ⟨rfl, rfl, trivial⟩ rfl d_Su_joinWithAll_23 w))
  · replace w := w.2 cc1
    refine aw_iconst (v := (0 : Int32)) d_Su_joinWithAll_13 (by decide) ?_
    exact aw_ireturn .boolean rfl rfl d_Su_joinWithAll_14 w
set_option maxRecDepth 20000 in
theorem r_Su_joinWithAll_26 {E : zE} {K n : Nat → Nat} {I : Nat → Nat → Int32} {F : Nat → Nat → Option Nat} {J : Nat → Nat → Int64} {cb sb : Nat} {Q : zO → zH → Prop} {a0 : Nat} {a1 : Nat} {x2 : Int32} {x3 : Int32} {sa0 : Nat}
    (w : K sa0 = 1 ∧ AW E m_Su_joinWithAll (K, n, I, F, J) cb sb Q 37 [some (.ref a0), some (.ref a1), some (.int x2), some (.int x3), some (.ref sa0), some (.int (0 : Int32)), some (.int (0 : Int32)), none] []) :
    AW E m_Su_joinWithAll (K, n, I, F, J) cb sb Q 26 [some (.ref a0), some (.ref a1), some (.int x2), some (.int x3), none, none, none, none] [.ref sa0] := by
  obtain ⟨hk1, w⟩ := w
  refine aw_castO 0 763 rfl (by decide) tb_763 hk1 d_Su_joinWithAll_26 ?_
  refine aw_astore d_Su_joinWithAll_29 (by decide) ?_
  refine aw_iconst (v := (0 : Int32)) d_Su_joinWithAll_31 (by decide) ?_
  refine aw_istore d_Su_joinWithAll_32 (by decide) ?_
  refine aw_iconst (v := (0 : Int32)) d_Su_joinWithAll_34 (by decide) ?_
  refine aw_istore d_Su_joinWithAll_35 (by decide) ?_
  exact aw_weak (lv' := [some (.ref a0), some (.ref a1), some (.int x2), some (.int x3), some (.ref sa0), some (.int (0 : Int32)), some (.int (0 : Int32)), none]) ⟨rfl, rfl, rfl, rfl, rfl, rfl, rfl, trivial⟩ w
set_option maxRecDepth 20000 in
theorem r_Su_joinWithAll_37 {E : zE} {K n : Nat → Nat} {I : Nat → Nat → Int32} {F : Nat → Nat → Option Nat} {J : Nat → Nat → Int64} {cb sb : Nat} {Q : zO → zH → Prop} {a0 : Nat} {a1 : Nat} {x2 : Int32} {x3 : Int32} {a4 : Nat} {x5 : Int32} {x6 : Int32}
    (w : K a0 = 8 ∧ (∃ b2 : Nat, F a0 3 = some b2 ∧ K b2 = 5 ∧ (((I b2 1) ≤ x6 → (x5 = 0 ∨ x5 = 1) ∧ Q (.inl (some (.int x5))) (K, n, I, F, J)) ∧ (¬ (I b2 1) ≤ x6 → AW E m_Rows_at (K, n, I, F, J) 0 0 (zAft E m_Su_joinWithAll cb sb Q 55 [some (.ref a0), some (.ref a1), some (.int x2), some (.int x3), some (.ref a4), some (.int x5), some (.int x6), none] []) 0 [some (.ref b2), some (.int x6)] [])))) :
    AW E m_Su_joinWithAll (K, n, I, F, J) cb sb Q 37 [some (.ref a0), some (.ref a1), some (.int x2), some (.int x3), some (.ref a4), some (.int x5), some (.int x6), none] [] := by
  refine aw_iload (x := x6) d_Su_joinWithAll_37 rfl ?_
  refine aw_aload_n (x := a0) d_Su_joinWithAll_39 rfl ?_
  obtain ⟨hk1, w⟩ := w
  obtain ⟨b2, hb2, w⟩ := w
  refine gs_Su_27 rfl hk1 hb2 d_Su_joinWithAll_40 ?_
  obtain ⟨hk3, w⟩ := w
  refine gf_Su_95 rfl hk3 d_Su_joinWithAll_43 ?_
  refine aw_icmp_ge (tgt := 115) d_Su_joinWithAll_46 (by decide) (fun cc4 => ?_) (fun cc4 => ?_)
  · replace w := w.1 cc4
    refine aw_iload (x := x5) d_Su_joinWithAll_115 rfl ?_
    obtain ⟨hz5, w⟩ := w
    exact aw_ireturn .boolean rfl (by rcases hz5 with q | q <;> rw [q] <;> rfl) d_Su_joinWithAll_117 w
  · replace w := w.2 cc4
    refine aw_aload_n (x := a0) d_Su_joinWithAll_49 rfl ?_
    refine gs_Su_27 rfl hk1 hb2 d_Su_joinWithAll_50 ?_
    refine aw_iload (x := x6) d_Su_joinWithAll_53 rfl ?_
    exact aw_room (cb' := 0 + cb) (sb' := 0 + sb) (by omega) (by omega) (aw_weak (lv' := [some (.ref a0), some (.ref a1), some (.int x2), some (.int x3), some (.ref a4), some (.int x5), some (.int x6), none]) ⟨rfl, rfl, rfl, rfl, rfl, rfl, rfl, trivial⟩ (aw_callV (M' := m_Rows_at) (lv0 := [some (.ref b2), some (.int x6)]) (As := [.int x6]) (rest := []) 4 617 618 620 rfl (by decide) rfl hk3 tb_617 tb_618 tb_620 (fun U hU => hU.t 619 tb_619 rfl) rfl rfl 1 0 rfl rfl ⟨by decide, by decide, by decide +kernel, by decide +kernel, by decide, by decide⟩ (Nat.le_of_ble_eq_true rfl) ⟨rfl, rfl, trivial⟩ rfl d_Su_joinWithAll_55 w))
set_option maxRecDepth 20000 in
theorem r_Su_joinWithAll_58 {E : zE} {K n : Nat → Nat} {I : Nat → Nat → Int32} {F : Nat → Nat → Option Nat} {J : Nat → Nat → Int64} {cb sb : Nat} {Q : zO → zH → Prop} {a0 : Nat} {a1 : Nat} {x2 : Int32} {x3 : Int32} {a4 : Nat} {x5 : Int32} {x6 : Int32} {sr0 : Option Nat}
    (w : ((sr0 = none → AW E m_Su_joinWithAll (K, n, I, F, J) cb sb Q 109 [some (.ref a0), some (.ref a1), some (.int x2), some (.int x3), some (.ref a4), some (.int x5), some (.int x6), none] []) ∧ (∀ z1 : Nat, sr0 = some z1 → K z1 = 4 ∧ ((¬ (I z1 2) = x2 → AW E m_Su_joinWithAll (K, n, I, F, J) cb sb Q 109 [some (.ref a0), some (.ref a1), some (.int x2), some (.int x3), some (.ref a4), some (.int x5), some (.int x6), none] []) ∧ ((I z1 2) = x2 → K a4 = 1 ∧ (∃ b6 : Nat, F a4 0 = some b6 ∧ AW E m_Su_compareParts (K, n, I, F, J) 0 0 (zAft E m_Su_joinWithAll cb sb Q 92 [some (.ref a0), some (.ref a1), some (.int x2), some (.int x3), some (.ref a4), some (.int x5), some (.int x6), some (.ref z1)] []) 0 [some (.ref b6), some (.ref a1), some (.ref b6), some (.ref z1), some (.int (I a4 2)), none, none, none, none, none] [])))))) :
    AW E m_Su_joinWithAll (K, n, I, F, J) cb sb Q 58 [some (.ref a0), some (.ref a1), some (.int x2), some (.int x3), some (.ref a4), some (.int x5), some (.int x6), none] [va_rf sr0] := by
  refine aw_astoreR d_Su_joinWithAll_58 (by decide) ?_
  refine aw_aloadR (r := sr0) d_Su_joinWithAll_60 (by first | rfl | (cases sr0 <;> rfl)) ?_
  refine aw_ifnull (r := sr0) (tgt := 109) d_Su_joinWithAll_62 (by decide) (fun cc2 => ?_) (fun z1 cc2 => ?_)
  · replace w := w.1 cc2
    subst cc2
    exact aw_weak (lv' := [some (.ref a0), some (.ref a1), some (.int x2), some (.int x3), some (.ref a4), some (.int x5), some (.int x6), none]) ⟨rfl, rfl, rfl, rfl, rfl, rfl, rfl, trivial⟩ w
  · replace w := w.2 z1 cc2
    subst cc2
    refine aw_aload (x := z1) d_Su_joinWithAll_65 rfl ?_
    obtain ⟨hk3, w⟩ := w
    refine gf_Su_100 rfl hk3 d_Su_joinWithAll_67 ?_
    refine aw_iload_n (x := x2) d_Su_joinWithAll_70 rfl ?_
    refine aw_icmp_ne (tgt := 109) d_Su_joinWithAll_71 (by decide) (fun cc4 => ?_) (fun cc4 => ?_)
    · replace w := w.1 cc4
      exact aw_weak (lv' := [some (.ref a0), some (.ref a1), some (.int x2), some (.int x3), some (.ref a4), some (.int x5), some (.int x6), none]) ⟨rfl, rfl, rfl, rfl, rfl, rfl, rfl, trivial⟩ w
    · replace w := w.2 cc4
      refine aw_aload (x := a4) d_Su_joinWithAll_74 rfl ?_
      obtain ⟨hk5, w⟩ := w
      obtain ⟨b6, hb6, w⟩ := w
      refine gs_Su_253 rfl hk5 hb6 d_Su_joinWithAll_76 ?_
      refine aw_aload_n (x := a1) d_Su_joinWithAll_79 rfl ?_
      refine aw_aload (x := a4) d_Su_joinWithAll_80 rfl ?_
      refine gs_Su_253 rfl hk5 hb6 d_Su_joinWithAll_82 ?_
      refine aw_aload (x := z1) d_Su_joinWithAll_85 rfl ?_
      refine aw_aload (x := a4) d_Su_joinWithAll_87 rfl ?_
      refine gf_Su_257 rfl hk5 d_Su_joinWithAll_89 ?_
      exact aw_room (cb' := 0 + cb) (sb' := 0 + sb) (by omega) (by omega) (aw_weak (lv' := [some (.ref a0), some (.ref a1), some (.int x2), some (.int x3), some (.ref a4), some (.int x5), some (.int x6), some (.ref z1)]) ⟨rfl, rfl, rfl, rfl, rfl, rfl, rfl, rfl, trivial⟩ (aw_callS (M' := m_Su_compareParts) (lv0 := [some (.ref b6), some (.ref a1), some (.ref b6), some (.ref z1), some (.int (I a4 2)), none, none, none, none, none]) (As := [.ref b6, .ref a1, .ref b6, .ref z1, .int (I a4 2)]) (rest := []) 764 636 637 1 tb_764 tb_636 tb_637 tb_1 rfl rfl 5 0 rfl rfl ⟨by decide, by decide, by decide +kernel, by decide +kernel, by decide, by decide⟩ (Nat.le_of_ble_eq_true rfl) ⟨rfl, rfl, rfl, rfl, rfl, trivial⟩ rfl d_Su_joinWithAll_92 w))
set_option maxRecDepth 20000 in
theorem r_Su_joinWithAll_95 {E : zE} {K n : Nat → Nat} {I : Nat → Nat → Int32} {F : Nat → Nat → Option Nat} {J : Nat → Nat → Int64} {cb sb : Nat} {Q : zO → zH → Prop} {a0 : Nat} {a1 : Nat} {x2 : Int32} {x3 : Int32} {a4 : Nat} {x5 : Int32} {x6 : Int32} {a7 : Nat} {sx0 : Int32}
    (w : ((¬ sx0 = 0 → AW E m_Su_joinWithAll (K, n, I, F, J) cb sb Q 109 [some (.ref a0), some (.ref a1), some (.int x2), some (.int x3), some (.ref a4), some (.int x5), some (.int x6), none] []) ∧ (sx0 = 0 → K a0 = 8 ∧ (∃ c1 s1 c2 s2 : Nat, c1 + c2 ≤ cb ∧ s1 + s2 ≤ sb ∧ AW E m_Su_addJoined (K, n, I, F, J) c1 s1 (zAft E m_Su_joinWithAll c2 s2 Q 106 [some (.ref a0), some (.ref a1), some (.int x2), some (.int x3), some (.ref a4), some (.int (1 : Int32)), some (.int x6), none] []) 0 [some (.ref a0), some (.ref a1), some (.ref a7), some (.int x3), none, none] [])))) :
    AW E m_Su_joinWithAll (K, n, I, F, J) cb sb Q 95 [some (.ref a0), some (.ref a1), some (.int x2), some (.int x3), some (.ref a4), some (.int x5), some (.int x6), some (.ref a7)] [.int sx0] := by
  refine aw_if_ne (tgt := 109) d_Su_joinWithAll_95 (by decide) (fun cc1 => ?_) (fun cc1 => ?_)
  · replace w := w.1 cc1
    exact aw_weak (lv' := [some (.ref a0), some (.ref a1), some (.int x2), some (.int x3), some (.ref a4), some (.int x5), some (.int x6), none]) ⟨rfl, rfl, rfl, rfl, rfl, rfl, rfl, trivial⟩ w
  · replace w := w.2 cc1
    refine aw_iconst (v := (1 : Int32)) d_Su_joinWithAll_98 (by decide) ?_
    refine aw_istore d_Su_joinWithAll_99 (by decide) ?_
    refine aw_aload_n (x := a0) d_Su_joinWithAll_101 rfl ?_
    refine aw_aload_n (x := a1) d_Su_joinWithAll_102 rfl ?_
    refine aw_aload (x := a7) d_Su_joinWithAll_103 rfl ?_
    refine aw_iload_n (x := x3) d_Su_joinWithAll_105 rfl ?_
    obtain ⟨hk2, w⟩ := w
    obtain ⟨c1, s1, c2, s2, hq1, hq2, w⟩ := w
    exact aw_room hq1 hq2 (aw_weak (lv' := [some (.ref a0), some (.ref a1), some (.int x2), some (.int x3), some (.ref a4), some (.int (1 : Int32)), some (.int x6), none]) ⟨rfl, rfl, rfl, rfl, rfl, rfl, rfl, trivial⟩ (aw_callV (M' := m_Su_addJoined) (lv0 := [some (.ref a0), some (.ref a1), some (.ref a7), some (.int x3), none, none]) (As := [.ref a1, .ref a7, .int x3]) (rest := []) 7 765 767 768 rfl (by decide) rfl hk2 tb_765 tb_767 tb_768 (fun U hU => hU.p 31 rfl) rfl rfl 3 0 rfl rfl ⟨by decide, by decide, by decide +kernel, by decide +kernel, by decide, by decide⟩ (Nat.le_of_ble_eq_true rfl) ⟨rfl, rfl, rfl, rfl, trivial⟩ rfl d_Su_joinWithAll_106 w))
set_option maxRecDepth 20000 in
theorem r_Su_joinWithAll_109 {E : zE} {K n : Nat → Nat} {I : Nat → Nat → Int32} {F : Nat → Nat → Option Nat} {J : Nat → Nat → Int64} {cb sb : Nat} {Q : zO → zH → Prop} {a0 : Nat} {a1 : Nat} {x2 : Int32} {x3 : Int32} {a4 : Nat} {x5 : Int32} {x6 : Int32}
    (w : AW E m_Su_joinWithAll (K, n, I, F, J) cb sb Q 37 [some (.ref a0), some (.ref a1), some (.int x2), some (.int x3), some (.ref a4), some (.int x5), some (.int (x6 + (1 : Int32))), none] []) :
    AW E m_Su_joinWithAll (K, n, I, F, J) cb sb Q 109 [some (.ref a0), some (.ref a1), some (.int x2), some (.int x3), some (.ref a4), some (.int x5), some (.int x6), none] [] := by
  refine aw_iinc (v := (x6 + (1 : Int32))) d_Su_joinWithAll_109 rfl (by rfl) (by decide) ?_
  refine aw_goto (tgt := 37) d_Su_joinWithAll_112 (by decide) ?_
  exact aw_weak (lv' := [some (.ref a0), some (.ref a1), some (.int x2), some (.int x3), some (.ref a4), some (.int x5), some (.int (x6 + (1 : Int32))), none]) ⟨rfl, rfl, rfl, rfl, rfl, rfl, rfl, trivial⟩ w
set_option maxRecDepth 20000 in
theorem r_Su_addJoined_0 {E : zE} {K n : Nat → Nat} {I : Nat → Nat → Int32} {F : Nat → Nat → Option Nat} {J : Nat → Nat → Int64} {cb sb : Nat} {Q : zO → zH → Prop} {a0 : Nat} {a1 : Nat} {a2 : Nat} {x3 : Int32}
    (w : K a0 = 8 ∧ (∃ b2 : Nat, F a0 6 = some b2 ∧ K b2 = 5 ∧ (∃ c1 s1 c2 s2 : Nat, c1 + c2 ≤ cb ∧ s1 + s2 ≤ sb ∧ AW E m_Rows_add (K, n, I, F, J) c1 s1 (zAft E m_Su_addJoined c2 s2 Q 4 [none, some (.ref a1), some (.ref a2), some (.int x3), none, none] []) 0 [some (.ref b2), none] []))) :
    AW E m_Su_addJoined (K, n, I, F, J) cb sb Q 0 [some (.ref a0), some (.ref a1), some (.ref a2), some (.int x3), none, none] [] := by
  refine aw_aload_n (x := a0) d_Su_addJoined_0 rfl ?_
  obtain ⟨hk1, w⟩ := w
  obtain ⟨b2, hb2, w⟩ := w
  refine gs_Su_37 rfl hk1 hb2 d_Su_addJoined_1 ?_
  obtain ⟨hk3, w⟩ := w
  obtain ⟨c1, s1, c2, s2, hq1, hq2, w⟩ := w
  exact aw_room hq1 hq2 (aw_weak (lv' := [none, some (.ref a1), some (.ref a2), some (.int x3), none, none]) ⟨rfl, rfl, rfl, trivial⟩ (aw_callV (M' := m_Rows_add) (lv0 := [some (.ref b2), none]) (As := []) (rest := []) 4 581 582 584 rfl (by decide) rfl hk3 tb_581 tb_582 tb_584 (fun U hU => hU.t 583 tb_583 rfl) rfl rfl 0 0 rfl rfl ⟨by decide, by decide, by decide +kernel, by decide +kernel, by decide, by decide⟩ (Nat.le_of_ble_eq_true rfl) ⟨rfl, trivial⟩ rfl d_Su_addJoined_4 w))
set_option maxRecDepth 20000 in
theorem r_Su_addJoined_7 {E : zE} {K n : Nat → Nat} {I : Nat → Nat → Int32} {F : Nat → Nat → Option Nat} {J : Nat → Nat → Int64} {cb sb : Nat} {Q : zO → zH → Prop} {a1 : Nat} {a2 : Nat} {x3 : Int32} {sr0 : Option Nat}
    (w : ((sr0 = none → Q (.inl none) (K, n, I, F, J)) ∧ (∀ z1 : Nat, sr0 = some z1 → K z1 = 4 ∧ AW E m_Row_become (K, n, I, F, J) 0 0 (zAft E m_Su_addJoined cb sb Q 18 [none, some (.ref a1), some (.ref a2), some (.int x3), some (.ref z1), none] []) 0 [some (.ref z1), some (.ref a1)] []))) :
    AW E m_Su_addJoined (K, n, I, F, J) cb sb Q 7 [none, some (.ref a1), some (.ref a2), some (.int x3), none, none] [va_rf sr0] := by
  refine aw_astoreR d_Su_addJoined_7 (by decide) ?_
  refine aw_aloadR (r := sr0) d_Su_addJoined_9 (by first | rfl | (cases sr0 <;> rfl)) ?_
  refine aw_ifnonnull (r := sr0) (tgt := 15) d_Su_addJoined_11 (by decide) (fun z1 cc2 => ?_) (fun cc2 => ?_)
  · replace w := w.2 z1 cc2
    subst cc2
    refine aw_aload (x := z1) d_Su_addJoined_15 rfl ?_
    refine aw_aload_n (x := a1) d_Su_addJoined_17 rfl ?_
    obtain ⟨hk3, w⟩ := w
    exact aw_room (cb' := 0 + cb) (sb' := 0 + sb) (by omega) (by omega) (aw_weak (lv' := [none, some (.ref a1), some (.ref a2), some (.int x3), some (.ref z1), none]) ⟨rfl, rfl, rfl, rfl, trivial⟩ (aw_callV (M' := m_Row_become) (lv0 := [some (.ref z1), some (.ref a1)]) (As := [.ref a1]) (rest := []) 3 677 678 680 rfl (by decide) rfl hk3 tb_677 tb_678 tb_680 (fun U hU => hU.t 679 tb_679 rfl) rfl rfl 1 0 rfl rfl ⟨by decide, by decide, by decide +kernel, by decide +kernel, by decide, by decide⟩ (Nat.le_of_ble_eq_true rfl) ⟨rfl, rfl, trivial⟩ rfl d_Su_addJoined_18 w))
  · replace w := w.1 cc2
    subst cc2
    exact aw_return rfl d_Su_addJoined_14 w
set_option maxRecDepth 20000 in
theorem r_Su_addJoined_21 {E : zE} {K n : Nat → Nat} {I : Nat → Nat → Int32} {F : Nat → Nat → Option Nat} {J : Nat → Nat → Int64} {cb sb : Nat} {Q : zO → zH → Prop} {a1 : Nat} {a2 : Nat} {x3 : Int32} {a4 : Nat}
    (w : K a1 = 4 ∧ AW E m_Su_addJoined (K, n, I, F, J) cb sb Q 27 [none, none, some (.ref a2), some (.int x3), some (.ref a4), some (.int (I a1 1))] []) :
    AW E m_Su_addJoined (K, n, I, F, J) cb sb Q 21 [none, some (.ref a1), some (.ref a2), some (.int x3), some (.ref a4), none] [] := by
  refine aw_aload_n (x := a1) d_Su_addJoined_21 rfl ?_
  obtain ⟨hk1, w⟩ := w
  refine gf_Su_134 rfl hk1 d_Su_addJoined_22 ?_
  refine aw_istore d_Su_addJoined_25 (by decide) ?_
  exact aw_weak (lv' := [none, none, some (.ref a2), some (.int x3), some (.ref a4), some (.int (I a1 1))]) ⟨rfl, rfl, rfl, rfl, trivial⟩ w
set_option maxRecDepth 20000 in
theorem r_Su_addJoined_27 {E : zE} {K n : Nat → Nat} {I : Nat → Nat → Int32} {F : Nat → Nat → Option Nat} {J : Nat → Nat → Int64} {cb sb : Nat} {Q : zO → zH → Prop} {a2 : Nat} {x3 : Int32} {a4 : Nat} {x5 : Int32}
    (w : ((x3 ≤ x5 → AW E m_Su_addJoined (K, n, I, F, J) cb sb Q 49 [none, none, some (.ref a2), none, some (.ref a4), some (.int (0 : Int32))] []) ∧ (¬ x3 ≤ x5 → K a4 = 4 ∧ AW E m_Row_append (K, n, I, F, J) 0 0 (zAft E m_Su_addJoined cb sb Q 37 [none, none, some (.ref a2), some (.int x3), some (.ref a4), some (.int x5)] []) 0 [some (.ref a4), some (.int (32 : Int32))] []))) :
    AW E m_Su_addJoined (K, n, I, F, J) cb sb Q 27 [none, none, some (.ref a2), some (.int x3), some (.ref a4), some (.int x5)] [] := by
  refine aw_iload (x := x5) d_Su_addJoined_27 rfl ?_
  refine aw_iload_n (x := x3) d_Su_addJoined_29 rfl ?_
  refine aw_icmp_ge (tgt := 46) d_Su_addJoined_30 (by decide) (fun cc1 => ?_) (fun cc1 => ?_)
  · replace w := w.1 cc1
    refine aw_iconst (v := (0 : Int32)) d_Su_addJoined_46 (by decide) ?_
    refine aw_istore d_Su_addJoined_47 (by decide) ?_
    exact aw_weak (lv' := [none, none, some (.ref a2), none, some (.ref a4), some (.int (0 : Int32))]) ⟨rfl, rfl, rfl, trivial⟩ w
  · replace w := w.2 cc1
    refine aw_aload (x := a4) d_Su_addJoined_33 rfl ?_
    refine aw_bipush (v := (32 : Int32)) d_Su_addJoined_35 (by decide) ?_
    obtain ⟨hk2, w⟩ := w
    exact aw_room (cb' := 0 + cb) (sb' := 0 + sb) (by omega) (by omega) (aw_weak (lv' := [none, none, some (.ref a2), some (.int x3), some (.ref a4), some (.int x5)]) ⟨rfl, rfl, rfl, rfl, trivial⟩ (aw_callV (M' := m_Row_append) (lv0 := [some (.ref a4), some (.int (32 : Int32))]) (As := [.int (32 : Int32)]) (rest := []) 3 730 731 733 rfl (by decide) rfl hk2 tb_730 tb_731 tb_733 (fun U hU => hU.t 732 tb_732 rfl) rfl rfl 1 0 rfl rfl ⟨by decide, by decide, by decide +kernel, by decide +kernel, by decide, by decide⟩ (Nat.le_of_ble_eq_true rfl) ⟨rfl, rfl, trivial⟩ rfl d_Su_addJoined_37 w))
set_option maxRecDepth 20000 in
theorem r_Su_addJoined_40 {E : zE} {K n : Nat → Nat} {I : Nat → Nat → Int32} {F : Nat → Nat → Option Nat} {J : Nat → Nat → Int64} {cb sb : Nat} {Q : zO → zH → Prop} {a2 : Nat} {x3 : Int32} {a4 : Nat} {x5 : Int32}
    (w : AW E m_Su_addJoined (K, n, I, F, J) cb sb Q 27 [none, none, some (.ref a2), some (.int x3), some (.ref a4), some (.int (x5 + (1 : Int32)))] []) :
    AW E m_Su_addJoined (K, n, I, F, J) cb sb Q 40 [none, none, some (.ref a2), some (.int x3), some (.ref a4), some (.int x5)] [] := by
  refine aw_iinc (v := (x5 + (1 : Int32))) d_Su_addJoined_40 rfl (by rfl) (by decide) ?_
  refine aw_goto (tgt := 27) d_Su_addJoined_43 (by decide) ?_
  exact aw_weak (lv' := [none, none, some (.ref a2), some (.int x3), some (.ref a4), some (.int (x5 + (1 : Int32)))]) ⟨rfl, rfl, rfl, rfl, trivial⟩ w
set_option maxRecDepth 20000 in
theorem r_Su_addJoined_49 {E : zE} {K n : Nat → Nat} {I : Nat → Nat → Int32} {F : Nat → Nat → Option Nat} {J : Nat → Nat → Int64} {cb sb : Nat} {Q : zO → zH → Prop} {a2 : Nat} {a4 : Nat} {x5 : Int32}
    (w : K a2 = 4 ∧ (((I a2 1) ≤ x5 → Q (.inl none) (K, n, I, F, J)) ∧ (¬ (I a2 1) ≤ x5 → AW E m_Row_octetAt (K, n, I, F, J) 0 0 (zAft E m_Su_addJoined cb sb Q 63 [none, none, some (.ref a2), none, some (.ref a4), some (.int x5)] [.ref a4]) 0 [some (.ref a2), some (.int x5)] []))) :
    AW E m_Su_addJoined (K, n, I, F, J) cb sb Q 49 [none, none, some (.ref a2), none, some (.ref a4), some (.int x5)] [] := by
  refine aw_iload (x := x5) d_Su_addJoined_49 rfl ?_
  refine aw_aload_n (x := a2) d_Su_addJoined_51 rfl ?_
  obtain ⟨hk1, w⟩ := w
  refine gf_Su_134 rfl hk1 d_Su_addJoined_52 ?_
  refine aw_icmp_ge (tgt := 75) d_Su_addJoined_55 (by decide) (fun cc2 => ?_) (fun cc2 => ?_)
  · replace w := w.1 cc2
    exact aw_return rfl d_Su_addJoined_75 w
  · replace w := w.2 cc2
    refine aw_aload (x := a4) d_Su_addJoined_58 rfl ?_
    refine aw_aload_n (x := a2) d_Su_addJoined_60 rfl ?_
    refine aw_iload (x := x5) d_Su_addJoined_61 rfl ?_
    exact aw_room (cb' := 0 + cb) (sb' := 0 + sb) (by omega) (by omega) (aw_weak (lv' := [none, none, some (.ref a2), none, some (.ref a4), some (.int x5)]) ⟨rfl, rfl, rfl, trivial⟩ (aw_callV (M' := m_Row_octetAt) (lv0 := [some (.ref a2), some (.int x5)]) (As := [.int x5]) (rest := [.ref a4]) 3 721 644 646 rfl (by decide) rfl hk1 tb_721 tb_644 tb_646 (fun U hU => hU.t 645 tb_645 rfl) rfl rfl 1 1 rfl rfl ⟨by decide, by decide, by decide +kernel, by decide +kernel, by decide, by decide⟩ (Nat.le_of_ble_eq_true rfl) ⟨rfl, rfl, trivial⟩ rfl d_Su_addJoined_63 w))
set_option maxRecDepth 20000 in
theorem r_Su_addJoined_66 {E : zE} {K n : Nat → Nat} {I : Nat → Nat → Int32} {F : Nat → Nat → Option Nat} {J : Nat → Nat → Int64} {cb sb : Nat} {Q : zO → zH → Prop} {a2 : Nat} {a4 : Nat} {x5 : Int32} {sa0 : Nat} {sx1 : Int32}
    (w : K sa0 = 4 ∧ AW E m_Row_append (K, n, I, F, J) 0 0 (zAft E m_Su_addJoined cb sb Q 66 [none, none, some (.ref a2), none, some (.ref a4), some (.int x5)] []) 0 [some (.ref sa0), some (.int sx1)] []) :
    AW E m_Su_addJoined (K, n, I, F, J) cb sb Q 66 [none, none, some (.ref a2), none, some (.ref a4), some (.int x5)] [.int sx1, .ref sa0] := by
  obtain ⟨hk1, w⟩ := w
  exact aw_room (cb' := 0 + cb) (sb' := 0 + sb) (by omega) (by omega) (aw_weak (lv' := [none, none, some (.ref a2), none, some (.ref a4), some (.int x5)]) ⟨rfl, rfl, rfl, trivial⟩ (aw_callV (M' := m_Row_append) (lv0 := [some (.ref sa0), some (.int sx1)]) (As := [.int sx1]) (rest := []) 3 730 731 733 rfl (by decide) rfl hk1 tb_730 tb_731 tb_733 (fun U hU => hU.t 732 tb_732 rfl) rfl rfl 1 0 rfl rfl ⟨by decide, by decide, by decide +kernel, by decide +kernel, by decide, by decide⟩ (Nat.le_of_ble_eq_true rfl) ⟨rfl, rfl, trivial⟩ rfl d_Su_addJoined_66 w))
set_option maxRecDepth 20000 in
theorem r_Su_addJoined_69 {E : zE} {K n : Nat → Nat} {I : Nat → Nat → Int32} {F : Nat → Nat → Option Nat} {J : Nat → Nat → Int64} {cb sb : Nat} {Q : zO → zH → Prop} {a2 : Nat} {a4 : Nat} {x5 : Int32}
    (w : AW E m_Su_addJoined (K, n, I, F, J) cb sb Q 49 [none, none, some (.ref a2), none, some (.ref a4), some (.int (x5 + (1 : Int32)))] []) :
    AW E m_Su_addJoined (K, n, I, F, J) cb sb Q 69 [none, none, some (.ref a2), none, some (.ref a4), some (.int x5)] [] := by
  refine aw_iinc (v := (x5 + (1 : Int32))) d_Su_addJoined_69 rfl (by rfl) (by decide) ?_
  refine aw_goto (tgt := 49) d_Su_addJoined_72 (by decide) ?_
  exact aw_weak (lv' := [none, none, some (.ref a2), none, some (.ref a4), some (.int (x5 + (1 : Int32)))]) ⟨rfl, rfl, rfl, trivial⟩ w
set_option maxRecDepth 20000 in
theorem r_Su_compareParts_0 {E : zE} {K n : Nat → Nat} {I : Nat → Nat → Int32} {F : Nat → Nat → Option Nat} {J : Nat → Nat → Int64} {cb sb : Nat} {Q : zO → zH → Prop} {a0 : Nat} {a1 : Nat} {a2 : Nat} {a3 : Nat} {x4 : Int32}
    (w : K a0 = 2 ∧ K a2 = 2 ∧ AW E m_Math_max (K, n, I, F, J) 0 0 (zAft E m_Su_compareParts cb sb Q 8 [some (.ref a0), some (.ref a1), some (.ref a2), some (.ref a3), some (.int x4), none, none, none, none, none] []) 0 [some (.int (I a0 2)), some (.int (I a2 2))] []) :
    AW E m_Su_compareParts (K, n, I, F, J) cb sb Q 0 [some (.ref a0), some (.ref a1), some (.ref a2), some (.ref a3), some (.int x4), none, none, none, none, none] [] := by
  refine aw_aload_n (x := a0) d_Su_compareParts_0 rfl ?_
  obtain ⟨hk1, w⟩ := w
  refine gf_Su_243 rfl hk1 d_Su_compareParts_1 ?_
  refine aw_aload_n (x := a2) d_Su_compareParts_4 rfl ?_
  obtain ⟨hk2, w⟩ := w
  refine gf_Su_243 rfl hk2 d_Su_compareParts_5 ?_
  exact aw_room (cb' := 0 + cb) (sb' := 0 + sb) (by omega) (by omega) (aw_weak (lv' := [some (.ref a0), some (.ref a1), some (.ref a2), some (.ref a3), some (.int x4), none, none, none, none, none]) ⟨rfl, rfl, rfl, rfl, rfl, trivial⟩ (aw_callS (M' := m_Math_max) (lv0 := [some (.int (I a0 2)), some (.int (I a2 2))]) (As := [.int (I a0 2), .int (I a2 2)]) (rest := []) 638 476 477 10 tb_638 tb_476 tb_477 tb_10 rfl rfl 2 0 rfl rfl ⟨by decide, by decide, by decide +kernel, by decide +kernel, by decide, by decide⟩ (Nat.le_of_ble_eq_true rfl) ⟨rfl, rfl, trivial⟩ rfl d_Su_compareParts_8 w))
set_option maxRecDepth 20000 in
theorem r_Su_compareParts_11 {E : zE} {K n : Nat → Nat} {I : Nat → Nat → Int32} {F : Nat → Nat → Option Nat} {J : Nat → Nat → Int64} {cb sb : Nat} {Q : zO → zH → Prop} {a0 : Nat} {a1 : Nat} {a2 : Nat} {a3 : Nat} {x4 : Int32} {sx0 : Int32}
    (w : AW E m_Su_compareParts (K, n, I, F, J) cb sb Q 16 [some (.ref a0), some (.ref a1), some (.ref a2), some (.ref a3), some (.int x4), some (.int sx0), some (.int (0 : Int32)), none, none, none] []) :
    AW E m_Su_compareParts (K, n, I, F, J) cb sb Q 11 [some (.ref a0), some (.ref a1), some (.ref a2), some (.ref a3), some (.int x4), none, none, none, none, none] [.int sx0] := by
  refine aw_istore d_Su_compareParts_11 (by decide) ?_
  refine aw_iconst (v := (0 : Int32)) d_Su_compareParts_13 (by decide) ?_
  refine aw_istore d_Su_compareParts_14 (by decide) ?_
  exact aw_weak (lv' := [some (.ref a0), some (.ref a1), some (.ref a2), some (.ref a3), some (.int x4), some (.int sx0), some (.int (0 : Int32)), none, none, none]) ⟨rfl, rfl, rfl, rfl, rfl, rfl, rfl, trivial⟩ w
set_option maxRecDepth 20000 in
theorem r_Su_compareParts_16 {E : zE} {K n : Nat → Nat} {I : Nat → Nat → Int32} {F : Nat → Nat → Option Nat} {J : Nat → Nat → Int64} {cb sb : Nat} {Q : zO → zH → Prop} {a0 : Nat} {a1 : Nat} {a2 : Nat} {a3 : Nat} {x4 : Int32} {x5 : Int32} {x6 : Int32}
    (w : ((x5 ≤ x6 → Q (.inl (some (.int (0 : Int32)))) (K, n, I, F, J)) ∧ (¬ x5 ≤ x6 → K a0 = 2 ∧ AW E m_Part_octetAt (K, n, I, F, J) 0 0 (zAft E m_Su_compareParts cb sb Q 27 [some (.ref a0), some (.ref a1), some (.ref a2), some (.ref a3), some (.int x4), some (.int x5), some (.int x6), none, none, none] []) 0 [some (.ref a0), some (.ref a1), some (.int x6)] []))) :
    AW E m_Su_compareParts (K, n, I, F, J) cb sb Q 16 [some (.ref a0), some (.ref a1), some (.ref a2), some (.ref a3), some (.int x4), some (.int x5), some (.int x6), none, none, none] [] := by
  refine aw_iload (x := x6) d_Su_compareParts_16 rfl ?_
  refine aw_iload (x := x5) d_Su_compareParts_18 rfl ?_
  refine aw_icmp_ge (tgt := 81) d_Su_compareParts_20 (by decide) (fun cc1 => ?_) (fun cc1 => ?_)
  · replace w := w.1 cc1
    refine aw_iconst (v := (0 : Int32)) d_Su_compareParts_81 (by decide) ?_
    exact aw_ireturn .int rfl rfl d_Su_compareParts_82 w
  · replace w := w.2 cc1
    refine aw_aload_n (x := a0) d_Su_compareParts_23 rfl ?_
    refine aw_aload_n (x := a1) d_Su_compareParts_24 rfl ?_
    refine aw_iload (x := x6) d_Su_compareParts_25 rfl ?_
    obtain ⟨hk2, w⟩ := w
    exact aw_room (cb' := 0 + cb) (sb' := 0 + sb) (by omega) (by omega) (aw_weak (lv' := [some (.ref a0), some (.ref a1), some (.ref a2), some (.ref a3), some (.int x4), some (.int x5), some (.int x6), none, none, none]) ⟨rfl, rfl, rfl, rfl, rfl, rfl, rfl, trivial⟩ (aw_callV (M' := m_Part_octetAt) (lv0 := [some (.ref a0), some (.ref a1), some (.int x6)]) (As := [.ref a1, .int x6]) (rest := []) 1 639 640 642 rfl (by decide) rfl hk2 tb_639 tb_640 tb_642 (fun U hU => hU.t 641 tb_641 rfl) rfl rfl 2 0 rfl rfl ⟨by decide, by decide, by decide +kernel, by decide +kernel, by decide, by decide⟩ (Nat.le_of_ble_eq_true rfl) ⟨rfl, rfl, rfl, trivial⟩ rfl d_Su_compareParts_27 w))
set_option maxRecDepth 20000 in
theorem r_Su_compareParts_30 {E : zE} {K n : Nat → Nat} {I : Nat → Nat → Int32} {F : Nat → Nat → Option Nat} {J : Nat → Nat → Int64} {cb sb : Nat} {Q : zO → zH → Prop} {a0 : Nat} {a1 : Nat} {a2 : Nat} {a3 : Nat} {x4 : Int32} {x5 : Int32} {x6 : Int32} {sx0 : Int32}
    (w : K a2 = 2 ∧ AW E m_Part_octetAt (K, n, I, F, J) 0 0 (zAft E m_Su_compareParts cb sb Q 36 [some (.ref a0), some (.ref a1), some (.ref a2), some (.ref a3), some (.int x4), some (.int x5), some (.int x6), some (.int sx0), none, none] []) 0 [some (.ref a2), some (.ref a3), some (.int x6)] []) :
    AW E m_Su_compareParts (K, n, I, F, J) cb sb Q 30 [some (.ref a0), some (.ref a1), some (.ref a2), some (.ref a3), some (.int x4), some (.int x5), some (.int x6), none, none, none] [.int sx0] := by
  refine aw_istore d_Su_compareParts_30 (by decide) ?_
  refine aw_aload_n (x := a2) d_Su_compareParts_32 rfl ?_
  refine aw_aload_n (x := a3) d_Su_compareParts_33 rfl ?_
  refine aw_iload (x := x6) d_Su_compareParts_34 rfl ?_
  obtain ⟨hk1, w⟩ := w
  exact aw_room (cb' := 0 + cb) (sb' := 0 + sb) (by omega) (by omega) (aw_weak (lv' := [some (.ref a0), some (.ref a1), some (.ref a2), some (.ref a3), some (.int x4), some (.int x5), some (.int x6), some (.int sx0), none, none]) ⟨rfl, rfl, rfl, rfl, rfl, rfl, rfl, rfl, trivial⟩ (aw_callV (M' := m_Part_octetAt) (lv0 := [some (.ref a2), some (.ref a3), some (.int x6)]) (As := [.ref a3, .int x6]) (rest := []) 1 639 640 642 rfl (by decide) rfl hk1 tb_639 tb_640 tb_642 (fun U hU => hU.t 641 tb_641 rfl) rfl rfl 2 0 rfl rfl ⟨by decide, by decide, by decide +kernel, by decide +kernel, by decide, by decide⟩ (Nat.le_of_ble_eq_true rfl) ⟨rfl, rfl, rfl, trivial⟩ rfl d_Su_compareParts_36 w))
set_option maxRecDepth 20000 in
theorem r_Su_compareParts_39 {E : zE} {K n : Nat → Nat} {I : Nat → Nat → Int32} {F : Nat → Nat → Option Nat} {J : Nat → Nat → Int64} {cb sb : Nat} {Q : zO → zH → Prop} {a0 : Nat} {a1 : Nat} {a2 : Nat} {a3 : Nat} {x4 : Int32} {x5 : Int32} {x6 : Int32} {x7 : Int32} {sx0 : Int32}
    (w : ((x4 = 0 → (((x7 - sx0) = 0 → AW E m_Su_compareParts (K, n, I, F, J) cb sb Q 16 [some (.ref a0), some (.ref a1), some (.ref a2), some (.ref a3), some (.int x4), some (.int x5), some (.int (x6 + (1 : Int32))), none, none, none] []) ∧ (¬ (x7 - sx0) = 0 → Q (.inl (some (.int (x7 - sx0)))) (K, n, I, F, J)))) ∧ (¬ x4 = 0 → AW E m_Su_digitOf (K, n, I, F, J) 0 0 (zAft E m_Su_compareParts cb sb Q 48 [some (.ref a0), some (.ref a1), some (.ref a2), some (.ref a3), some (.int x4), some (.int x5), some (.int x6), none, some (.int sx0), none] []) 0 [some (.int x7)] []))) :
    AW E m_Su_compareParts (K, n, I, F, J) cb sb Q 39 [some (.ref a0), some (.ref a1), some (.ref a2), some (.ref a3), some (.int x4), some (.int x5), some (.int x6), some (.int x7), none, none] [.int sx0] := by
  refine aw_istore d_Su_compareParts_39 (by decide) ?_
  refine aw_iload (x := x4) d_Su_compareParts_41 rfl ?_
  refine aw_if_eq (tgt := 60) d_Su_compareParts_43 (by decide) (fun cc1 => ?_) (fun cc1 => ?_)
  · replace w := w.1 cc1
    refine aw_iload (x := x7) d_Su_compareParts_60 rfl ?_
    refine aw_iload (x := sx0) d_Su_compareParts_62 rfl ?_
    refine aw_isub d_Su_compareParts_64 ?_
    refine aw_istore d_Su_compareParts_65 (by decide) ?_
    refine aw_iload (x := (x7 - sx0)) d_Su_compareParts_67 rfl ?_
    refine aw_if_eq (tgt := 75) d_Su_compareParts_69 (by decide) (fun cc2 => ?_) (fun cc2 => ?_)
    · replace w := w.1 cc2
      refine aw_iinc (v := (x6 + (1 : Int32))) d_Su_compareParts_75 rfl (by rfl) (by decide) ?_
      refine aw_goto (tgt := 16) d_Su_compareParts_78 (by decide) ?_
      exact aw_weak (lv' := [some (.ref a0), some (.ref a1), some (.ref a2), some (.ref a3), some (.int x4), some (.int x5), some (.int (x6 + (1 : Int32))), none, none, none]) ⟨rfl, rfl, rfl, rfl, rfl, rfl, rfl, trivial⟩ w
    · replace w := w.2 cc2
      refine aw_iload (x := (x7 - sx0)) d_Su_compareParts_72 rfl ?_
      exact aw_ireturn .int rfl rfl d_Su_compareParts_74 w
  · replace w := w.2 cc1
    refine aw_iload (x := x7) d_Su_compareParts_46 rfl ?_
    exact aw_room (cb' := 0 + cb) (sb' := 0 + sb) (by omega) (by omega) (aw_weak (lv' := [some (.ref a0), some (.ref a1), some (.ref a2), some (.ref a3), some (.int x4), some (.int x5), some (.int x6), none, some (.int sx0), none]) ⟨rfl, rfl, rfl, rfl, rfl, rfl, rfl, rfl, trivial⟩ (aw_callS (M' := m_Su_digitOf) (lv0 := [some (.int x7)]) (As := [.int x7]) (rest := []) 647 648 649 1 tb_647 tb_648 tb_649 tb_1 rfl rfl 1 0 rfl rfl ⟨by decide, by decide, by decide +kernel, by decide +kernel, by decide, by decide⟩ (Nat.le_of_ble_eq_true rfl) ⟨rfl, trivial⟩ rfl d_Su_compareParts_48 w))
set_option maxRecDepth 20000 in
theorem r_Su_compareParts_51 {E : zE} {K n : Nat → Nat} {I : Nat → Nat → Int32} {F : Nat → Nat → Option Nat} {J : Nat → Nat → Int64} {cb sb : Nat} {Q : zO → zH → Prop} {a0 : Nat} {a1 : Nat} {a2 : Nat} {a3 : Nat} {x4 : Int32} {x5 : Int32} {x6 : Int32} {x8 : Int32} {sx0 : Int32}
    (w : AW E m_Su_digitOf (K, n, I, F, J) 0 0 (zAft E m_Su_compareParts cb sb Q 53 [some (.ref a0), some (.ref a1), some (.ref a2), some (.ref a3), some (.int x4), some (.int x5), some (.int x6), none, none, none] [.int sx0]) 0 [some (.int x8)] []) :
    AW E m_Su_compareParts (K, n, I, F, J) cb sb Q 51 [some (.ref a0), some (.ref a1), some (.ref a2), some (.ref a3), some (.int x4), some (.int x5), some (.int x6), none, some (.int x8), none] [.int sx0] := by
  refine aw_iload (x := x8) d_Su_compareParts_51 rfl ?_
  exact aw_room (cb' := 0 + cb) (sb' := 0 + sb) (by omega) (by omega) (aw_weak (lv' := [some (.ref a0), some (.ref a1), some (.ref a2), some (.ref a3), some (.int x4), some (.int x5), some (.int x6), none, none, none]) ⟨rfl, rfl, rfl, rfl, rfl, rfl, rfl, trivial⟩ (aw_callS (M' := m_Su_digitOf) (lv0 := [some (.int x8)]) (As := [.int x8]) (rest := [.int sx0]) 647 648 649 1 tb_647 tb_648 tb_649 tb_1 rfl rfl 1 1 rfl rfl ⟨by decide, by decide, by decide +kernel, by decide +kernel, by decide, by decide⟩ (Nat.le_of_ble_eq_true rfl) ⟨rfl, trivial⟩ rfl d_Su_compareParts_53 w))
set_option maxRecDepth 20000 in
theorem r_Su_compareParts_56 {E : zE} {K n : Nat → Nat} {I : Nat → Nat → Int32} {F : Nat → Nat → Option Nat} {J : Nat → Nat → Int64} {cb sb : Nat} {Q : zO → zH → Prop} {a0 : Nat} {a1 : Nat} {a2 : Nat} {a3 : Nat} {x4 : Int32} {x5 : Int32} {x6 : Int32} {sx0 : Int32} {sx1 : Int32}
    (w : (((sx0 - sx1) = 0 → AW E m_Su_compareParts (K, n, I, F, J) cb sb Q 16 [some (.ref a0), some (.ref a1), some (.ref a2), some (.ref a3), some (.int x4), some (.int x5), some (.int (x6 + (1 : Int32))), none, none, none] []) ∧ (¬ (sx0 - sx1) = 0 → Q (.inl (some (.int (sx0 - sx1)))) (K, n, I, F, J)))) :
    AW E m_Su_compareParts (K, n, I, F, J) cb sb Q 56 [some (.ref a0), some (.ref a1), some (.ref a2), some (.ref a3), some (.int x4), some (.int x5), some (.int x6), none, none, none] [.int sx1, .int sx0] := by
  refine aw_isub d_Su_compareParts_56 ?_
  refine aw_goto (tgt := 65) d_Su_compareParts_57 (by decide) ?_
  refine aw_istore d_Su_compareParts_65 (by decide) ?_
  refine aw_iload (x := (sx0 - sx1)) d_Su_compareParts_67 rfl ?_
  refine aw_if_eq (tgt := 75) d_Su_compareParts_69 (by decide) (fun cc1 => ?_) (fun cc1 => ?_)
  · replace w := w.1 cc1
    refine aw_iinc (v := (x6 + (1 : Int32))) d_Su_compareParts_75 rfl (by rfl) (by decide) ?_
    refine aw_goto (tgt := 16) d_Su_compareParts_78 (by decide) ?_
    exact aw_weak (lv' := [some (.ref a0), some (.ref a1), some (.ref a2), some (.ref a3), some (.int x4), some (.int x5), some (.int (x6 + (1 : Int32))), none, none, none]) ⟨rfl, rfl, rfl, rfl, rfl, rfl, rfl, trivial⟩ w
  · replace w := w.2 cc1
    refine aw_iload (x := (sx0 - sx1)) d_Su_compareParts_72 rfl ?_
    exact aw_ireturn .int rfl rfl d_Su_compareParts_74 w
set_option maxRecDepth 20000 in
theorem r_Su_isDigit_0 {E : zE} {K n : Nat → Nat} {I : Nat → Nat → Int32} {F : Nat → Nat → Option Nat} {J : Nat → Nat → Int64} {cb sb : Nat} {Q : zO → zH → Prop} {x0 : Int32}
    (w : ((x0 < (48 : Int32) → Q (.inl (some (.int (0 : Int32)))) (K, n, I, F, J)) ∧ (¬ x0 < (48 : Int32) → (((57 : Int32) < x0 → Q (.inl (some (.int (0 : Int32)))) (K, n, I, F, J)) ∧ (¬ (57 : Int32) < x0 → Q (.inl (some (.int (1 : Int32)))) (K, n, I, F, J)))))) :
    AW E m_Su_isDigit (K, n, I, F, J) cb sb Q 0 [some (.int x0)] [] := by
  refine aw_iload_n (x := x0) d_Su_isDigit_0 rfl ?_
  refine aw_bipush (v := (48 : Int32)) d_Su_isDigit_1 (by decide) ?_
  refine aw_icmp_lt (tgt := 16) d_Su_isDigit_3 (by decide) (fun cc1 => ?_) (fun cc1 => ?_)
  · replace w := w.1 cc1
    refine aw_iconst (v := (0 : Int32)) d_Su_isDigit_16 (by decide) ?_
    exact aw_ireturn .boolean rfl rfl d_Su_isDigit_17 w
  · replace w := w.2 cc1
    refine aw_iload_n (x := x0) d_Su_isDigit_6 rfl ?_
    refine aw_bipush (v := (57 : Int32)) d_Su_isDigit_7 (by decide) ?_
    refine aw_icmp_gt (tgt := 16) d_Su_isDigit_9 (by decide) (fun cc2 => ?_) (fun cc2 => ?_)
    · replace w := w.1 cc2
      refine aw_iconst (v := (0 : Int32)) d_Su_isDigit_16 (by decide) ?_
      exact aw_ireturn .boolean rfl rfl d_Su_isDigit_17 w
    · replace w := w.2 cc2
      refine aw_iconst (v := (1 : Int32)) d_Su_isDigit_12 (by decide) ?_
      refine aw_goto (tgt := 17) d_Su_isDigit_13 (by decide) ?_
      exact aw_ireturn .boolean rfl rfl d_Su_isDigit_17 w
set_option maxRecDepth 20000 in
theorem r_Su_digitOf_0 {E : zE} {K n : Nat → Nat} {I : Nat → Nat → Int32} {F : Nat → Nat → Option Nat} {J : Nat → Nat → Int64} {cb sb : Nat} {Q : zO → zH → Prop} {x0 : Int32}
    (w : AW E m_Su_isDigit (K, n, I, F, J) 0 0 (zAft E m_Su_digitOf cb sb Q 1 [some (.int x0)] []) 0 [some (.int x0)] []) :
    AW E m_Su_digitOf (K, n, I, F, J) cb sb Q 0 [some (.int x0)] [] := by
  refine aw_iload_n (x := x0) d_Su_digitOf_0 rfl ?_
  exact aw_room (cb' := 0 + cb) (sb' := 0 + sb) (by omega) (by omega) (aw_weak (lv' := [some (.int x0)]) ⟨rfl, trivial⟩ (aw_callS (M' := m_Su_isDigit) (lv0 := [some (.int x0)]) (As := [.int x0]) (rest := []) 650 404 405 1 tb_650 tb_404 tb_405 tb_1 rfl rfl 1 0 rfl rfl ⟨by decide, by decide, by decide +kernel, by decide +kernel, by decide, by decide⟩ (Nat.le_of_ble_eq_true rfl) ⟨rfl, trivial⟩ rfl d_Su_digitOf_1 w))
set_option maxRecDepth 20000 in
theorem r_Su_digitOf_4 {E : zE} {K n : Nat → Nat} {I : Nat → Nat → Int32} {F : Nat → Nat → Option Nat} {J : Nat → Nat → Int64} {cb sb : Nat} {Q : zO → zH → Prop} {x0 : Int32} {sx0 : Int32}
    (w : ((sx0 = 0 → Q (.inl (some (.int (0 : Int32)))) (K, n, I, F, J)) ∧ (¬ sx0 = 0 → Q (.inl (some (.int (x0 - (48 : Int32))))) (K, n, I, F, J)))) :
    AW E m_Su_digitOf (K, n, I, F, J) cb sb Q 4 [some (.int x0)] [.int sx0] := by
  refine aw_if_eq (tgt := 14) d_Su_digitOf_4 (by decide) (fun cc1 => ?_) (fun cc1 => ?_)
  · replace w := w.1 cc1
    refine aw_iconst (v := (0 : Int32)) d_Su_digitOf_14 (by decide) ?_
    exact aw_ireturn .int rfl rfl d_Su_digitOf_15 w
  · replace w := w.2 cc1
    refine aw_iload_n (x := x0) d_Su_digitOf_7 rfl ?_
    refine aw_bipush (v := (48 : Int32)) d_Su_digitOf_8 (by decide) ?_
    refine aw_isub d_Su_digitOf_10 ?_
    refine aw_goto (tgt := 15) d_Su_digitOf_11 (by decide) ?_
    exact aw_ireturn .int rfl rfl d_Su_digitOf_15 w
