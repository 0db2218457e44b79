set_option maxRecDepth 20000 in
theorem r_Law_octet_0 {E : zE} {K n : Nat → Nat} {I : Nat → Nat → Int32} {F : Nat → Nat → Option Nat} {J : Nat → Nat → Int64} {cb sb : Nat} {Q : zO → zH → Prop} {a0 : Nat} {x1 : Int32} {x2 : Int32} {x3 : Int32}
    (w : K a0 = 8 ∧ (∃ c1 s1 c2 s2 : Nat, c1 + c2 ≤ cb ∧ s1 + s2 ≤ sb ∧ AW E m_Su_octet (K, n, I, F, J) c1 s1 (zAftH E m_Law_octet c2 s2 Q 4 [none, none, none, none, none] [none, none, none, none, none] [] 10 "java/lang/ArrayIndexOutOfBoundsException") 0 [some (.ref a0), some (.int x1), some (.int x2), some (.int x3), none] [])) :
    AW E m_Law_octet (K, n, I, F, J) cb sb Q 0 [some (.ref a0), some (.int x1), some (.int x2), some (.int x3), none] [] := by
  refine aw_aload_n (x := a0) d_Law_octet_0 rfl ?_
  refine aw_iload_n (x := x1) d_Law_octet_1 rfl ?_
  refine aw_iload_n (x := x2) d_Law_octet_2 rfl ?_
  refine aw_iload_n (x := x3) d_Law_octet_3 rfl ?_
  obtain ⟨hk1, w⟩ := w
  obtain ⟨c1, s1, c2, s2, hq1, hq2, w⟩ := w
  exact aw_room hq1 hq2 (aw_weak (lv' := [none, none, none, none, none]) trivial (aw_callVH (M' := m_Su_octet) (lv0 := [some (.ref a0), some (.int x1), some (.int x2), some (.int x3), none]) (As := [.int x1, .int x2, .int x3]) (rest := []) (lvH := [none, none, none, none, none]) 7 798 799 801 797 804 rfl (by decide) rfl hk1 tb_798 tb_799 tb_801 (fun U hU => hU.t 800 tb_800 rfl) rfl rfl ⟨by decide, by decide⟩ (by decide) tb_797 tb_804 trivial 3 0 rfl rfl ⟨by decide, by decide, by decide +kernel, by decide +kernel, by decide, by decide⟩ (Nat.le_of_ble_eq_true rfl) ⟨rfl, rfl, rfl, rfl, trivial⟩ rfl d_Law_octet_4 w))
set_option maxRecDepth 20000 in
theorem r_Law_octet_7 {E : zE} {K n : Nat → Nat} {I : Nat → Nat → Int32} {F : Nat → Nat → Option Nat} {J : Nat → Nat → Int64} {cb sb : Nat} {Q : zO → zH → Prop}
    (w : Q (.inl (some (.int (0 : Int32)))) (K, n, I, F, J)) :
    AW E m_Law_octet (K, n, I, F, J) cb sb Q 7 [none, none, none, none, none] [] := by
  refine aw_goto (tgt := 14) d_Law_octet_7 (by decide) ?_
  refine aw_iconst (v := (0 : Int32)) d_Law_octet_14 (by decide) ?_
  exact aw_ireturn .int rfl rfl d_Law_octet_15 w
set_option maxRecDepth 20000 in
theorem r_Law_octet_10 {E : zE} {K n : Nat → Nat} {I : Nat → Nat → Int32} {F : Nat → Nat → Option Nat} {J : Nat → Nat → Int64} {cb sb : Nat} {Q : zO → zH → Prop} {sa0 : Nat}
    (w : Q (.inl (some (.int (1 : Int32)))) (K, n, I, F, J)) :
    AW E m_Law_octet (K, n, I, F, J) cb sb Q 10 [none, none, none, none, none] [.ref sa0] := by
  refine aw_astore d_Law_octet_10 (by decide) ?_
  refine aw_iconst (v := (1 : Int32)) d_Law_octet_12 (by decide) ?_
  exact aw_ireturn .int rfl rfl d_Law_octet_13 w
set_option maxRecDepth 20000 in
theorem r_Law_law_0 {E : zE} {K n : Nat → Nat} {I : Nat → Nat → Int32} {F : Nat → Nat → Option Nat} {J : Nat → Nat → Int64} {cb sb : Nat} {Q : zO → zH → Prop} {a0 : Nat}
    (w : (∃ cb9 sb9 : Nat, cb9 + 1 ≤ cb ∧ sb9 + 15 ≤ sb ∧ ∀ q : Nat, K q = 0 → AW E m_Law_law ((va_up K q 8), n, (va_up I q (fun _ => 0)), (va_up F q (fun _ => none)), J) cb9 sb9 Q 3 [some (.ref a0), none, none, none, none] [.ref q])) :
    AW E m_Law_law (K, n, I, F, J) cb sb Q 0 [some (.ref a0), none, none, none, none] [] := by
  obtain ⟨cb9, sb9, hq1, hq2, w⟩ := w
  exact aw_room hq1 hq2 (aw_weak (lv' := [some (.ref a0), none, none, none, none]) ⟨rfl, trivial⟩ (aw_new 7 (T := zt_SortUtility) zy_SortUtility rfl (by decide) zin_SortUtility zyo_SortUtility 29 30 1 tb_29 tb_30 tb_1 (by decide) d_Law_law_0 w))
set_option maxRecDepth 20000 in
theorem r_Law_law_3 {E : zE} {K n : Nat → Nat} {I : Nat → Nat → Int32} {F : Nat → Nat → Option Nat} {J : Nat → Nat → Int64} {cb sb : Nat} {Q : zO → zH → Prop} {a0 : Nat} {sa0 : Nat}
    (w : (∃ c1 s1 c2 s2 : Nat, c1 + c2 ≤ cb ∧ s1 + s2 ≤ sb ∧ AW E m_Su_init (K, n, I, F, J) c1 s1 (zAft E m_Law_law c2 s2 Q 4 [some (.ref a0), none, none, none, none] [.ref sa0]) 0 [some (.ref sa0)] [])) :
    AW E m_Law_law (K, n, I, F, J) cb sb Q 3 [some (.ref a0), none, none, none, none] [.ref sa0] := by
  refine aw_dup d_Law_law_3 rfl ?_
  obtain ⟨c1, s1, c2, s2, hq1, hq2, w⟩ := w
  exact aw_room hq1 hq2 (aw_weak (lv' := [some (.ref a0), none, none, none, none]) ⟨rfl, trivial⟩ (aw_callI (M' := m_Su_init) (lv0 := [some (.ref sa0)]) (As := []) (rest := [.ref sa0]) 31 32 33 tb_31 tb_32 tb_33 rfl rfl rfl rfl 0 1 rfl rfl ⟨by decide, by decide, by decide +kernel, by decide +kernel, by decide, by decide⟩ (Nat.le_of_ble_eq_true rfl) ⟨rfl, trivial⟩ rfl d_Law_law_4 w))
set_option maxRecDepth 20000 in
theorem r_Law_law_7 {E : zE} {K n : Nat → Nat} {I : Nat → Nat → Int32} {F : Nat → Nat → Option Nat} {J : Nat → Nat → Int64} {cb sb : Nat} {Q : zO → zH → Prop} {a0 : Nat} {sa0 : Nat}
    (w : (∃ cb9 sb9 : Nat, cb9 + 1 ≤ cb ∧ sb9 + 42 ≤ sb ∧ ∀ q : Nat, K q = 0 → AW E m_Law_law ((va_up K q 9), n, (va_up I q (fun _ => 0)), (va_up F q (fun _ => none)), J) cb9 sb9 Q 11 [some (.ref a0), some (.ref sa0), none, none, none] [.ref q])) :
    AW E m_Law_law (K, n, I, F, J) cb sb Q 7 [some (.ref a0), none, none, none, none] [.ref sa0] := by
  refine aw_astore_n d_Law_law_7 (by decide) ?_
  obtain ⟨cb9, sb9, hq1, hq2, w⟩ := w
  exact aw_room hq1 hq2 (aw_weak (lv' := [some (.ref a0), some (.ref sa0), none, none, none]) ⟨rfl, rfl, trivial⟩ (aw_new 8 (T := zt_Model) zy_Model rfl (by decide) zin_Model zyo_Model 824 825 8 tb_824 tb_825 tb_8 (by decide) d_Law_law_8 w))
set_option maxRecDepth 20000 in
theorem r_Law_law_11 {E : zE} {K n : Nat → Nat} {I : Nat → Nat → Int32} {F : Nat → Nat → Option Nat} {J : Nat → Nat → Int64} {cb sb : Nat} {Q : zO → zH → Prop} {a0 : Nat} {a1 : Nat} {sa0 : Nat}
    (w : (∃ c1 s1 c2 s2 : Nat, c1 + c2 ≤ cb ∧ s1 + s2 ≤ sb ∧ AW E m_Mo_init (K, n, I, F, J) c1 s1 (zAft E m_Law_law c2 s2 Q 12 [some (.ref a0), some (.ref a1), none, none, none] [.ref sa0]) 0 [some (.ref sa0)] [])) :
    AW E m_Law_law (K, n, I, F, J) cb sb Q 11 [some (.ref a0), some (.ref a1), none, none, none] [.ref sa0] := by
  refine aw_dup d_Law_law_11 rfl ?_
  obtain ⟨c1, s1, c2, s2, hq1, hq2, w⟩ := w
  exact aw_room hq1 hq2 (aw_weak (lv' := [some (.ref a0), some (.ref a1), none, none, none]) ⟨rfl, rfl, trivial⟩ (aw_callI (M' := m_Mo_init) (lv0 := [some (.ref sa0)]) (As := []) (rest := [.ref sa0]) 826 827 828 tb_826 tb_827 tb_828 rfl rfl rfl rfl 0 1 rfl rfl ⟨by decide, by decide, by decide +kernel, by decide +kernel, by decide, by decide⟩ (Nat.le_of_ble_eq_true rfl) ⟨rfl, trivial⟩ rfl d_Law_law_12 w))
set_option maxRecDepth 20000 in
theorem r_Law_law_15 {E : zE} {K n : Nat → Nat} {I : Nat → Nat → Int32} {F : Nat → Nat → Option Nat} {J : Nat → Nat → Int64} {cb sb : Nat} {Q : zO → zH → Prop} {a0 : Nat} {a1 : Nat} {sa0 : Nat}
    (w : AW E m_Law_law (K, n, I, F, J) cb sb Q 18 [some (.ref a0), some (.ref a1), some (.ref sa0), some (.int (0 : Int32)), none] []) :
    AW E m_Law_law (K, n, I, F, J) cb sb Q 15 [some (.ref a0), some (.ref a1), none, none, none] [.ref sa0] := by
  refine aw_astore_n d_Law_law_15 (by decide) ?_
  refine aw_iconst (v := (0 : Int32)) d_Law_law_16 (by decide) ?_
  refine aw_istore_n d_Law_law_17 (by decide) ?_
  exact aw_weak (lv' := [some (.ref a0), some (.ref a1), some (.ref sa0), some (.int (0 : Int32)), none]) ⟨rfl, rfl, rfl, rfl, trivial⟩ w
set_option maxRecDepth 20000 in
theorem r_Law_law_18 {E : zE} {K n : Nat → Nat} {I : Nat → Nat → Int32} {F : Nat → Nat → Option Nat} {J : Nat → Nat → Int64} {cb sb : Nat} {Q : zO → zH → Prop} {a0 : Nat} {a1 : Nat} {a2 : Nat} {x3 : Int32}
    (w : a0 = E.2.1 14 ∧ ((((nI (E.2.1 15)) - (4 : Int32)) < x3 → Q (.inl (some (.int (1 : Int32)))) (K, n, I, F, J)) ∧ (¬ ((nI (E.2.1 15)) - (4 : Int32)) < x3 → a0 = E.2.1 14 ∧ (∃ j4 : Nat, x3 = nI j4 ∧ j4 < E.2.1 15 ∧ j4 < 2147483648 ∧ ((((Int32.ofNat (E.2.1 (1000 + j4))) &&& (15 : Int32)) = 0 → a0 = E.2.1 14 ∧ (∃ j8 : Nat, (x3 + (1 : Int32)) = nI j8 ∧ j8 < E.2.1 15 ∧ j8 < 2147483648 ∧ K a1 = 8 ∧ AW E m_Su_sign (K, n, I, F, J) 0 0 (zAft E m_Law_law cb sb Q 110 [some (.ref a0), some (.ref a1), some (.ref a2), some (.int x3), none] []) 0 [some (.ref a1), some (.int (Int32.ofNat (E.2.1 (1000 + j8))))] [])) ∧ (((Int32.ofNat (E.2.1 (1000 + j4))) &&& (15 : Int32)) = 1 → K a1 = 8 ∧ (∃ c1 s1 c2 s2 : Nat, c1 + c2 ≤ cb ∧ s1 + s2 ≤ sb ∧ AW E m_Su_read (K, n, I, F, J) c1 s1 (zAft E m_Law_law c2 s2 Q 126 [some (.ref a0), some (.ref a1), some (.ref a2), some (.int x3), none] []) 0 [some (.ref a1), none, none] [])) ∧ (((Int32.ofNat (E.2.1 (1000 + j4))) &&& (15 : Int32)) = 2 → a0 = E.2.1 14 ∧ (∃ j13 : Nat, (x3 + (1 : Int32)) = nI j13 ∧ j13 < E.2.1 15 ∧ j13 < 2147483648 ∧ K a1 = 8 ∧ (∃ c1 s1 c2 s2 : Nat, c1 + c2 ≤ cb ∧ s1 + s2 ≤ sb ∧ AW E m_Su_record (K, n, I, F, J) c1 s1 (zAft E m_Law_law c2 s2 Q 144 [some (.ref a0), some (.ref a1), some (.ref a2), some (.int x3), none] []) 0 [some (.ref a1), some (.int (Int32.ofNat (E.2.1 (1000 + j13)))), none, none] []))) ∧ (((Int32.ofNat (E.2.1 (1000 + j4))) &&& (15 : Int32)) = 3 → a0 = E.2.1 14 ∧ (∃ j17 : Nat, (x3 + (1 : Int32)) = nI j17 ∧ j17 < E.2.1 15 ∧ j17 < 2147483648 ∧ a0 = E.2.1 14 ∧ (∃ j20 : Nat, (x3 + (2 : Int32)) = nI j20 ∧ j20 < E.2.1 15 ∧ j20 < 2147483648 ∧ a0 = E.2.1 14 ∧ (∃ j23 : Nat, (x3 + (3 : Int32)) = nI j23 ∧ j23 < E.2.1 15 ∧ j23 < 2147483648 ∧ (∃ c1 s1 c2 s2 : Nat, c1 + c2 ≤ cb ∧ s1 + s2 ≤ sb ∧ AW E m_Law_octet (K, n, I, F, J) c1 s1 (zAft E m_Law_law c2 s2 Q 178 [some (.ref a0), some (.ref a1), some (.ref a2), some (.int x3), none] []) 0 [some (.ref a1), some (.int (Int32.ofNat (E.2.1 (1000 + j17)))), some (.int (Int32.ofNat (E.2.1 (1000 + j20)))), some (.int ((Int32.ofNat (E.2.1 (1000 + j23))).toInt8.toInt32)), none] []))))) ∧ (((Int32.ofNat (E.2.1 (1000 + j4))) &&& (15 : Int32)) = 4 → K a1 = 8 ∧ (∃ c1 s1 c2 s2 : Nat, c1 + c2 ≤ cb ∧ s1 + s2 ≤ sb ∧ AW E m_Su_run (K, n, I, F, J) c1 s1 (zAft E m_Law_law c2 s2 Q 218 [some (.ref a0), some (.ref a1), some (.ref a2), some (.int x3), none] []) 0 [some (.ref a1)] [])) ∧ (((Int32.ofNat (E.2.1 (1000 + j4))) &&& (15 : Int32)) = 5 → a0 = E.2.1 14 ∧ (∃ j27 : Nat, (x3 + (1 : Int32)) = nI j27 ∧ j27 < E.2.1 15 ∧ j27 < 2147483648 ∧ a0 = E.2.1 14 ∧ (∃ j30 : Nat, (x3 + (2 : Int32)) = nI j30 ∧ j30 < E.2.1 15 ∧ j30 < 2147483648 ∧ a0 = E.2.1 14 ∧ (∃ j33 : Nat, (x3 + (3 : Int32)) = nI j33 ∧ j33 < E.2.1 15 ∧ j33 < 2147483648 ∧ K a1 = 8 ∧ AW E m_Su_out (K, n, I, F, J) 0 0 (zAft E m_Law_law cb sb Q 246 [some (.ref a0), some (.ref a1), some (.ref a2), some (.int x3), none] []) 0 [some (.ref a1), some (.int (Int32.ofNat (E.2.1 (1000 + j27)))), some (.int (Int32.ofNat (E.2.1 (1000 + j30)))), some (.int (Int32.ofNat (E.2.1 (1000 + j33)))), none] [])))) ∧ (((Int32.ofNat (E.2.1 (1000 + j4))) &&& (15 : Int32)) = 6 → a0 = E.2.1 14 ∧ (∃ j37 : Nat, (x3 + (1 : Int32)) = nI j37 ∧ j37 < E.2.1 15 ∧ j37 < 2147483648 ∧ a0 = E.2.1 14 ∧ (∃ j40 : Nat, (x3 + (2 : Int32)) = nI j40 ∧ j40 < E.2.1 15 ∧ j40 < 2147483648 ∧ K a1 = 8 ∧ AW E m_Su_sum (K, n, I, F, J) 0 0 (zAft E m_Law_law cb sb Q 284 [some (.ref a0), some (.ref a1), some (.ref a2), some (.int x3), none] []) 0 [some (.ref a1), some (.int (Int32.ofNat (E.2.1 (1000 + j37)))), some (.int (Int32.ofNat (E.2.1 (1000 + j40)))), none] []))) ∧ (((Int32.ofNat (E.2.1 (1000 + j4))) &&& (15 : Int32)) = 7 → a0 = E.2.1 14 ∧ (∃ j44 : Nat, (x3 + (1 : Int32)) = nI j44 ∧ j44 < E.2.1 15 ∧ j44 < 2147483648 ∧ a0 = E.2.1 14 ∧ (∃ j47 : Nat, (x3 + (2 : Int32)) = nI j47 ∧ j47 < E.2.1 15 ∧ j47 < 2147483648 ∧ K a1 = 8 ∧ (∃ c1 s1 c2 s2 : Nat, c1 + c2 ≤ cb ∧ s1 + s2 ≤ sb ∧ AW E m_Su_join (K, n, I, F, J) c1 s1 (zAft E m_Law_law c2 s2 Q 317 [some (.ref a0), some (.ref a1), some (.ref a2), some (.int x3), none] []) 0 [some (.ref a1), some (.int (Int32.ofNat (E.2.1 (1000 + j44)))), some (.int (Int32.ofNat (E.2.1 (1000 + j47)))), none, none, none] [])))) ∧ (((Int32.ofNat (E.2.1 (1000 + j4))) &&& (15 : Int32)) = 8 → a0 = E.2.1 14 ∧ (∃ j51 : Nat, (x3 + (1 : Int32)) = nI j51 ∧ j51 < E.2.1 15 ∧ j51 < 2147483648 ∧ K a1 = 8 ∧ AW E m_Su_left (K, n, I, F, J) 0 0 (zAft E m_Law_law cb sb Q 345 [some (.ref a0), some (.ref a1), some (.ref a2), some (.int x3), none] []) 0 [some (.ref a1), some (.int (Int32.ofNat (E.2.1 (1000 + j51))))] [])) ∧ (((Int32.ofNat (E.2.1 (1000 + j4))) &&& (15 : Int32)) = 9 → K a1 = 8 ∧ AW E m_Su_code (K, n, I, F, J) 0 0 (zAft E m_Law_law cb sb Q 363 [some (.ref a0), some (.ref a1), some (.ref a2), some (.int x3), none] []) 0 [some (.ref a1)] []) ∧ (((Int32.ofNat (E.2.1 (1000 + j4))) &&& (15 : Int32)) = 10 → a0 = E.2.1 14 ∧ (∃ j56 : Nat, (x3 + (1 : Int32)) = nI j56 ∧ j56 < E.2.1 15 ∧ j56 < 2147483648 ∧ a0 = E.2.1 14 ∧ (∃ j59 : Nat, (x3 + (2 : Int32)) = nI j59 ∧ j59 < E.2.1 15 ∧ j59 < 2147483648 ∧ (((Int32.ofNat (E.2.1 (1000 + j59))) = 0 → K a1 = 8 ∧ AW E m_Su_exit (K, n, I, F, J) 0 0 (zAft E m_Law_law cb sb Q 394 [some (.ref a0), some (.ref a1), some (.ref a2), some (.int x3), none] []) 0 [some (.ref a1), some (.int (Int32.ofNat (E.2.1 (1000 + j56)))), some (.int (0 : Int32)), none] []) ∧ (¬ (Int32.ofNat (E.2.1 (1000 + j59))) = 0 → K a1 = 8 ∧ AW E m_Su_exit (K, n, I, F, J) 0 0 (zAft E m_Law_law cb sb Q 394 [some (.ref a0), some (.ref a1), some (.ref a2), some (.int x3), none] []) 0 [some (.ref a1), some (.int (Int32.ofNat (E.2.1 (1000 + j56)))), some (.int (1 : Int32)), none] []))))) ∧ (((Int32.ofNat (E.2.1 (1000 + j4))) &&& (15 : Int32)) = 11 → a0 = E.2.1 14 ∧ (∃ j65 : Nat, (x3 + (1 : Int32)) = nI j65 ∧ j65 < E.2.1 15 ∧ j65 < 2147483648 ∧ a0 = E.2.1 14 ∧ (∃ j68 : Nat, (x3 + (2 : Int32)) = nI j68 ∧ j68 < E.2.1 15 ∧ j68 < 2147483648 ∧ K a1 = 8 ∧ AW E m_Su_total (K, n, I, F, J) 0 0 (zAft E m_Law_law cb sb Q 435 [some (.ref a0), some (.ref a1), some (.ref a2), some (.int x3), none] []) 0 [some (.ref a1), some (.int (Int32.ofNat (E.2.1 (1000 + j65)))), some (.int (Int32.ofNat (E.2.1 (1000 + j68)))), none, none, none] []))) ∧ (((Int32.ofNat (E.2.1 (1000 + j4))) &&& (15 : Int32)) = 12 → a0 = E.2.1 14 ∧ (∃ j72 : Nat, (x3 + (1 : Int32)) = nI j72 ∧ j72 < E.2.1 15 ∧ j72 < 2147483648 ∧ K a1 = 8 ∧ AW E m_Su_plain (K, n, I, F, J) 0 0 (zAft E m_Law_law cb sb Q 463 [some (.ref a0), some (.ref a1), some (.ref a2), some (.int x3), none] []) 0 [some (.ref a1), some (.int (Int32.ofNat (E.2.1 (1000 + j72)))), none, none, none, none] [])) ∧ (((Int32.ofNat (E.2.1 (1000 + j4))) &&& (15 : Int32)) = 13 → a0 = E.2.1 14 ∧ (∃ j76 : Nat, (x3 + (1 : Int32)) = nI j76 ∧ j76 < E.2.1 15 ∧ j76 < 2147483648 ∧ K a1 = 8 ∧ AW E m_Su_count (K, n, I, F, J) 0 0 (zAft E m_Law_law cb sb Q 486 [some (.ref a0), some (.ref a1), some (.ref a2), some (.int x3), none] []) 0 [some (.ref a1), some (.int (Int32.ofNat (E.2.1 (1000 + j76))))] [])) ∧ (¬ ((Int32.ofNat (E.2.1 (1000 + j4))) &&& (15 : Int32)) = 0 → ¬ ((Int32.ofNat (E.2.1 (1000 + j4))) &&& (15 : Int32)) = 1 → ¬ ((Int32.ofNat (E.2.1 (1000 + j4))) &&& (15 : Int32)) = 2 → ¬ ((Int32.ofNat (E.2.1 (1000 + j4))) &&& (15 : Int32)) = 3 → ¬ ((Int32.ofNat (E.2.1 (1000 + j4))) &&& (15 : Int32)) = 4 → ¬ ((Int32.ofNat (E.2.1 (1000 + j4))) &&& (15 : Int32)) = 5 → ¬ ((Int32.ofNat (E.2.1 (1000 + j4))) &&& (15 : Int32)) = 6 → ¬ ((Int32.ofNat (E.2.1 (1000 + j4))) &&& (15 : Int32)) = 7 → ¬ ((Int32.ofNat (E.2.1 (1000 + j4))) &&& (15 : Int32)) = 8 → ¬ ((Int32.ofNat (E.2.1 (1000 + j4))) &&& (15 : Int32)) = 9 → ¬ ((Int32.ofNat (E.2.1 (1000 + j4))) &&& (15 : Int32)) = 10 → ¬ ((Int32.ofNat (E.2.1 (1000 + j4))) &&& (15 : Int32)) = 11 → ¬ ((Int32.ofNat (E.2.1 (1000 + j4))) &&& (15 : Int32)) = 12 → ¬ ((Int32.ofNat (E.2.1 (1000 + j4))) &&& (15 : Int32)) = 13 → AW E m_Law_law (K, n, I, F, J) cb sb Q 18 [some (.ref a0), some (.ref a1), some (.ref a2), some (.int (x3 + (4 : Int32))), none] [])))))) :
    AW E m_Law_law (K, n, I, F, J) cb sb Q 18 [some (.ref a0), some (.ref a1), some (.ref a2), some (.int x3), none] [] := by
  refine aw_iload_n (x := x3) d_Law_law_18 rfl ?_
  refine aw_aload_n (x := a0) d_Law_law_19 rfl ?_
  obtain ⟨hk1, w⟩ := w
  refine aw_slen hk1 d_Law_law_20 ?_
  refine aw_iconst (v := (4 : Int32)) d_Law_law_21 (by decide) ?_
  refine aw_isub d_Law_law_22 ?_
  refine aw_icmp_gt (tgt := 509) d_Law_law_23 (by decide) (fun cc2 => ?_) (fun cc2 => ?_)
  · replace w := w.1 cc2
    refine aw_iconst (v := (1 : Int32)) d_Law_law_509 (by decide) ?_
    exact aw_ireturn .boolean rfl rfl d_Law_law_510 w
  · replace w := w.2 cc2
    refine aw_aload_n (x := a0) d_Law_law_26 rfl ?_
    refine aw_iload_n (x := x3) d_Law_law_27 rfl ?_
    obtain ⟨hk3, w⟩ := w
    obtain ⟨j4, hj4a, hj4b, w⟩ := w
    obtain ⟨hk5, w⟩ := w
    refine aw_sld j4 hk3 hj4a hj4b hk5 d_Law_law_28 ?_
    refine aw_bipush (v := (15 : Int32)) d_Law_law_29 (by decide) ?_
    refine aw_iand d_Law_law_31 ?_
    by_cases cc6_0 : ((Int32.ofNat (E.2.1 (1000 + j4))) &&& (15 : Int32)) = 0
    · replace w := w.1 cc6_0
      refine aw_tableIn (off := 72) (tgt := 104) d_Law_law_32 (by rw [cc6_0]; decide) (by rw [cc6_0]; decide) (by rw [cc6_0]; rfl) (by decide) ?_
      refine aw_aload_n (x := a1) d_Law_law_104 rfl ?_
      refine aw_aload_n (x := a0) d_Law_law_105 rfl ?_
      refine aw_iload_n (x := x3) d_Law_law_106 rfl ?_
      refine aw_iconst (v := (1 : Int32)) d_Law_law_107 (by decide) ?_
      refine aw_iadd d_Law_law_108 ?_
      obtain ⟨hk7, w⟩ := w
      obtain ⟨j8, hj8a, hj8b, w⟩ := w
      obtain ⟨hk9, w⟩ := w
      refine aw_sld j8 hk7 hj8a hj8b hk9 d_Law_law_109 ?_
      obtain ⟨hk10, w⟩ := w
      exact aw_room (cb' := 0 + cb) (sb' := 0 + sb) (by omega) (by omega) (aw_weak (lv' := [some (.ref a0), some (.ref a1), some (.ref a2), some (.int x3), none]) ⟨rfl, rfl, rfl, rfl, trivial⟩ (aw_callV (M' := m_Su_sign) (lv0 := [some (.ref a1), some (.int (Int32.ofNat (E.2.1 (1000 + j8))))]) (As := [.int (Int32.ofNat (E.2.1 (1000 + j8)))]) (rest := []) 7 203 204 206 rfl (by decide) rfl hk10 tb_203 tb_204 tb_206 (fun U hU => hU.t 205 tb_205 rfl) rfl rfl 1 0 rfl rfl ⟨by decide, by decide, by decide +kernel, by decide +kernel, by decide, by decide⟩ (Nat.le_of_ble_eq_true rfl) ⟨rfl, rfl, trivial⟩ rfl d_Law_law_110 w))
    by_cases cc6_1 : ((Int32.ofNat (E.2.1 (1000 + j4))) &&& (15 : Int32)) = 1
    · replace w := w.2.1 cc6_1
      refine aw_tableIn (off := 93) (tgt := 125) d_Law_law_32 (by rw [cc6_1]; decide) (by rw [cc6_1]; decide) (by rw [cc6_1]; rfl) (by decide) ?_
      refine aw_aload_n (x := a1) d_Law_law_125 rfl ?_
      obtain ⟨hk11, w⟩ := w
      obtain ⟨c1, s1, c2, s2, hq1, hq2, w⟩ := w
      exact aw_room hq1 hq2 (aw_weak (lv' := [some (.ref a0), some (.ref a1), some (.ref a2), some (.int x3), none]) ⟨rfl, rfl, rfl, rfl, trivial⟩ (aw_callVW (M' := m_Su_read) (lv0 := [some (.ref a1), none, none]) (As := []) (rest := []) 7 207 208 210 rfl (by decide) rfl hk11 tb_207 tb_208 tb_210 (fun U hU => hU.t 209 tb_209 rfl) rfl 0 0 rfl rfl ⟨by decide, by decide, by decide +kernel, by decide +kernel, by decide, by decide⟩ (Nat.le_of_ble_eq_true rfl) ⟨rfl, trivial⟩ rfl d_Law_law_126 w))
    by_cases cc6_2 : ((Int32.ofNat (E.2.1 (1000 + j4))) &&& (15 : Int32)) = 2
    · replace w := w.2.2.1 cc6_2
      refine aw_tableIn (off := 106) (tgt := 138) d_Law_law_32 (by rw [cc6_2]; decide) (by rw [cc6_2]; decide) (by rw [cc6_2]; rfl) (by decide) ?_
      refine aw_aload_n (x := a1) d_Law_law_138 rfl ?_
      refine aw_aload_n (x := a0) d_Law_law_139 rfl ?_
      refine aw_iload_n (x := x3) d_Law_law_140 rfl ?_
      refine aw_iconst (v := (1 : Int32)) d_Law_law_141 (by decide) ?_
      refine aw_iadd d_Law_law_142 ?_
      obtain ⟨hk12, w⟩ := w
      obtain ⟨j13, hj13a, hj13b, w⟩ := w
      obtain ⟨hk14, w⟩ := w
      refine aw_sld j13 hk12 hj13a hj13b hk14 d_Law_law_143 ?_
      obtain ⟨hk15, w⟩ := w
      obtain ⟨c1, s1, c2, s2, hq1, hq2, w⟩ := w
      exact aw_room hq1 hq2 (aw_weak (lv' := [some (.ref a0), some (.ref a1), some (.ref a2), some (.int x3), none]) ⟨rfl, rfl, rfl, rfl, trivial⟩ (aw_callV (M' := m_Su_record) (lv0 := [some (.ref a1), some (.int (Int32.ofNat (E.2.1 (1000 + j13)))), none, none]) (As := [.int (Int32.ofNat (E.2.1 (1000 + j13)))]) (rest := []) 7 574 575 577 rfl (by decide) rfl hk15 tb_574 tb_575 tb_577 (fun U hU => hU.t 576 tb_576 rfl) rfl rfl 1 0 rfl rfl ⟨by decide, by decide, by decide +kernel, by decide +kernel, by decide, by decide⟩ (Nat.le_of_ble_eq_true rfl) ⟨rfl, rfl, trivial⟩ rfl d_Law_law_144 w))
    by_cases cc6_3 : ((Int32.ofNat (E.2.1 (1000 + j4))) &&& (15 : Int32)) = 3
    · replace w := w.2.2.2.1 cc6_3
      refine aw_tableIn (off := 129) (tgt := 161) d_Law_law_32 (by rw [cc6_3]; decide) (by rw [cc6_3]; decide) (by rw [cc6_3]; rfl) (by decide) ?_
      refine aw_aload_n (x := a1) d_Law_law_161 rfl ?_
      refine aw_aload_n (x := a0) d_Law_law_162 rfl ?_
      refine aw_iload_n (x := x3) d_Law_law_163 rfl ?_
      refine aw_iconst (v := (1 : Int32)) d_Law_law_164 (by decide) ?_
      refine aw_iadd d_Law_law_165 ?_
      obtain ⟨hk16, w⟩ := w
      obtain ⟨j17, hj17a, hj17b, w⟩ := w
      obtain ⟨hk18, w⟩ := w
      refine aw_sld j17 hk16 hj17a hj17b hk18 d_Law_law_166 ?_
      refine aw_aload_n (x := a0) d_Law_law_167 rfl ?_
      refine aw_iload_n (x := x3) d_Law_law_168 rfl ?_
      refine aw_iconst (v := (2 : Int32)) d_Law_law_169 (by decide) ?_
      refine aw_iadd d_Law_law_170 ?_
      obtain ⟨hk19, w⟩ := w
      obtain ⟨j20, hj20a, hj20b, w⟩ := w
      obtain ⟨hk21, w⟩ := w
      refine aw_sld j20 hk19 hj20a hj20b hk21 d_Law_law_171 ?_
      refine aw_aload_n (x := a0) d_Law_law_172 rfl ?_
      refine aw_iload_n (x := x3) d_Law_law_173 rfl ?_
      refine aw_iconst (v := (3 : Int32)) d_Law_law_174 (by decide) ?_
      refine aw_iadd d_Law_law_175 ?_
      obtain ⟨hk22, w⟩ := w
      obtain ⟨j23, hj23a, hj23b, w⟩ := w
      obtain ⟨hk24, w⟩ := w
      refine aw_sld j23 hk22 hj23a hj23b hk24 d_Law_law_176 ?_
      refine aw_i2b (v := (Int32.ofNat (E.2.1 (1000 + j23))).toInt8.toInt32) d_Law_law_177 rfl ?_
      obtain ⟨c1, s1, c2, s2, hq1, hq2, w⟩ := w
      exact aw_room hq1 hq2 (aw_weak (lv' := [some (.ref a0), some (.ref a1), some (.ref a2), some (.int x3), none]) ⟨rfl, rfl, rfl, rfl, trivial⟩ (aw_callSW (M' := m_Law_octet) (lv0 := [some (.ref a1), some (.int (Int32.ofNat (E.2.1 (1000 + j17)))), some (.int (Int32.ofNat (E.2.1 (1000 + j20)))), some (.int ((Int32.ofNat (E.2.1 (1000 + j23))).toInt8.toInt32)), none]) (As := [.ref a1, .int (Int32.ofNat (E.2.1 (1000 + j17))), .int (Int32.ofNat (E.2.1 (1000 + j20))), .int ((Int32.ofNat (E.2.1 (1000 + j23))).toInt8.toInt32)]) (rest := []) 794 795 796 0 tb_794 tb_795 tb_796 tb_0 rfl 4 0 rfl rfl ⟨by decide, by decide, by decide +kernel, by decide +kernel, by decide, by decide⟩ (Nat.le_of_ble_eq_true rfl) ⟨rfl, rfl, rfl, rfl, trivial⟩ rfl d_Law_law_178 w))
    by_cases cc6_4 : ((Int32.ofNat (E.2.1 (1000 + j4))) &&& (15 : Int32)) = 4
    · replace w := w.2.2.2.2.1 cc6_4
      refine aw_tableIn (off := 185) (tgt := 217) d_Law_law_32 (by rw [cc6_4]; decide) (by rw [cc6_4]; decide) (by rw [cc6_4]; rfl) (by decide) ?_
      refine aw_aload_n (x := a1) d_Law_law_217 rfl ?_
      obtain ⟨hk25, w⟩ := w
      obtain ⟨c1, s1, c2, s2, hq1, hq2, w⟩ := w
      exact aw_room hq1 hq2 (aw_weak (lv' := [some (.ref a0), some (.ref a1), some (.ref a2), some (.int x3), none]) ⟨rfl, rfl, rfl, rfl, trivial⟩ (aw_callV (M' := m_Su_run) (lv0 := [some (.ref a1)]) (As := []) (rest := []) 7 601 602 604 rfl (by decide) rfl hk25 tb_601 tb_602 tb_604 (fun U hU => hU.t 603 tb_603 rfl) rfl rfl 0 0 rfl rfl ⟨by decide, by decide, by decide +kernel, by decide +kernel, by decide, by decide⟩ (Nat.le_of_ble_eq_true rfl) ⟨rfl, trivial⟩ rfl d_Law_law_218 w))
    by_cases cc6_5 : ((Int32.ofNat (E.2.1 (1000 + j4))) &&& (15 : Int32)) = 5
    · replace w := w.2.2.2.2.2.1 cc6_5
      refine aw_tableIn (off := 198) (tgt := 230) d_Law_law_32 (by rw [cc6_5]; decide) (by rw [cc6_5]; decide) (by rw [cc6_5]; rfl) (by decide) ?_
      refine aw_aload_n (x := a1) d_Law_law_230 rfl ?_
      refine aw_aload_n (x := a0) d_Law_law_231 rfl ?_
      refine aw_iload_n (x := x3) d_Law_law_232 rfl ?_
      refine aw_iconst (v := (1 : Int32)) d_Law_law_233 (by decide) ?_
      refine aw_iadd d_Law_law_234 ?_
      obtain ⟨hk26, w⟩ := w
      obtain ⟨j27, hj27a, hj27b, w⟩ := w
      obtain ⟨hk28, w⟩ := w
      refine aw_sld j27 hk26 hj27a hj27b hk28 d_Law_law_235 ?_
      refine aw_aload_n (x := a0) d_Law_law_236 rfl ?_
      refine aw_iload_n (x := x3) d_Law_law_237 rfl ?_
      refine aw_iconst (v := (2 : Int32)) d_Law_law_238 (by decide) ?_
      refine aw_iadd d_Law_law_239 ?_
      obtain ⟨hk29, w⟩ := w
      obtain ⟨j30, hj30a, hj30b, w⟩ := w
      obtain ⟨hk31, w⟩ := w
      refine aw_sld j30 hk29 hj30a hj30b hk31 d_Law_law_240 ?_
      refine aw_aload_n (x := a0) d_Law_law_241 rfl ?_
      refine aw_iload_n (x := x3) d_Law_law_242 rfl ?_
      refine aw_iconst (v := (3 : Int32)) d_Law_law_243 (by decide) ?_
      refine aw_iadd d_Law_law_244 ?_
      obtain ⟨hk32, w⟩ := w
      obtain ⟨j33, hj33a, hj33b, w⟩ := w
      obtain ⟨hk34, w⟩ := w
      refine aw_sld j33 hk32 hj33a hj33b hk34 d_Law_law_245 ?_
      obtain ⟨hk35, w⟩ := w
      exact aw_room (cb' := 0 + cb) (sb' := 0 + sb) (by omega) (by omega) (aw_weak (lv' := [some (.ref a0), some (.ref a1), some (.ref a2), some (.int x3), none]) ⟨rfl, rfl, rfl, rfl, trivial⟩ (aw_callV (M' := m_Su_out) (lv0 := [some (.ref a1), some (.int (Int32.ofNat (E.2.1 (1000 + j27)))), some (.int (Int32.ofNat (E.2.1 (1000 + j30)))), some (.int (Int32.ofNat (E.2.1 (1000 + j33)))), none]) (As := [.int (Int32.ofNat (E.2.1 (1000 + j27))), .int (Int32.ofNat (E.2.1 (1000 + j30))), .int (Int32.ofNat (E.2.1 (1000 + j33)))]) (rest := []) 7 735 736 738 rfl (by decide) rfl hk35 tb_735 tb_736 tb_738 (fun U hU => hU.t 737 tb_737 rfl) rfl rfl 3 0 rfl rfl ⟨by decide, by decide, by decide +kernel, by decide +kernel, by decide, by decide⟩ (Nat.le_of_ble_eq_true rfl) ⟨rfl, rfl, rfl, rfl, trivial⟩ rfl d_Law_law_246 w))
    by_cases cc6_6 : ((Int32.ofNat (E.2.1 (1000 + j4))) &&& (15 : Int32)) = 6
    · replace w := w.2.2.2.2.2.2.1 cc6_6
      refine aw_tableIn (off := 241) (tgt := 273) d_Law_law_32 (by rw [cc6_6]; decide) (by rw [cc6_6]; decide) (by rw [cc6_6]; rfl) (by decide) ?_
      refine aw_aload_n (x := a1) d_Law_law_273 rfl ?_
      refine aw_aload_n (x := a0) d_Law_law_274 rfl ?_
      refine aw_iload_n (x := x3) d_Law_law_275 rfl ?_
      refine aw_iconst (v := (1 : Int32)) d_Law_law_276 (by decide) ?_
      refine aw_iadd d_Law_law_277 ?_
      obtain ⟨hk36, w⟩ := w
      obtain ⟨j37, hj37a, hj37b, w⟩ := w
      obtain ⟨hk38, w⟩ := w
      refine aw_sld j37 hk36 hj37a hj37b hk38 d_Law_law_278 ?_
      refine aw_aload_n (x := a0) d_Law_law_279 rfl ?_
      refine aw_iload_n (x := x3) d_Law_law_280 rfl ?_
      refine aw_iconst (v := (2 : Int32)) d_Law_law_281 (by decide) ?_
      refine aw_iadd d_Law_law_282 ?_
      obtain ⟨hk39, w⟩ := w
      obtain ⟨j40, hj40a, hj40b, w⟩ := w
      obtain ⟨hk41, w⟩ := w
      refine aw_sld j40 hk39 hj40a hj40b hk41 d_Law_law_283 ?_
      obtain ⟨hk42, w⟩ := w
      exact aw_room (cb' := 0 + cb) (sb' := 0 + sb) (by omega) (by omega) (aw_weak (lv' := [some (.ref a0), some (.ref a1), some (.ref a2), some (.int x3), none]) ⟨rfl, rfl, rfl, rfl, trivial⟩ (aw_callV (M' := m_Su_sum) (lv0 := [some (.ref a1), some (.int (Int32.ofNat (E.2.1 (1000 + j37)))), some (.int (Int32.ofNat (E.2.1 (1000 + j40)))), none]) (As := [.int (Int32.ofNat (E.2.1 (1000 + j37))), .int (Int32.ofNat (E.2.1 (1000 + j40)))]) (rest := []) 7 747 748 750 rfl (by decide) rfl hk42 tb_747 tb_748 tb_750 (fun U hU => hU.t 749 tb_749 rfl) rfl rfl 2 0 rfl rfl ⟨by decide, by decide, by decide +kernel, by decide +kernel, by decide, by decide⟩ (Nat.le_of_ble_eq_true rfl) ⟨rfl, rfl, rfl, trivial⟩ rfl d_Law_law_284 w))
    by_cases cc6_7 : ((Int32.ofNat (E.2.1 (1000 + j4))) &&& (15 : Int32)) = 7
    · replace w := w.2.2.2.2.2.2.2.1 cc6_7
      refine aw_tableIn (off := 274) (tgt := 306) d_Law_law_32 (by rw [cc6_7]; decide) (by rw [cc6_7]; decide) (by rw [cc6_7]; rfl) (by decide) ?_
      refine aw_aload_n (x := a1) d_Law_law_306 rfl ?_
      refine aw_aload_n (x := a0) d_Law_law_307 rfl ?_
      refine aw_iload_n (x := x3) d_Law_law_308 rfl ?_
      refine aw_iconst (v := (1 : Int32)) d_Law_law_309 (by decide) ?_
      refine aw_iadd d_Law_law_310 ?_
      obtain ⟨hk43, w⟩ := w
      obtain ⟨j44, hj44a, hj44b, w⟩ := w
      obtain ⟨hk45, w⟩ := w
      refine aw_sld j44 hk43 hj44a hj44b hk45 d_Law_law_311 ?_
      refine aw_aload_n (x := a0) d_Law_law_312 rfl ?_
      refine aw_iload_n (x := x3) d_Law_law_313 rfl ?_
      refine aw_iconst (v := (2 : Int32)) d_Law_law_314 (by decide) ?_
      refine aw_iadd d_Law_law_315 ?_
      obtain ⟨hk46, w⟩ := w
      obtain ⟨j47, hj47a, hj47b, w⟩ := w
      obtain ⟨hk48, w⟩ := w
      refine aw_sld j47 hk46 hj47a hj47b hk48 d_Law_law_316 ?_
      obtain ⟨hk49, w⟩ := w
      obtain ⟨c1, s1, c2, s2, hq1, hq2, w⟩ := w
      exact aw_room hq1 hq2 (aw_weak (lv' := [some (.ref a0), some (.ref a1), some (.ref a2), some (.int x3), none]) ⟨rfl, rfl, rfl, rfl, trivial⟩ (aw_callV (M' := m_Su_join) (lv0 := [some (.ref a1), some (.int (Int32.ofNat (E.2.1 (1000 + j44)))), some (.int (Int32.ofNat (E.2.1 (1000 + j47)))), none, none, none]) (As := [.int (Int32.ofNat (E.2.1 (1000 + j44))), .int (Int32.ofNat (E.2.1 (1000 + j47)))]) (rest := []) 7 751 752 754 rfl (by decide) rfl hk49 tb_751 tb_752 tb_754 (fun U hU => hU.t 753 tb_753 rfl) rfl rfl 2 0 rfl rfl ⟨by decide, by decide, by decide +kernel, by decide +kernel, by decide, by decide⟩ (Nat.le_of_ble_eq_true rfl) ⟨rfl, rfl, rfl, trivial⟩ rfl d_Law_law_317 w))
    by_cases cc6_8 : ((Int32.ofNat (E.2.1 (1000 + j4))) &&& (15 : Int32)) = 8
    · replace w := w.2.2.2.2.2.2.2.2.1 cc6_8
      refine aw_tableIn (off := 307) (tgt := 339) d_Law_law_32 (by rw [cc6_8]; decide) (by rw [cc6_8]; decide) (by rw [cc6_8]; rfl) (by decide) ?_
      refine aw_aload_n (x := a1) d_Law_law_339 rfl ?_
      refine aw_aload_n (x := a0) d_Law_law_340 rfl ?_
      refine aw_iload_n (x := x3) d_Law_law_341 rfl ?_
      refine aw_iconst (v := (1 : Int32)) d_Law_law_342 (by decide) ?_
      refine aw_iadd d_Law_law_343 ?_
      obtain ⟨hk50, w⟩ := w
      obtain ⟨j51, hj51a, hj51b, w⟩ := w
      obtain ⟨hk52, w⟩ := w
      refine aw_sld j51 hk50 hj51a hj51b hk52 d_Law_law_344 ?_
      obtain ⟨hk53, w⟩ := w
      exact aw_room (cb' := 0 + cb) (sb' := 0 + sb) (by omega) (by omega) (aw_weak (lv' := [some (.ref a0), some (.ref a1), some (.ref a2), some (.int x3), none]) ⟨rfl, rfl, rfl, rfl, trivial⟩ (aw_callV (M' := m_Su_left) (lv0 := [some (.ref a1), some (.int (Int32.ofNat (E.2.1 (1000 + j51))))]) (As := [.int (Int32.ofNat (E.2.1 (1000 + j51)))]) (rest := []) 7 770 771 773 rfl (by decide) rfl hk53 tb_770 tb_771 tb_773 (fun U hU => hU.t 772 tb_772 rfl) rfl rfl 1 0 rfl rfl ⟨by decide, by decide, by decide +kernel, by decide +kernel, by decide, by decide⟩ (Nat.le_of_ble_eq_true rfl) ⟨rfl, rfl, trivial⟩ rfl d_Law_law_345 w))
    by_cases cc6_9 : ((Int32.ofNat (E.2.1 (1000 + j4))) &&& (15 : Int32)) = 9
    · replace w := w.2.2.2.2.2.2.2.2.2.1 cc6_9
      refine aw_tableIn (off := 330) (tgt := 362) d_Law_law_32 (by rw [cc6_9]; decide) (by rw [cc6_9]; decide) (by rw [cc6_9]; rfl) (by decide) ?_
      refine aw_aload_n (x := a1) d_Law_law_362 rfl ?_
      obtain ⟨hk54, w⟩ := w
      exact aw_room (cb' := 0 + cb) (sb' := 0 + sb) (by omega) (by omega) (aw_weak (lv' := [some (.ref a0), some (.ref a1), some (.ref a2), some (.int x3), none]) ⟨rfl, rfl, rfl, rfl, trivial⟩ (aw_callV (M' := m_Su_code) (lv0 := [some (.ref a1)]) (As := []) (rest := []) 7 774 775 777 rfl (by decide) rfl hk54 tb_774 tb_775 tb_777 (fun U hU => hU.t 776 tb_776 rfl) rfl rfl 0 0 rfl rfl ⟨by decide, by decide, by decide +kernel, by decide +kernel, by decide, by decide⟩ (Nat.le_of_ble_eq_true rfl) ⟨rfl, trivial⟩ rfl d_Law_law_363 w))
    by_cases cc6_10 : ((Int32.ofNat (E.2.1 (1000 + j4))) &&& (15 : Int32)) = 10
    · replace w := w.2.2.2.2.2.2.2.2.2.2.1 cc6_10
      refine aw_tableIn (off := 343) (tgt := 375) d_Law_law_32 (by rw [cc6_10]; decide) (by rw [cc6_10]; decide) (by rw [cc6_10]; rfl) (by decide) ?_
      refine aw_aload_n (x := a1) d_Law_law_375 rfl ?_
      refine aw_aload_n (x := a0) d_Law_law_376 rfl ?_
      refine aw_iload_n (x := x3) d_Law_law_377 rfl ?_
      refine aw_iconst (v := (1 : Int32)) d_Law_law_378 (by decide) ?_
      refine aw_iadd d_Law_law_379 ?_
      obtain ⟨hk55, w⟩ := w
      obtain ⟨j56, hj56a, hj56b, w⟩ := w
      obtain ⟨hk57, w⟩ := w
      refine aw_sld j56 hk55 hj56a hj56b hk57 d_Law_law_380 ?_
      refine aw_aload_n (x := a0) d_Law_law_381 rfl ?_
      refine aw_iload_n (x := x3) d_Law_law_382 rfl ?_
      refine aw_iconst (v := (2 : Int32)) d_Law_law_383 (by decide) ?_
      refine aw_iadd d_Law_law_384 ?_
      obtain ⟨hk58, w⟩ := w
      obtain ⟨j59, hj59a, hj59b, w⟩ := w
      obtain ⟨hk60, w⟩ := w
      refine aw_sld j59 hk58 hj59a hj59b hk60 d_Law_law_385 ?_
      refine aw_if_eq (tgt := 393) d_Law_law_386 (by decide) (fun cc61 => ?_) (fun cc61 => ?_)
      · replace w := w.1 cc61
        refine aw_iconst (v := (0 : Int32)) d_Law_law_393 (by decide) ?_
        obtain ⟨hk62, w⟩ := w
        exact aw_room (cb' := 0 + cb) (sb' := 0 + sb) (by omega) (by omega) (aw_weak (lv' := [some (.ref a0), some (.ref a1), some (.ref a2), some (.int x3), none]) ⟨rfl, rfl, rfl, rfl, trivial⟩ (aw_callV (M' := m_Su_exit) (lv0 := [some (.ref a1), some (.int (Int32.ofNat (E.2.1 (1000 + j56)))), some (.int (0 : Int32)), none]) (As := [.int (Int32.ofNat (E.2.1 (1000 + j56))), .int (0 : Int32)]) (rest := []) 7 778 779 781 rfl (by decide) rfl hk62 tb_778 tb_779 tb_781 (fun U hU => hU.t 780 tb_780 rfl) rfl rfl 2 0 rfl rfl ⟨by decide, by decide, by decide +kernel, by decide +kernel, by decide, by decide⟩ (Nat.le_of_ble_eq_true rfl) ⟨rfl, rfl, rfl, trivial⟩ rfl d_Law_law_394 w))
      · replace w := w.2 cc61
        refine aw_iconst (v := (1 : Int32)) d_Law_law_389 (by decide) ?_
        refine aw_goto (tgt := 394) d_Law_law_390 (by decide) ?_
        obtain ⟨hk63, w⟩ := w
        exact aw_room (cb' := 0 + cb) (sb' := 0 + sb) (by omega) (by omega) (aw_weak (lv' := [some (.ref a0), some (.ref a1), some (.ref a2), some (.int x3), none]) ⟨rfl, rfl, rfl, rfl, trivial⟩ (aw_callV (M' := m_Su_exit) (lv0 := [some (.ref a1), some (.int (Int32.ofNat (E.2.1 (1000 + j56)))), some (.int (1 : Int32)), none]) (As := [.int (Int32.ofNat (E.2.1 (1000 + j56))), .int (1 : Int32)]) (rest := []) 7 778 779 781 rfl (by decide) rfl hk63 tb_778 tb_779 tb_781 (fun U hU => hU.t 780 tb_780 rfl) rfl rfl 2 0 rfl rfl ⟨by decide, by decide, by decide +kernel, by decide +kernel, by decide, by decide⟩ (Nat.le_of_ble_eq_true rfl) ⟨rfl, rfl, rfl, trivial⟩ rfl d_Law_law_394 w))
    by_cases cc6_11 : ((Int32.ofNat (E.2.1 (1000 + j4))) &&& (15 : Int32)) = 11
    · replace w := w.2.2.2.2.2.2.2.2.2.2.2.1 cc6_11
      refine aw_tableIn (off := 392) (tgt := 424) d_Law_law_32 (by rw [cc6_11]; decide) (by rw [cc6_11]; decide) (by rw [cc6_11]; rfl) (by decide) ?_
      refine aw_aload_n (x := a1) d_Law_law_424 rfl ?_
      refine aw_aload_n (x := a0) d_Law_law_425 rfl ?_
      refine aw_iload_n (x := x3) d_Law_law_426 rfl ?_
      refine aw_iconst (v := (1 : Int32)) d_Law_law_427 (by decide) ?_
      refine aw_iadd d_Law_law_428 ?_
      obtain ⟨hk64, w⟩ := w
      obtain ⟨j65, hj65a, hj65b, w⟩ := w
      obtain ⟨hk66, w⟩ := w
      refine aw_sld j65 hk64 hj65a hj65b hk66 d_Law_law_429 ?_
      refine aw_aload_n (x := a0) d_Law_law_430 rfl ?_
      refine aw_iload_n (x := x3) d_Law_law_431 rfl ?_
      refine aw_iconst (v := (2 : Int32)) d_Law_law_432 (by decide) ?_
      refine aw_iadd d_Law_law_433 ?_
      obtain ⟨hk67, w⟩ := w
      obtain ⟨j68, hj68a, hj68b, w⟩ := w
      obtain ⟨hk69, w⟩ := w
      refine aw_sld j68 hk67 hj68a hj68b hk69 d_Law_law_434 ?_
      obtain ⟨hk70, w⟩ := w
      exact aw_room (cb' := 0 + cb) (sb' := 0 + sb) (by omega) (by omega) (aw_weak (lv' := [some (.ref a0), some (.ref a1), some (.ref a2), some (.int x3), none]) ⟨rfl, rfl, rfl, rfl, trivial⟩ (aw_callV (M' := m_Su_total) (lv0 := [some (.ref a1), some (.int (Int32.ofNat (E.2.1 (1000 + j65)))), some (.int (Int32.ofNat (E.2.1 (1000 + j68)))), none, none, none]) (As := [.int (Int32.ofNat (E.2.1 (1000 + j65))), .int (Int32.ofNat (E.2.1 (1000 + j68)))]) (rest := []) 7 782 783 785 rfl (by decide) rfl hk70 tb_782 tb_783 tb_785 (fun U hU => hU.t 784 tb_784 rfl) rfl rfl 2 0 rfl rfl ⟨by decide, by decide, by decide +kernel, by decide +kernel, by decide, by decide⟩ (Nat.le_of_ble_eq_true rfl) ⟨rfl, rfl, rfl, trivial⟩ rfl d_Law_law_435 w))
    by_cases cc6_12 : ((Int32.ofNat (E.2.1 (1000 + j4))) &&& (15 : Int32)) = 12
    · replace w := w.2.2.2.2.2.2.2.2.2.2.2.2.1 cc6_12
      refine aw_tableIn (off := 425) (tgt := 457) d_Law_law_32 (by rw [cc6_12]; decide) (by rw [cc6_12]; decide) (by rw [cc6_12]; rfl) (by decide) ?_
      refine aw_aload_n (x := a1) d_Law_law_457 rfl ?_
      refine aw_aload_n (x := a0) d_Law_law_458 rfl ?_
      refine aw_iload_n (x := x3) d_Law_law_459 rfl ?_
      refine aw_iconst (v := (1 : Int32)) d_Law_law_460 (by decide) ?_
      refine aw_iadd d_Law_law_461 ?_
      obtain ⟨hk71, w⟩ := w
      obtain ⟨j72, hj72a, hj72b, w⟩ := w
      obtain ⟨hk73, w⟩ := w
      refine aw_sld j72 hk71 hj72a hj72b hk73 d_Law_law_462 ?_
      obtain ⟨hk74, w⟩ := w
      exact aw_room (cb' := 0 + cb) (sb' := 0 + sb) (by omega) (by omega) (aw_weak (lv' := [some (.ref a0), some (.ref a1), some (.ref a2), some (.int x3), none]) ⟨rfl, rfl, rfl, rfl, trivial⟩ (aw_callV (M' := m_Su_plain) (lv0 := [some (.ref a1), some (.int (Int32.ofNat (E.2.1 (1000 + j72)))), none, none, none, none]) (As := [.int (Int32.ofNat (E.2.1 (1000 + j72)))]) (rest := []) 7 786 787 789 rfl (by decide) rfl hk74 tb_786 tb_787 tb_789 (fun U hU => hU.t 788 tb_788 rfl) rfl rfl 1 0 rfl rfl ⟨by decide, by decide, by decide +kernel, by decide +kernel, by decide, by decide⟩ (Nat.le_of_ble_eq_true rfl) ⟨rfl, rfl, trivial⟩ rfl d_Law_law_463 w))
    by_cases cc6_13 : ((Int32.ofNat (E.2.1 (1000 + j4))) &&& (15 : Int32)) = 13
    · replace w := w.2.2.2.2.2.2.2.2.2.2.2.2.2.1 cc6_13
      refine aw_tableIn (off := 448) (tgt := 480) d_Law_law_32 (by rw [cc6_13]; decide) (by rw [cc6_13]; decide) (by rw [cc6_13]; rfl) (by decide) ?_
      refine aw_aload_n (x := a1) d_Law_law_480 rfl ?_
      refine aw_aload_n (x := a0) d_Law_law_481 rfl ?_
      refine aw_iload_n (x := x3) d_Law_law_482 rfl ?_
      refine aw_iconst (v := (1 : Int32)) d_Law_law_483 (by decide) ?_
      refine aw_iadd d_Law_law_484 ?_
      obtain ⟨hk75, w⟩ := w
      obtain ⟨j76, hj76a, hj76b, w⟩ := w
      obtain ⟨hk77, w⟩ := w
      refine aw_sld j76 hk75 hj76a hj76b hk77 d_Law_law_485 ?_
      obtain ⟨hk78, w⟩ := w
      exact aw_room (cb' := 0 + cb) (sb' := 0 + sb) (by omega) (by omega) (aw_weak (lv' := [some (.ref a0), some (.ref a1), some (.ref a2), some (.int x3), none]) ⟨rfl, rfl, rfl, rfl, trivial⟩ (aw_callV (M' := m_Su_count) (lv0 := [some (.ref a1), some (.int (Int32.ofNat (E.2.1 (1000 + j76))))]) (As := [.int (Int32.ofNat (E.2.1 (1000 + j76)))]) (rest := []) 7 790 791 793 rfl (by decide) rfl hk78 tb_790 tb_791 tb_793 (fun U hU => hU.t 792 tb_792 rfl) rfl rfl 1 0 rfl rfl ⟨by decide, by decide, by decide +kernel, by decide +kernel, by decide, by decide⟩ (Nat.le_of_ble_eq_true rfl) ⟨rfl, rfl, trivial⟩ rfl d_Law_law_486 w))
    replace w := w.2.2.2.2.2.2.2.2.2.2.2.2.2.2 cc6_0 cc6_1 cc6_2 cc6_3 cc6_4 cc6_5 cc6_6 cc6_7 cc6_8 cc6_9 cc6_10 cc6_11 cc6_12 cc6_13
    have cc6_0_t : ¬ ((Int32.ofNat (E.2.1 (1000 + j4))) &&& (15 : Int32)).toInt = 0 := lv_neT cc6_0 rfl
    have cc6_1_t : ¬ ((Int32.ofNat (E.2.1 (1000 + j4))) &&& (15 : Int32)).toInt = 1 := lv_neT cc6_1 rfl
    have cc6_2_t : ¬ ((Int32.ofNat (E.2.1 (1000 + j4))) &&& (15 : Int32)).toInt = 2 := lv_neT cc6_2 rfl
    have cc6_3_t : ¬ ((Int32.ofNat (E.2.1 (1000 + j4))) &&& (15 : Int32)).toInt = 3 := lv_neT cc6_3 rfl
    have cc6_4_t : ¬ ((Int32.ofNat (E.2.1 (1000 + j4))) &&& (15 : Int32)).toInt = 4 := lv_neT cc6_4 rfl
    have cc6_5_t : ¬ ((Int32.ofNat (E.2.1 (1000 + j4))) &&& (15 : Int32)).toInt = 5 := lv_neT cc6_5 rfl
    have cc6_6_t : ¬ ((Int32.ofNat (E.2.1 (1000 + j4))) &&& (15 : Int32)).toInt = 6 := lv_neT cc6_6 rfl
    have cc6_7_t : ¬ ((Int32.ofNat (E.2.1 (1000 + j4))) &&& (15 : Int32)).toInt = 7 := lv_neT cc6_7 rfl
    have cc6_8_t : ¬ ((Int32.ofNat (E.2.1 (1000 + j4))) &&& (15 : Int32)).toInt = 8 := lv_neT cc6_8 rfl
    have cc6_9_t : ¬ ((Int32.ofNat (E.2.1 (1000 + j4))) &&& (15 : Int32)).toInt = 9 := lv_neT cc6_9 rfl
    have cc6_10_t : ¬ ((Int32.ofNat (E.2.1 (1000 + j4))) &&& (15 : Int32)).toInt = 10 := lv_neT cc6_10 rfl
    have cc6_11_t : ¬ ((Int32.ofNat (E.2.1 (1000 + j4))) &&& (15 : Int32)).toInt = 11 := lv_neT cc6_11 rfl
    have cc6_12_t : ¬ ((Int32.ofNat (E.2.1 (1000 + j4))) &&& (15 : Int32)).toInt = 12 := lv_neT cc6_12 rfl
    have cc6_13_t : ¬ ((Int32.ofNat (E.2.1 (1000 + j4))) &&& (15 : Int32)).toInt = 13 := lv_neT cc6_13 rfl
    refine aw_tableOut (tgt := 503) d_Law_law_32 (by omega) (by decide) ?_
    refine aw_iinc (v := (x3 + (4 : Int32))) d_Law_law_503 rfl (by rfl) (by decide) ?_
    refine aw_goto (tgt := 18) d_Law_law_506 (by decide) ?_
    exact aw_weak (lv' := [some (.ref a0), some (.ref a1), some (.ref a2), some (.int (x3 + (4 : Int32))), none]) ⟨rfl, rfl, rfl, rfl, trivial⟩ w
set_option maxRecDepth 20000 in
theorem r_Law_law_113 {E : zE} {K n : Nat → Nat} {I : Nat → Nat → Int32} {F : Nat → Nat → Option Nat} {J : Nat → Nat → Int64} {cb sb : Nat} {Q : zO → zH → Prop} {a0 : Nat} {a1 : Nat} {a2 : Nat} {x3 : Int32}
    (w : a0 = E.2.1 14 ∧ (∃ j2 : Nat, (x3 + (1 : Int32)) = nI j2 ∧ j2 < E.2.1 15 ∧ j2 < 2147483648 ∧ K a2 = 9 ∧ AW E m_Mo_sign1 (K, n, I, F, J) 0 0 (zAft E m_Law_law cb sb Q 119 [some (.ref a0), some (.ref a1), some (.ref a2), some (.int x3), none] []) 0 [some (.ref a2), some (.int (Int32.ofNat (E.2.1 (1000 + j2))))] [])) :
    AW E m_Law_law (K, n, I, F, J) cb sb Q 113 [some (.ref a0), some (.ref a1), some (.ref a2), some (.int x3), none] [] := by
  refine aw_aload_n (x := a2) d_Law_law_113 rfl ?_
  refine aw_aload_n (x := a0) d_Law_law_114 rfl ?_
  refine aw_iload_n (x := x3) d_Law_law_115 rfl ?_
  refine aw_iconst (v := (1 : Int32)) d_Law_law_116 (by decide) ?_
  refine aw_iadd d_Law_law_117 ?_
  obtain ⟨hk1, w⟩ := w
  obtain ⟨j2, hj2a, hj2b, w⟩ := w
  obtain ⟨hk3, w⟩ := w
  refine aw_sld j2 hk1 hj2a hj2b hk3 d_Law_law_118 ?_
  obtain ⟨hk4, w⟩ := w
  exact aw_room (cb' := 0 + cb) (sb' := 0 + sb) (by omega) (by omega) (aw_weak (lv' := [some (.ref a0), some (.ref a1), some (.ref a2), some (.int x3), none]) ⟨rfl, rfl, rfl, rfl, trivial⟩ (aw_callV (M' := m_Mo_sign1) (lv0 := [some (.ref a2), some (.int (Int32.ofNat (E.2.1 (1000 + j2))))]) (As := [.int (Int32.ofNat (E.2.1 (1000 + j2)))]) (rest := []) 8 962 963 965 rfl (by decide) rfl hk4 tb_962 tb_963 tb_965 (fun U hU => hU.t 964 tb_964 rfl) rfl rfl 1 0 rfl rfl ⟨by decide, by decide, by decide +kernel, by decide +kernel, by decide, by decide⟩ (Nat.le_of_ble_eq_true rfl) ⟨rfl, rfl, trivial⟩ rfl d_Law_law_119 w))
set_option maxRecDepth 20000 in
theorem r_Law_law_122 {E : zE} {K n : Nat → Nat} {I : Nat → Nat → Int32} {F : Nat → Nat → Option Nat} {J : Nat → Nat → Int64} {cb sb : Nat} {Q : zO → zH → Prop} {a0 : Nat} {a1 : Nat} {a2 : Nat} {x3 : Int32}
    (w : AW E m_Law_law (K, n, I, F, J) cb sb Q 18 [some (.ref a0), some (.ref a1), some (.ref a2), some (.int (x3 + (4 : Int32))), none] []) :
    AW E m_Law_law (K, n, I, F, J) cb sb Q 122 [some (.ref a0), some (.ref a1), some (.ref a2), some (.int x3), none] [] := by
  refine aw_goto (tgt := 503) d_Law_law_122 (by decide) ?_
  refine aw_iinc (v := (x3 + (4 : Int32))) d_Law_law_503 rfl (by rfl) (by decide) ?_
  refine aw_goto (tgt := 18) d_Law_law_506 (by decide) ?_
  exact aw_weak (lv' := [some (.ref a0), some (.ref a1), some (.ref a2), some (.int (x3 + (4 : Int32))), none]) ⟨rfl, rfl, rfl, rfl, trivial⟩ w
set_option maxRecDepth 20000 in
theorem r_Law_law_129 {E : zE} {K n : Nat → Nat} {I : Nat → Nat → Int32} {F : Nat → Nat → Option Nat} {J : Nat → Nat → Int64} {cb sb : Nat} {Q : zO → zH → Prop} {a0 : Nat} {a1 : Nat} {a2 : Nat} {x3 : Int32} {sx0 : Int32}
    (w : K a2 = 9 ∧ AW E m_Mo_read (K, n, I, F, J) 0 0 (zAft E m_Law_law cb sb Q 130 [some (.ref a0), some (.ref a1), some (.ref a2), some (.int x3), none] [.int sx0]) 0 [some (.ref a2), none, none] []) :
    AW E m_Law_law (K, n, I, F, J) cb sb Q 129 [some (.ref a0), some (.ref a1), some (.ref a2), some (.int x3), none] [.int sx0] := by
  refine aw_aload_n (x := a2) d_Law_law_129 rfl ?_
  obtain ⟨hk1, w⟩ := w
  exact aw_room (cb' := 0 + cb) (sb' := 0 + sb) (by omega) (by omega) (aw_weak (lv' := [some (.ref a0), some (.ref a1), some (.ref a2), some (.int x3), none]) ⟨rfl, rfl, rfl, rfl, trivial⟩ (aw_callV (M' := m_Mo_read) (lv0 := [some (.ref a2), none, none]) (As := []) (rest := [.int sx0]) 8 966 967 969 rfl (by decide) rfl hk1 tb_966 tb_967 tb_969 (fun U hU => hU.t 968 tb_968 rfl) rfl rfl 0 1 rfl rfl ⟨by decide, by decide, by decide +kernel, by decide +kernel, by decide, by decide⟩ (Nat.le_of_ble_eq_true rfl) ⟨rfl, trivial⟩ rfl d_Law_law_130 w))
set_option maxRecDepth 20000 in
theorem r_Law_law_133 {E : zE} {K n : Nat → Nat} {I : Nat → Nat → Int32} {F : Nat → Nat → Option Nat} {J : Nat → Nat → Int64} {cb sb : Nat} {Q : zO → zH → Prop} {a0 : Nat} {a1 : Nat} {a2 : Nat} {x3 : Int32} {sx0 : Int32} {sx1 : Int32}
    (w : ((sx0 = sx1 → AW E m_Law_law (K, n, I, F, J) cb sb Q 18 [some (.ref a0), some (.ref a1), some (.ref a2), some (.int (x3 + (4 : Int32))), none] []) ∧ (¬ sx0 = sx1 → Q (.inl (some (.int (0 : Int32)))) (K, n, I, F, J)))) :
    AW E m_Law_law (K, n, I, F, J) cb sb Q 133 [some (.ref a0), some (.ref a1), some (.ref a2), some (.int x3), none] [.int sx1, .int sx0] := by
  refine aw_icmp_eq (tgt := 503) d_Law_law_133 (by decide) (fun cc1 => ?_) (fun cc1 => ?_)
  · replace w := w.1 cc1
    refine aw_iinc (v := (x3 + (4 : Int32))) d_Law_law_503 rfl (by rfl) (by decide) ?_
    refine aw_goto (tgt := 18) d_Law_law_506 (by decide) ?_
    exact aw_weak (lv' := [some (.ref a0), some (.ref a1), some (.ref a2), some (.int (x3 + (4 : Int32))), none]) ⟨rfl, rfl, rfl, rfl, trivial⟩ w
  · replace w := w.2 cc1
    refine aw_iconst (v := (0 : Int32)) d_Law_law_136 (by decide) ?_
    exact aw_ireturn .boolean rfl rfl d_Law_law_137 w
set_option maxRecDepth 20000 in
theorem r_Law_law_147 {E : zE} {K n : Nat → Nat} {I : Nat → Nat → Int32} {F : Nat → Nat → Option Nat} {J : Nat → Nat → Int64} {cb sb : Nat} {Q : zO → zH → Prop} {a0 : Nat} {a1 : Nat} {a2 : Nat} {x3 : Int32} {sx0 : Int32}
    (w : a0 = E.2.1 14 ∧ (∃ j2 : Nat, (x3 + (1 : Int32)) = nI j2 ∧ j2 < E.2.1 15 ∧ j2 < 2147483648 ∧ K a2 = 9 ∧ AW E m_Mo_record (K, n, I, F, J) 0 0 (zAft E m_Law_law cb sb Q 153 [some (.ref a0), some (.ref a1), some (.ref a2), some (.int x3), none] [.int sx0]) 0 [some (.ref a2), some (.int (Int32.ofNat (E.2.1 (1000 + j2))))] [])) :
    AW E m_Law_law (K, n, I, F, J) cb sb Q 147 [some (.ref a0), some (.ref a1), some (.ref a2), some (.int x3), none] [.int sx0] := by
  refine aw_aload_n (x := a2) d_Law_law_147 rfl ?_
  refine aw_aload_n (x := a0) d_Law_law_148 rfl ?_
  refine aw_iload_n (x := x3) d_Law_law_149 rfl ?_
  refine aw_iconst (v := (1 : Int32)) d_Law_law_150 (by decide) ?_
  refine aw_iadd d_Law_law_151 ?_
  obtain ⟨hk1, w⟩ := w
  obtain ⟨j2, hj2a, hj2b, w⟩ := w
  obtain ⟨hk3, w⟩ := w
  refine aw_sld j2 hk1 hj2a hj2b hk3 d_Law_law_152 ?_
  obtain ⟨hk4, w⟩ := w
  exact aw_room (cb' := 0 + cb) (sb' := 0 + sb) (by omega) (by omega) (aw_weak (lv' := [some (.ref a0), some (.ref a1), some (.ref a2), some (.int x3), none]) ⟨rfl, rfl, rfl, rfl, trivial⟩ (aw_callV (M' := m_Mo_record) (lv0 := [some (.ref a2), some (.int (Int32.ofNat (E.2.1 (1000 + j2))))]) (As := [.int (Int32.ofNat (E.2.1 (1000 + j2)))]) (rest := [.int sx0]) 8 1049 1050 1052 rfl (by decide) rfl hk4 tb_1049 tb_1050 tb_1052 (fun U hU => hU.t 1051 tb_1051 rfl) rfl rfl 1 1 rfl rfl ⟨by decide, by decide, by decide +kernel, by decide +kernel, by decide, by decide⟩ (Nat.le_of_ble_eq_true rfl) ⟨rfl, rfl, trivial⟩ rfl d_Law_law_153 w))
set_option maxRecDepth 20000 in
theorem r_Law_law_156 {E : zE} {K n : Nat → Nat} {I : Nat → Nat → Int32} {F : Nat → Nat → Option Nat} {J : Nat → Nat → Int64} {cb sb : Nat} {Q : zO → zH → Prop} {a0 : Nat} {a1 : Nat} {a2 : Nat} {x3 : Int32} {sx0 : Int32} {sx1 : Int32}
    (w : ((sx0 = sx1 → AW E m_Law_law (K, n, I, F, J) cb sb Q 18 [some (.ref a0), some (.ref a1), some (.ref a2), some (.int (x3 + (4 : Int32))), none] []) ∧ (¬ sx0 = sx1 → Q (.inl (some (.int (0 : Int32)))) (K, n, I, F, J)))) :
    AW E m_Law_law (K, n, I, F, J) cb sb Q 156 [some (.ref a0), some (.ref a1), some (.ref a2), some (.int x3), none] [.int sx1, .int sx0] := by
  refine aw_icmp_eq (tgt := 503) d_Law_law_156 (by decide) (fun cc1 => ?_) (fun cc1 => ?_)
  · replace w := w.1 cc1
    refine aw_iinc (v := (x3 + (4 : Int32))) d_Law_law_503 rfl (by rfl) (by decide) ?_
    refine aw_goto (tgt := 18) d_Law_law_506 (by decide) ?_
    exact aw_weak (lv' := [some (.ref a0), some (.ref a1), some (.ref a2), some (.int (x3 + (4 : Int32))), none]) ⟨rfl, rfl, rfl, rfl, trivial⟩ w
  · replace w := w.2 cc1
    refine aw_iconst (v := (0 : Int32)) d_Law_law_159 (by decide) ?_
    exact aw_ireturn .boolean rfl rfl d_Law_law_160 w
set_option maxRecDepth 20000 in
theorem r_Law_law_181 {E : zE} {K n : Nat → Nat} {I : Nat → Nat → Int32} {F : Nat → Nat → Option Nat} {J : Nat → Nat → Int64} {cb sb : Nat} {Q : zO → zH → Prop} {a0 : Nat} {a1 : Nat} {a2 : Nat} {x3 : Int32} {sx0 : Int32}
    (w : a0 = E.2.1 14 ∧ (∃ j2 : Nat, (x3 + (1 : Int32)) = nI j2 ∧ j2 < E.2.1 15 ∧ j2 < 2147483648 ∧ a0 = E.2.1 14 ∧ (∃ j5 : Nat, (x3 + (2 : Int32)) = nI j5 ∧ j5 < E.2.1 15 ∧ j5 < 2147483648 ∧ a0 = E.2.1 14 ∧ (∃ j8 : Nat, (x3 + (3 : Int32)) = nI j8 ∧ j8 < E.2.1 15 ∧ j8 < 2147483648 ∧ K a2 = 9 ∧ AW E m_Mo_octet (K, n, I, F, J) 0 0 (zAft E m_Law_law cb sb Q 200 [some (.ref a0), some (.ref a1), some (.ref a2), some (.int x3), some (.int sx0)] []) 0 [some (.ref a2), some (.int (Int32.ofNat (E.2.1 (1000 + j2)))), some (.int (Int32.ofNat (E.2.1 (1000 + j5)))), some (.int ((Int32.ofNat (E.2.1 (1000 + j8))).toInt8.toInt32)), none, none] [])))) :
    AW E m_Law_law (K, n, I, F, J) cb sb Q 181 [some (.ref a0), some (.ref a1), some (.ref a2), some (.int x3), none] [.int sx0] := by
  refine aw_istore d_Law_law_181 (by decide) ?_
  refine aw_aload_n (x := a2) d_Law_law_183 rfl ?_
  refine aw_aload_n (x := a0) d_Law_law_184 rfl ?_
  refine aw_iload_n (x := x3) d_Law_law_185 rfl ?_
  refine aw_iconst (v := (1 : Int32)) d_Law_law_186 (by decide) ?_
  refine aw_iadd d_Law_law_187 ?_
  obtain ⟨hk1, w⟩ := w
  obtain ⟨j2, hj2a, hj2b, w⟩ := w
  obtain ⟨hk3, w⟩ := w
  refine aw_sld j2 hk1 hj2a hj2b hk3 d_Law_law_188 ?_
  refine aw_aload_n (x := a0) d_Law_law_189 rfl ?_
  refine aw_iload_n (x := x3) d_Law_law_190 rfl ?_
  refine aw_iconst (v := (2 : Int32)) d_Law_law_191 (by decide) ?_
  refine aw_iadd d_Law_law_192 ?_
  obtain ⟨hk4, w⟩ := w
  obtain ⟨j5, hj5a, hj5b, w⟩ := w
  obtain ⟨hk6, w⟩ := w
  refine aw_sld j5 hk4 hj5a hj5b hk6 d_Law_law_193 ?_
  refine aw_aload_n (x := a0) d_Law_law_194 rfl ?_
  refine aw_iload_n (x := x3) d_Law_law_195 rfl ?_
  refine aw_iconst (v := (3 : Int32)) d_Law_law_196 (by decide) ?_
  refine aw_iadd d_Law_law_197 ?_
  obtain ⟨hk7, w⟩ := w
  obtain ⟨j8, hj8a, hj8b, w⟩ := w
  obtain ⟨hk9, w⟩ := w
  refine aw_sld j8 hk7 hj8a hj8b hk9 d_Law_law_198 ?_
  refine aw_i2b (v := (Int32.ofNat (E.2.1 (1000 + j8))).toInt8.toInt32) d_Law_law_199 rfl ?_
  obtain ⟨hk10, w⟩ := w
  exact aw_room (cb' := 0 + cb) (sb' := 0 + sb) (by omega) (by omega) (aw_weak (lv' := [some (.ref a0), some (.ref a1), some (.ref a2), some (.int x3), some (.int sx0)]) ⟨rfl, rfl, rfl, rfl, rfl, trivial⟩ (aw_callV (M' := m_Mo_octet) (lv0 := [some (.ref a2), some (.int (Int32.ofNat (E.2.1 (1000 + j2)))), some (.int (Int32.ofNat (E.2.1 (1000 + j5)))), some (.int ((Int32.ofNat (E.2.1 (1000 + j8))).toInt8.toInt32)), none, none]) (As := [.int (Int32.ofNat (E.2.1 (1000 + j2))), .int (Int32.ofNat (E.2.1 (1000 + j5))), .int ((Int32.ofNat (E.2.1 (1000 + j8))).toInt8.toInt32)]) (rest := []) 8 1053 1054 1056 rfl (by decide) rfl hk10 tb_1053 tb_1054 tb_1056 (fun U hU => hU.t 1055 tb_1055 rfl) rfl rfl 3 0 rfl rfl ⟨by decide, by decide, by decide +kernel, by decide +kernel, by decide, by decide⟩ (Nat.le_of_ble_eq_true rfl) ⟨rfl, rfl, rfl, rfl, trivial⟩ rfl d_Law_law_200 w))
set_option maxRecDepth 20000 in
theorem r_Law_law_203 {E : zE} {K n : Nat → Nat} {I : Nat → Nat → Int32} {F : Nat → Nat → Option Nat} {J : Nat → Nat → Int64} {cb sb : Nat} {Q : zO → zH → Prop} {a0 : Nat} {a1 : Nat} {a2 : Nat} {x3 : Int32} {x4 : Int32}
    (w : K a2 = 9 ∧ AW E m_Mo_thrown (K, n, I, F, J) 0 0 (zAft E m_Law_law cb sb Q 204 [some (.ref a0), some (.ref a1), some (.ref a2), some (.int x3), some (.int x4)] []) 0 [some (.ref a2)] []) :
    AW E m_Law_law (K, n, I, F, J) cb sb Q 203 [some (.ref a0), some (.ref a1), some (.ref a2), some (.int x3), some (.int x4)] [] := by
  refine aw_aload_n (x := a2) d_Law_law_203 rfl ?_
  obtain ⟨hk1, w⟩ := w
  exact aw_room (cb' := 0 + cb) (sb' := 0 + sb) (by omega) (by omega) (aw_weak (lv' := [some (.ref a0), some (.ref a1), some (.ref a2), some (.int x3), some (.int x4)]) ⟨rfl, rfl, rfl, rfl, rfl, trivial⟩ (aw_callV (M' := m_Mo_thrown) (lv0 := [some (.ref a2)]) (As := []) (rest := []) 8 958 959 961 rfl (by decide) rfl hk1 tb_958 tb_959 tb_961 (fun U hU => hU.t 960 tb_960 rfl) rfl rfl 0 0 rfl rfl ⟨by decide, by decide, by decide +kernel, by decide +kernel, by decide, by decide⟩ (Nat.le_of_ble_eq_true rfl) ⟨rfl, trivial⟩ rfl d_Law_law_204 w))
set_option maxRecDepth 20000 in
theorem r_Law_law_207 {E : zE} {K n : Nat → Nat} {I : Nat → Nat → Int32} {F : Nat → Nat → Option Nat} {J : Nat → Nat → Int64} {cb sb : Nat} {Q : zO → zH → Prop} {a0 : Nat} {a1 : Nat} {a2 : Nat} {x3 : Int32} {x4 : Int32} {sx0 : Int32}
    (w : ((sx0 = x4 → AW E m_Law_law (K, n, I, F, J) cb sb Q 18 [some (.ref a0), some (.ref a1), some (.ref a2), some (.int (x3 + (4 : Int32))), none] []) ∧ (¬ sx0 = x4 → Q (.inl (some (.int (0 : Int32)))) (K, n, I, F, J)))) :
    AW E m_Law_law (K, n, I, F, J) cb sb Q 207 [some (.ref a0), some (.ref a1), some (.ref a2), some (.int x3), some (.int x4)] [.int sx0] := by
  refine aw_iload (x := x4) d_Law_law_207 rfl ?_
  refine aw_icmp_eq (tgt := 214) d_Law_law_209 (by decide) (fun cc1 => ?_) (fun cc1 => ?_)
  · replace w := w.1 cc1
    refine aw_goto (tgt := 503) d_Law_law_214 (by decide) ?_
    refine aw_iinc (v := (x3 + (4 : Int32))) d_Law_law_503 rfl (by rfl) (by decide) ?_
    refine aw_goto (tgt := 18) d_Law_law_506 (by decide) ?_
    exact aw_weak (lv' := [some (.ref a0), some (.ref a1), some (.ref a2), some (.int (x3 + (4 : Int32))), none]) ⟨rfl, rfl, rfl, rfl, trivial⟩ w
  · replace w := w.2 cc1
    refine aw_iconst (v := (0 : Int32)) d_Law_law_212 (by decide) ?_
    exact aw_ireturn .boolean rfl rfl d_Law_law_213 w
set_option maxRecDepth 20000 in
theorem r_Law_law_221 {E : zE} {K n : Nat → Nat} {I : Nat → Nat → Int32} {F : Nat → Nat → Option Nat} {J : Nat → Nat → Int64} {cb sb : Nat} {Q : zO → zH → Prop} {a0 : Nat} {a1 : Nat} {a2 : Nat} {x3 : Int32} {sx0 : Int32}
    (w : K a2 = 9 ∧ AW E m_Mo_run (K, n, I, F, J) 0 0 (zAft E m_Law_law cb sb Q 222 [some (.ref a0), some (.ref a1), some (.ref a2), some (.int x3), none] [.int sx0]) 0 [some (.ref a2), none, none, none, none, none, none, none] []) :
    AW E m_Law_law (K, n, I, F, J) cb sb Q 221 [some (.ref a0), some (.ref a1), some (.ref a2), some (.int x3), none] [.int sx0] := by
  refine aw_aload_n (x := a2) d_Law_law_221 rfl ?_
  obtain ⟨hk1, w⟩ := w
  exact aw_room (cb' := 0 + cb) (sb' := 0 + sb) (by omega) (by omega) (aw_weak (lv' := [some (.ref a0), some (.ref a1), some (.ref a2), some (.int x3), none]) ⟨rfl, rfl, rfl, rfl, trivial⟩ (aw_callV (M' := m_Mo_run) (lv0 := [some (.ref a2), none, none, none, none, none, none, none]) (As := []) (rest := [.int sx0]) 8 1057 1058 1060 rfl (by decide) rfl hk1 tb_1057 tb_1058 tb_1060 (fun U hU => hU.t 1059 tb_1059 rfl) rfl rfl 0 1 rfl rfl ⟨by decide, by decide, by decide +kernel, by decide +kernel, by decide, by decide⟩ (Nat.le_of_ble_eq_true rfl) ⟨rfl, trivial⟩ rfl d_Law_law_222 w))
set_option maxRecDepth 20000 in
theorem r_Law_law_225 {E : zE} {K n : Nat → Nat} {I : Nat → Nat → Int32} {F : Nat → Nat → Option Nat} {J : Nat → Nat → Int64} {cb sb : Nat} {Q : zO → zH → Prop} {a0 : Nat} {a1 : Nat} {a2 : Nat} {x3 : Int32} {sx0 : Int32} {sx1 : Int32}
    (w : ((sx0 = sx1 → AW E m_Law_law (K, n, I, F, J) cb sb Q 18 [some (.ref a0), some (.ref a1), some (.ref a2), some (.int (x3 + (4 : Int32))), none] []) ∧ (¬ sx0 = sx1 → Q (.inl (some (.int (0 : Int32)))) (K, n, I, F, J)))) :
    AW E m_Law_law (K, n, I, F, J) cb sb Q 225 [some (.ref a0), some (.ref a1), some (.ref a2), some (.int x3), none] [.int sx1, .int sx0] := by
  refine aw_icmp_eq (tgt := 503) d_Law_law_225 (by decide) (fun cc1 => ?_) (fun cc1 => ?_)
  · replace w := w.1 cc1
    refine aw_iinc (v := (x3 + (4 : Int32))) d_Law_law_503 rfl (by rfl) (by decide) ?_
    refine aw_goto (tgt := 18) d_Law_law_506 (by decide) ?_
    exact aw_weak (lv' := [some (.ref a0), some (.ref a1), some (.ref a2), some (.int (x3 + (4 : Int32))), none]) ⟨rfl, rfl, rfl, rfl, trivial⟩ w
  · replace w := w.2 cc1
    refine aw_iconst (v := (0 : Int32)) d_Law_law_228 (by decide) ?_
    exact aw_ireturn .boolean rfl rfl d_Law_law_229 w
set_option maxRecDepth 20000 in
theorem r_Law_law_249 {E : zE} {K n : Nat → Nat} {I : Nat → Nat → Int32} {F : Nat → Nat → Option Nat} {J : Nat → Nat → Int64} {cb sb : Nat} {Q : zO → zH → Prop} {a0 : Nat} {a1 : Nat} {a2 : Nat} {x3 : Int32} {sx0 : Int32}
    (w : a0 = E.2.1 14 ∧ (∃ j2 : Nat, (x3 + (1 : Int32)) = nI j2 ∧ j2 < E.2.1 15 ∧ j2 < 2147483648 ∧ a0 = E.2.1 14 ∧ (∃ j5 : Nat, (x3 + (2 : Int32)) = nI j5 ∧ j5 < E.2.1 15 ∧ j5 < 2147483648 ∧ a0 = E.2.1 14 ∧ (∃ j8 : Nat, (x3 + (3 : Int32)) = nI j8 ∧ j8 < E.2.1 15 ∧ j8 < 2147483648 ∧ K a2 = 9 ∧ AW E m_Mo_out (K, n, I, F, J) 0 0 (zAft E m_Law_law cb sb Q 265 [some (.ref a0), some (.ref a1), some (.ref a2), some (.int x3), none] [.int sx0]) 0 [some (.ref a2), some (.int (Int32.ofNat (E.2.1 (1000 + j2)))), some (.int (Int32.ofNat (E.2.1 (1000 + j5)))), some (.int (Int32.ofNat (E.2.1 (1000 + j8))))] [])))) :
    AW E m_Law_law (K, n, I, F, J) cb sb Q 249 [some (.ref a0), some (.ref a1), some (.ref a2), some (.int x3), none] [.int sx0] := by
  refine aw_aload_n (x := a2) d_Law_law_249 rfl ?_
  refine aw_aload_n (x := a0) d_Law_law_250 rfl ?_
  refine aw_iload_n (x := x3) d_Law_law_251 rfl ?_
  refine aw_iconst (v := (1 : Int32)) d_Law_law_252 (by decide) ?_
  refine aw_iadd d_Law_law_253 ?_
  obtain ⟨hk1, w⟩ := w
  obtain ⟨j2, hj2a, hj2b, w⟩ := w
  obtain ⟨hk3, w⟩ := w
  refine aw_sld j2 hk1 hj2a hj2b hk3 d_Law_law_254 ?_
  refine aw_aload_n (x := a0) d_Law_law_255 rfl ?_
  refine aw_iload_n (x := x3) d_Law_law_256 rfl ?_
  refine aw_iconst (v := (2 : Int32)) d_Law_law_257 (by decide) ?_
  refine aw_iadd d_Law_law_258 ?_
  obtain ⟨hk4, w⟩ := w
  obtain ⟨j5, hj5a, hj5b, w⟩ := w
  obtain ⟨hk6, w⟩ := w
  refine aw_sld j5 hk4 hj5a hj5b hk6 d_Law_law_259 ?_
  refine aw_aload_n (x := a0) d_Law_law_260 rfl ?_
  refine aw_iload_n (x := x3) d_Law_law_261 rfl ?_
  refine aw_iconst (v := (3 : Int32)) d_Law_law_262 (by decide) ?_
  refine aw_iadd d_Law_law_263 ?_
  obtain ⟨hk7, w⟩ := w
  obtain ⟨j8, hj8a, hj8b, w⟩ := w
  obtain ⟨hk9, w⟩ := w
  refine aw_sld j8 hk7 hj8a hj8b hk9 d_Law_law_264 ?_
  obtain ⟨hk10, w⟩ := w
  exact aw_room (cb' := 0 + cb) (sb' := 0 + sb) (by omega) (by omega) (aw_weak (lv' := [some (.ref a0), some (.ref a1), some (.ref a2), some (.int x3), none]) ⟨rfl, rfl, rfl, rfl, trivial⟩ (aw_callV (M' := m_Mo_out) (lv0 := [some (.ref a2), some (.int (Int32.ofNat (E.2.1 (1000 + j2)))), some (.int (Int32.ofNat (E.2.1 (1000 + j5)))), some (.int (Int32.ofNat (E.2.1 (1000 + j8))))]) (As := [.int (Int32.ofNat (E.2.1 (1000 + j2))), .int (Int32.ofNat (E.2.1 (1000 + j5))), .int (Int32.ofNat (E.2.1 (1000 + j8)))]) (rest := [.int sx0]) 8 1112 1113 1115 rfl (by decide) rfl hk10 tb_1112 tb_1113 tb_1115 (fun U hU => hU.t 1114 tb_1114 rfl) rfl rfl 3 1 rfl rfl ⟨by decide, by decide, by decide +kernel, by decide +kernel, by decide, by decide⟩ (Nat.le_of_ble_eq_true rfl) ⟨rfl, rfl, rfl, rfl, trivial⟩ rfl d_Law_law_265 w))
set_option maxRecDepth 20000 in
theorem r_Law_law_268 {E : zE} {K n : Nat → Nat} {I : Nat → Nat → Int32} {F : Nat → Nat → Option Nat} {J : Nat → Nat → Int64} {cb sb : Nat} {Q : zO → zH → Prop} {a0 : Nat} {a1 : Nat} {a2 : Nat} {x3 : Int32} {sx0 : Int32} {sx1 : Int32}
    (w : ((sx0 = sx1 → AW E m_Law_law (K, n, I, F, J) cb sb Q 18 [some (.ref a0), some (.ref a1), some (.ref a2), some (.int (x3 + (4 : Int32))), none] []) ∧ (¬ sx0 = sx1 → Q (.inl (some (.int (0 : Int32)))) (K, n, I, F, J)))) :
    AW E m_Law_law (K, n, I, F, J) cb sb Q 268 [some (.ref a0), some (.ref a1), some (.ref a2), some (.int x3), none] [.int sx1, .int sx0] := by
  refine aw_icmp_eq (tgt := 503) d_Law_law_268 (by decide) (fun cc1 => ?_) (fun cc1 => ?_)
  · replace w := w.1 cc1
    refine aw_iinc (v := (x3 + (4 : Int32))) d_Law_law_503 rfl (by rfl) (by decide) ?_
    refine aw_goto (tgt := 18) d_Law_law_506 (by decide) ?_
    exact aw_weak (lv' := [some (.ref a0), some (.ref a1), some (.ref a2), some (.int (x3 + (4 : Int32))), none]) ⟨rfl, rfl, rfl, rfl, trivial⟩ w
  · replace w := w.2 cc1
    refine aw_iconst (v := (0 : Int32)) d_Law_law_271 (by decide) ?_
    exact aw_ireturn .boolean rfl rfl d_Law_law_272 w
set_option maxRecDepth 20000 in
theorem r_Law_law_287 {E : zE} {K n : Nat → Nat} {I : Nat → Nat → Int32} {F : Nat → Nat → Option Nat} {J : Nat → Nat → Int64} {cb sb : Nat} {Q : zO → zH → Prop} {a0 : Nat} {a1 : Nat} {a2 : Nat} {x3 : Int32} {sx0 : Int32}
    (w : a0 = E.2.1 14 ∧ (∃ j2 : Nat, (x3 + (1 : Int32)) = nI j2 ∧ j2 < E.2.1 15 ∧ j2 < 2147483648 ∧ a0 = E.2.1 14 ∧ (∃ j5 : Nat, (x3 + (2 : Int32)) = nI j5 ∧ j5 < E.2.1 15 ∧ j5 < 2147483648 ∧ K a2 = 9 ∧ AW E m_Mo_sum (K, n, I, F, J) 0 0 (zAft E m_Law_law cb sb Q 298 [some (.ref a0), some (.ref a1), some (.ref a2), some (.int x3), none] [.int sx0]) 0 [some (.ref a2), some (.int (Int32.ofNat (E.2.1 (1000 + j2)))), some (.int (Int32.ofNat (E.2.1 (1000 + j5))))] []))) :
    AW E m_Law_law (K, n, I, F, J) cb sb Q 287 [some (.ref a0), some (.ref a1), some (.ref a2), some (.int x3), none] [.int sx0] := by
  refine aw_aload_n (x := a2) d_Law_law_287 rfl ?_
  refine aw_aload_n (x := a0) d_Law_law_288 rfl ?_
  refine aw_iload_n (x := x3) d_Law_law_289 rfl ?_
  refine aw_iconst (v := (1 : Int32)) d_Law_law_290 (by decide) ?_
  refine aw_iadd d_Law_law_291 ?_
  obtain ⟨hk1, w⟩ := w
  obtain ⟨j2, hj2a, hj2b, w⟩ := w
  obtain ⟨hk3, w⟩ := w
  refine aw_sld j2 hk1 hj2a hj2b hk3 d_Law_law_292 ?_
  refine aw_aload_n (x := a0) d_Law_law_293 rfl ?_
  refine aw_iload_n (x := x3) d_Law_law_294 rfl ?_
  refine aw_iconst (v := (2 : Int32)) d_Law_law_295 (by decide) ?_
  refine aw_iadd d_Law_law_296 ?_
  obtain ⟨hk4, w⟩ := w
  obtain ⟨j5, hj5a, hj5b, w⟩ := w
  obtain ⟨hk6, w⟩ := w
  refine aw_sld j5 hk4 hj5a hj5b hk6 d_Law_law_297 ?_
  obtain ⟨hk7, w⟩ := w
  exact aw_room (cb' := 0 + cb) (sb' := 0 + sb) (by omega) (by omega) (aw_weak (lv' := [some (.ref a0), some (.ref a1), some (.ref a2), some (.int x3), none]) ⟨rfl, rfl, rfl, rfl, trivial⟩ (aw_callV (M' := m_Mo_sum) (lv0 := [some (.ref a2), some (.int (Int32.ofNat (E.2.1 (1000 + j2)))), some (.int (Int32.ofNat (E.2.1 (1000 + j5))))]) (As := [.int (Int32.ofNat (E.2.1 (1000 + j2))), .int (Int32.ofNat (E.2.1 (1000 + j5)))]) (rest := [.int sx0]) 8 1120 1121 1123 rfl (by decide) rfl hk7 tb_1120 tb_1121 tb_1123 (fun U hU => hU.t 1122 tb_1122 rfl) rfl rfl 2 1 rfl rfl ⟨by decide, by decide, by decide +kernel, by decide +kernel, by decide, by decide⟩ (Nat.le_of_ble_eq_true rfl) ⟨rfl, rfl, rfl, trivial⟩ rfl d_Law_law_298 w))
set_option maxRecDepth 20000 in
theorem r_Law_law_301 {E : zE} {K n : Nat → Nat} {I : Nat → Nat → Int32} {F : Nat → Nat → Option Nat} {J : Nat → Nat → Int64} {cb sb : Nat} {Q : zO → zH → Prop} {a0 : Nat} {a1 : Nat} {a2 : Nat} {x3 : Int32} {sx0 : Int32} {sx1 : Int32}
    (w : ((sx0 = sx1 → AW E m_Law_law (K, n, I, F, J) cb sb Q 18 [some (.ref a0), some (.ref a1), some (.ref a2), some (.int (x3 + (4 : Int32))), none] []) ∧ (¬ sx0 = sx1 → Q (.inl (some (.int (0 : Int32)))) (K, n, I, F, J)))) :
    AW E m_Law_law (K, n, I, F, J) cb sb Q 301 [some (.ref a0), some (.ref a1), some (.ref a2), some (.int x3), none] [.int sx1, .int sx0] := by
  refine aw_icmp_eq (tgt := 503) d_Law_law_301 (by decide) (fun cc1 => ?_) (fun cc1 => ?_)
  · replace w := w.1 cc1
    refine aw_iinc (v := (x3 + (4 : Int32))) d_Law_law_503 rfl (by rfl) (by decide) ?_
    refine aw_goto (tgt := 18) d_Law_law_506 (by decide) ?_
    exact aw_weak (lv' := [some (.ref a0), some (.ref a1), some (.ref a2), some (.int (x3 + (4 : Int32))), none]) ⟨rfl, rfl, rfl, rfl, trivial⟩ w
  · replace w := w.2 cc1
    refine aw_iconst (v := (0 : Int32)) d_Law_law_304 (by decide) ?_
    exact aw_ireturn .boolean rfl rfl d_Law_law_305 w
set_option maxRecDepth 20000 in
theorem r_Law_law_320 {E : zE} {K n : Nat → Nat} {I : Nat → Nat → Int32} {F : Nat → Nat → Option Nat} {J : Nat → Nat → Int64} {cb sb : Nat} {Q : zO → zH → Prop} {a0 : Nat} {a1 : Nat} {a2 : Nat} {x3 : Int32} {sx0 : Int32}
    (w : a0 = E.2.1 14 ∧ (∃ j2 : Nat, (x3 + (1 : Int32)) = nI j2 ∧ j2 < E.2.1 15 ∧ j2 < 2147483648 ∧ a0 = E.2.1 14 ∧ (∃ j5 : Nat, (x3 + (2 : Int32)) = nI j5 ∧ j5 < E.2.1 15 ∧ j5 < 2147483648 ∧ K a2 = 9 ∧ AW E m_Mo_join (K, n, I, F, J) 0 0 (zAft E m_Law_law cb sb Q 331 [some (.ref a0), some (.ref a1), some (.ref a2), some (.int x3), none] [.int sx0]) 0 [some (.ref a2), some (.int (Int32.ofNat (E.2.1 (1000 + j2)))), some (.int (Int32.ofNat (E.2.1 (1000 + j5)))), none, none, none, none, none] []))) :
    AW E m_Law_law (K, n, I, F, J) cb sb Q 320 [some (.ref a0), some (.ref a1), some (.ref a2), some (.int x3), none] [.int sx0] := by
  refine aw_aload_n (x := a2) d_Law_law_320 rfl ?_
  refine aw_aload_n (x := a0) d_Law_law_321 rfl ?_
  refine aw_iload_n (x := x3) d_Law_law_322 rfl ?_
  refine aw_iconst (v := (1 : Int32)) d_Law_law_323 (by decide) ?_
  refine aw_iadd d_Law_law_324 ?_
  obtain ⟨hk1, w⟩ := w
  obtain ⟨j2, hj2a, hj2b, w⟩ := w
  obtain ⟨hk3, w⟩ := w
  refine aw_sld j2 hk1 hj2a hj2b hk3 d_Law_law_325 ?_
  refine aw_aload_n (x := a0) d_Law_law_326 rfl ?_
  refine aw_iload_n (x := x3) d_Law_law_327 rfl ?_
  refine aw_iconst (v := (2 : Int32)) d_Law_law_328 (by decide) ?_
  refine aw_iadd d_Law_law_329 ?_
  obtain ⟨hk4, w⟩ := w
  obtain ⟨j5, hj5a, hj5b, w⟩ := w
  obtain ⟨hk6, w⟩ := w
  refine aw_sld j5 hk4 hj5a hj5b hk6 d_Law_law_330 ?_
  obtain ⟨hk7, w⟩ := w
  exact aw_room (cb' := 0 + cb) (sb' := 0 + sb) (by omega) (by omega) (aw_weak (lv' := [some (.ref a0), some (.ref a1), some (.ref a2), some (.int x3), none]) ⟨rfl, rfl, rfl, rfl, trivial⟩ (aw_callV (M' := m_Mo_join) (lv0 := [some (.ref a2), some (.int (Int32.ofNat (E.2.1 (1000 + j2)))), some (.int (Int32.ofNat (E.2.1 (1000 + j5)))), none, none, none, none, none]) (As := [.int (Int32.ofNat (E.2.1 (1000 + j2))), .int (Int32.ofNat (E.2.1 (1000 + j5)))]) (rest := [.int sx0]) 8 1108 1109 1111 rfl (by decide) rfl hk7 tb_1108 tb_1109 tb_1111 (fun U hU => hU.t 1110 tb_1110 rfl) rfl rfl 2 1 rfl rfl ⟨by decide, by decide, by decide +kernel, by decide +kernel, by decide, by decide⟩ (Nat.le_of_ble_eq_true rfl) ⟨rfl, rfl, rfl, trivial⟩ rfl d_Law_law_331 w))
set_option maxRecDepth 20000 in
theorem r_Law_law_334 {E : zE} {K n : Nat → Nat} {I : Nat → Nat → Int32} {F : Nat → Nat → Option Nat} {J : Nat → Nat → Int64} {cb sb : Nat} {Q : zO → zH → Prop} {a0 : Nat} {a1 : Nat} {a2 : Nat} {x3 : Int32} {sx0 : Int32} {sx1 : Int32}
    (w : ((sx0 = sx1 → AW E m_Law_law (K, n, I, F, J) cb sb Q 18 [some (.ref a0), some (.ref a1), some (.ref a2), some (.int (x3 + (4 : Int32))), none] []) ∧ (¬ sx0 = sx1 → Q (.inl (some (.int (0 : Int32)))) (K, n, I, F, J)))) :
    AW E m_Law_law (K, n, I, F, J) cb sb Q 334 [some (.ref a0), some (.ref a1), some (.ref a2), some (.int x3), none] [.int sx1, .int sx0] := by
  refine aw_icmp_eq (tgt := 503) d_Law_law_334 (by decide) (fun cc1 => ?_) (fun cc1 => ?_)
  · replace w := w.1 cc1
    refine aw_iinc (v := (x3 + (4 : Int32))) d_Law_law_503 rfl (by rfl) (by decide) ?_
    refine aw_goto (tgt := 18) d_Law_law_506 (by decide) ?_
    exact aw_weak (lv' := [some (.ref a0), some (.ref a1), some (.ref a2), some (.int (x3 + (4 : Int32))), none]) ⟨rfl, rfl, rfl, rfl, trivial⟩ w
  · replace w := w.2 cc1
    refine aw_iconst (v := (0 : Int32)) d_Law_law_337 (by decide) ?_
    exact aw_ireturn .boolean rfl rfl d_Law_law_338 w
set_option maxRecDepth 20000 in
theorem r_Law_law_348 {E : zE} {K n : Nat → Nat} {I : Nat → Nat → Int32} {F : Nat → Nat → Option Nat} {J : Nat → Nat → Int64} {cb sb : Nat} {Q : zO → zH → Prop} {a0 : Nat} {a1 : Nat} {a2 : Nat} {x3 : Int32} {sx0 : Int32}
    (w : a0 = E.2.1 14 ∧ (∃ j2 : Nat, (x3 + (1 : Int32)) = nI j2 ∧ j2 < E.2.1 15 ∧ j2 < 2147483648 ∧ K a2 = 9 ∧ AW E m_Mo_left (K, n, I, F, J) 0 0 (zAft E m_Law_law cb sb Q 354 [some (.ref a0), some (.ref a1), some (.ref a2), some (.int x3), none] [.int sx0]) 0 [some (.ref a2), some (.int (Int32.ofNat (E.2.1 (1000 + j2))))] [])) :
    AW E m_Law_law (K, n, I, F, J) cb sb Q 348 [some (.ref a0), some (.ref a1), some (.ref a2), some (.int x3), none] [.int sx0] := by
  refine aw_aload_n (x := a2) d_Law_law_348 rfl ?_
  refine aw_aload_n (x := a0) d_Law_law_349 rfl ?_
  refine aw_iload_n (x := x3) d_Law_law_350 rfl ?_
  refine aw_iconst (v := (1 : Int32)) d_Law_law_351 (by decide) ?_
  refine aw_iadd d_Law_law_352 ?_
  obtain ⟨hk1, w⟩ := w
  obtain ⟨j2, hj2a, hj2b, w⟩ := w
  obtain ⟨hk3, w⟩ := w
  refine aw_sld j2 hk1 hj2a hj2b hk3 d_Law_law_353 ?_
  obtain ⟨hk4, w⟩ := w
  exact aw_room (cb' := 0 + cb) (sb' := 0 + sb) (by omega) (by omega) (aw_weak (lv' := [some (.ref a0), some (.ref a1), some (.ref a2), some (.int x3), none]) ⟨rfl, rfl, rfl, rfl, trivial⟩ (aw_callV (M' := m_Mo_left) (lv0 := [some (.ref a2), some (.int (Int32.ofNat (E.2.1 (1000 + j2))))]) (As := [.int (Int32.ofNat (E.2.1 (1000 + j2)))]) (rest := [.int sx0]) 8 1124 1125 1127 rfl (by decide) rfl hk4 tb_1124 tb_1125 tb_1127 (fun U hU => hU.t 1126 tb_1126 rfl) rfl rfl 1 1 rfl rfl ⟨by decide, by decide, by decide +kernel, by decide +kernel, by decide, by decide⟩ (Nat.le_of_ble_eq_true rfl) ⟨rfl, rfl, trivial⟩ rfl d_Law_law_354 w))
set_option maxRecDepth 20000 in
theorem r_Law_law_357 {E : zE} {K n : Nat → Nat} {I : Nat → Nat → Int32} {F : Nat → Nat → Option Nat} {J : Nat → Nat → Int64} {cb sb : Nat} {Q : zO → zH → Prop} {a0 : Nat} {a1 : Nat} {a2 : Nat} {x3 : Int32} {sx0 : Int32} {sx1 : Int32}
    (w : ((sx0 = sx1 → AW E m_Law_law (K, n, I, F, J) cb sb Q 18 [some (.ref a0), some (.ref a1), some (.ref a2), some (.int (x3 + (4 : Int32))), none] []) ∧ (¬ sx0 = sx1 → Q (.inl (some (.int (0 : Int32)))) (K, n, I, F, J)))) :
    AW E m_Law_law (K, n, I, F, J) cb sb Q 357 [some (.ref a0), some (.ref a1), some (.ref a2), some (.int x3), none] [.int sx1, .int sx0] := by
  refine aw_icmp_eq (tgt := 503) d_Law_law_357 (by decide) (fun cc1 => ?_) (fun cc1 => ?_)
  · replace w := w.1 cc1
    refine aw_iinc (v := (x3 + (4 : Int32))) d_Law_law_503 rfl (by rfl) (by decide) ?_
    refine aw_goto (tgt := 18) d_Law_law_506 (by decide) ?_
    exact aw_weak (lv' := [some (.ref a0), some (.ref a1), some (.ref a2), some (.int (x3 + (4 : Int32))), none]) ⟨rfl, rfl, rfl, rfl, trivial⟩ w
  · replace w := w.2 cc1
    refine aw_iconst (v := (0 : Int32)) d_Law_law_360 (by decide) ?_
    exact aw_ireturn .boolean rfl rfl d_Law_law_361 w
set_option maxRecDepth 20000 in
theorem r_Law_law_366 {E : zE} {K n : Nat → Nat} {I : Nat → Nat → Int32} {F : Nat → Nat → Option Nat} {J : Nat → Nat → Int64} {cb sb : Nat} {Q : zO → zH → Prop} {a0 : Nat} {a1 : Nat} {a2 : Nat} {x3 : Int32} {sx0 : Int32}
    (w : K a2 = 9 ∧ AW E m_Mo_code (K, n, I, F, J) 0 0 (zAft E m_Law_law cb sb Q 367 [some (.ref a0), some (.ref a1), some (.ref a2), some (.int x3), none] [.int sx0]) 0 [some (.ref a2)] []) :
    AW E m_Law_law (K, n, I, F, J) cb sb Q 366 [some (.ref a0), some (.ref a1), some (.ref a2), some (.int x3), none] [.int sx0] := by
  refine aw_aload_n (x := a2) d_Law_law_366 rfl ?_
  obtain ⟨hk1, w⟩ := w
  exact aw_room (cb' := 0 + cb) (sb' := 0 + sb) (by omega) (by omega) (aw_weak (lv' := [some (.ref a0), some (.ref a1), some (.ref a2), some (.int x3), none]) ⟨rfl, rfl, rfl, rfl, trivial⟩ (aw_callV (M' := m_Mo_code) (lv0 := [some (.ref a2)]) (As := []) (rest := [.int sx0]) 8 1128 1129 1131 rfl (by decide) rfl hk1 tb_1128 tb_1129 tb_1131 (fun U hU => hU.t 1130 tb_1130 rfl) rfl rfl 0 1 rfl rfl ⟨by decide, by decide, by decide +kernel, by decide +kernel, by decide, by decide⟩ (Nat.le_of_ble_eq_true rfl) ⟨rfl, trivial⟩ rfl d_Law_law_367 w))
set_option maxRecDepth 20000 in
theorem r_Law_law_370 {E : zE} {K n : Nat → Nat} {I : Nat → Nat → Int32} {F : Nat → Nat → Option Nat} {J : Nat → Nat → Int64} {cb sb : Nat} {Q : zO → zH → Prop} {a0 : Nat} {a1 : Nat} {a2 : Nat} {x3 : Int32} {sx0 : Int32} {sx1 : Int32}
    (w : ((sx0 = sx1 → AW E m_Law_law (K, n, I, F, J) cb sb Q 18 [some (.ref a0), some (.ref a1), some (.ref a2), some (.int (x3 + (4 : Int32))), none] []) ∧ (¬ sx0 = sx1 → Q (.inl (some (.int (0 : Int32)))) (K, n, I, F, J)))) :
    AW E m_Law_law (K, n, I, F, J) cb sb Q 370 [some (.ref a0), some (.ref a1), some (.ref a2), some (.int x3), none] [.int sx1, .int sx0] := by
  refine aw_icmp_eq (tgt := 503) d_Law_law_370 (by decide) (fun cc1 => ?_) (fun cc1 => ?_)
  · replace w := w.1 cc1
    refine aw_iinc (v := (x3 + (4 : Int32))) d_Law_law_503 rfl (by rfl) (by decide) ?_
    refine aw_goto (tgt := 18) d_Law_law_506 (by decide) ?_
    exact aw_weak (lv' := [some (.ref a0), some (.ref a1), some (.ref a2), some (.int (x3 + (4 : Int32))), none]) ⟨rfl, rfl, rfl, rfl, trivial⟩ w
  · replace w := w.2 cc1
    refine aw_iconst (v := (0 : Int32)) d_Law_law_373 (by decide) ?_
    exact aw_ireturn .boolean rfl rfl d_Law_law_374 w
set_option maxRecDepth 20000 in
theorem r_Law_law_397 {E : zE} {K n : Nat → Nat} {I : Nat → Nat → Int32} {F : Nat → Nat → Option Nat} {J : Nat → Nat → Int64} {cb sb : Nat} {Q : zO → zH → Prop} {a0 : Nat} {a1 : Nat} {a2 : Nat} {x3 : Int32} {sx0 : Int32}
    (w : a0 = E.2.1 14 ∧ (∃ j2 : Nat, (x3 + (1 : Int32)) = nI j2 ∧ j2 < E.2.1 15 ∧ j2 < 2147483648 ∧ a0 = E.2.1 14 ∧ (∃ j5 : Nat, (x3 + (2 : Int32)) = nI j5 ∧ j5 < E.2.1 15 ∧ j5 < 2147483648 ∧ (((Int32.ofNat (E.2.1 (1000 + j5))) = 0 → K a2 = 9 ∧ AW E m_Mo_exit (K, n, I, F, J) 0 0 (zAft E m_Law_law cb sb Q 416 [some (.ref a0), some (.ref a1), some (.ref a2), some (.int x3), none] [.int sx0]) 0 [some (.ref a2), some (.int (Int32.ofNat (E.2.1 (1000 + j2)))), some (.int (0 : Int32)), none] []) ∧ (¬ (Int32.ofNat (E.2.1 (1000 + j5))) = 0 → K a2 = 9 ∧ AW E m_Mo_exit (K, n, I, F, J) 0 0 (zAft E m_Law_law cb sb Q 416 [some (.ref a0), some (.ref a1), some (.ref a2), some (.int x3), none] [.int sx0]) 0 [some (.ref a2), some (.int (Int32.ofNat (E.2.1 (1000 + j2)))), some (.int (1 : Int32)), none] []))))) :
    AW E m_Law_law (K, n, I, F, J) cb sb Q 397 [some (.ref a0), some (.ref a1), some (.ref a2), some (.int x3), none] [.int sx0] := by
  refine aw_aload_n (x := a2) d_Law_law_397 rfl ?_
  refine aw_aload_n (x := a0) d_Law_law_398 rfl ?_
  refine aw_iload_n (x := x3) d_Law_law_399 rfl ?_
  refine aw_iconst (v := (1 : Int32)) d_Law_law_400 (by decide) ?_
  refine aw_iadd d_Law_law_401 ?_
  obtain ⟨hk1, w⟩ := w
  obtain ⟨j2, hj2a, hj2b, w⟩ := w
  obtain ⟨hk3, w⟩ := w
  refine aw_sld j2 hk1 hj2a hj2b hk3 d_Law_law_402 ?_
  refine aw_aload_n (x := a0) d_Law_law_403 rfl ?_
  refine aw_iload_n (x := x3) d_Law_law_404 rfl ?_
  refine aw_iconst (v := (2 : Int32)) d_Law_law_405 (by decide) ?_
  refine aw_iadd d_Law_law_406 ?_
  obtain ⟨hk4, w⟩ := w
  obtain ⟨j5, hj5a, hj5b, w⟩ := w
  obtain ⟨hk6, w⟩ := w
  refine aw_sld j5 hk4 hj5a hj5b hk6 d_Law_law_407 ?_
  refine aw_if_eq (tgt := 415) d_Law_law_408 (by decide) (fun cc7 => ?_) (fun cc7 => ?_)
  · replace w := w.1 cc7
    refine aw_iconst (v := (0 : Int32)) d_Law_law_415 (by decide) ?_
    obtain ⟨hk8, w⟩ := w
    exact aw_room (cb' := 0 + cb) (sb' := 0 + sb) (by omega) (by omega) (aw_weak (lv' := [some (.ref a0), some (.ref a1), some (.ref a2), some (.int x3), none]) ⟨rfl, rfl, rfl, rfl, trivial⟩ (aw_callV (M' := m_Mo_exit) (lv0 := [some (.ref a2), some (.int (Int32.ofNat (E.2.1 (1000 + j2)))), some (.int (0 : Int32)), none]) (As := [.int (Int32.ofNat (E.2.1 (1000 + j2))), .int (0 : Int32)]) (rest := [.int sx0]) 8 1132 1133 1135 rfl (by decide) rfl hk8 tb_1132 tb_1133 tb_1135 (fun U hU => hU.t 1134 tb_1134 rfl) rfl rfl 2 1 rfl rfl ⟨by decide, by decide, by decide +kernel, by decide +kernel, by decide, by decide⟩ (Nat.le_of_ble_eq_true rfl) ⟨rfl, rfl, rfl, trivial⟩ rfl d_Law_law_416 w))
  · replace w := w.2 cc7
    refine aw_iconst (v := (1 : Int32)) d_Law_law_411 (by decide) ?_
    refine aw_goto (tgt := 416) d_Law_law_412 (by decide) ?_
    obtain ⟨hk9, w⟩ := w
    exact aw_room (cb' := 0 + cb) (sb' := 0 + sb) (by omega) (by omega) (aw_weak (lv' := [some (.ref a0), some (.ref a1), some (.ref a2), some (.int x3), none]) ⟨rfl, rfl, rfl, rfl, trivial⟩ (aw_callV (M' := m_Mo_exit) (lv0 := [some (.ref a2), some (.int (Int32.ofNat (E.2.1 (1000 + j2)))), some (.int (1 : Int32)), none]) (As := [.int (Int32.ofNat (E.2.1 (1000 + j2))), .int (1 : Int32)]) (rest := [.int sx0]) 8 1132 1133 1135 rfl (by decide) rfl hk9 tb_1132 tb_1133 tb_1135 (fun U hU => hU.t 1134 tb_1134 rfl) rfl rfl 2 1 rfl rfl ⟨by decide, by decide, by decide +kernel, by decide +kernel, by decide, by decide⟩ (Nat.le_of_ble_eq_true rfl) ⟨rfl, rfl, rfl, trivial⟩ rfl d_Law_law_416 w))
set_option maxRecDepth 20000 in
theorem r_Law_law_419 {E : zE} {K n : Nat → Nat} {I : Nat → Nat → Int32} {F : Nat → Nat → Option Nat} {J : Nat → Nat → Int64} {cb sb : Nat} {Q : zO → zH → Prop} {a0 : Nat} {a1 : Nat} {a2 : Nat} {x3 : Int32} {sx0 : Int32} {sx1 : Int32}
    (w : ((sx0 = sx1 → AW E m_Law_law (K, n, I, F, J) cb sb Q 18 [some (.ref a0), some (.ref a1), some (.ref a2), some (.int (x3 + (4 : Int32))), none] []) ∧ (¬ sx0 = sx1 → Q (.inl (some (.int (0 : Int32)))) (K, n, I, F, J)))) :
    AW E m_Law_law (K, n, I, F, J) cb sb Q 419 [some (.ref a0), some (.ref a1), some (.ref a2), some (.int x3), none] [.int sx1, .int sx0] := by
  refine aw_icmp_eq (tgt := 503) d_Law_law_419 (by decide) (fun cc1 => ?_) (fun cc1 => ?_)
  · replace w := w.1 cc1
    refine aw_iinc (v := (x3 + (4 : Int32))) d_Law_law_503 rfl (by rfl) (by decide) ?_
    refine aw_goto (tgt := 18) d_Law_law_506 (by decide) ?_
    exact aw_weak (lv' := [some (.ref a0), some (.ref a1), some (.ref a2), some (.int (x3 + (4 : Int32))), none]) ⟨rfl, rfl, rfl, rfl, trivial⟩ w
  · replace w := w.2 cc1
    refine aw_iconst (v := (0 : Int32)) d_Law_law_422 (by decide) ?_
    exact aw_ireturn .boolean rfl rfl d_Law_law_423 w
set_option maxRecDepth 20000 in
theorem r_Law_law_438 {E : zE} {K n : Nat → Nat} {I : Nat → Nat → Int32} {F : Nat → Nat → Option Nat} {J : Nat → Nat → Int64} {cb sb : Nat} {Q : zO → zH → Prop} {a0 : Nat} {a1 : Nat} {a2 : Nat} {x3 : Int32} {sx0 : Int32}
    (w : a0 = E.2.1 14 ∧ (∃ j2 : Nat, (x3 + (1 : Int32)) = nI j2 ∧ j2 < E.2.1 15 ∧ j2 < 2147483648 ∧ a0 = E.2.1 14 ∧ (∃ j5 : Nat, (x3 + (2 : Int32)) = nI j5 ∧ j5 < E.2.1 15 ∧ j5 < 2147483648 ∧ K a2 = 9 ∧ AW E m_Mo_total (K, n, I, F, J) 0 0 (zAft E m_Law_law cb sb Q 449 [some (.ref a0), some (.ref a1), some (.ref a2), some (.int x3), none] [.int sx0]) 0 [some (.ref a2), some (.int (Int32.ofNat (E.2.1 (1000 + j2)))), some (.int (Int32.ofNat (E.2.1 (1000 + j5)))), none, none] []))) :
    AW E m_Law_law (K, n, I, F, J) cb sb Q 438 [some (.ref a0), some (.ref a1), some (.ref a2), some (.int x3), none] [.int sx0] := by
  refine aw_aload_n (x := a2) d_Law_law_438 rfl ?_
  refine aw_aload_n (x := a0) d_Law_law_439 rfl ?_
  refine aw_iload_n (x := x3) d_Law_law_440 rfl ?_
  refine aw_iconst (v := (1 : Int32)) d_Law_law_441 (by decide) ?_
  refine aw_iadd d_Law_law_442 ?_
  obtain ⟨hk1, w⟩ := w
  obtain ⟨j2, hj2a, hj2b, w⟩ := w
  obtain ⟨hk3, w⟩ := w
  refine aw_sld j2 hk1 hj2a hj2b hk3 d_Law_law_443 ?_
  refine aw_aload_n (x := a0) d_Law_law_444 rfl ?_
  refine aw_iload_n (x := x3) d_Law_law_445 rfl ?_
  refine aw_iconst (v := (2 : Int32)) d_Law_law_446 (by decide) ?_
  refine aw_iadd d_Law_law_447 ?_
  obtain ⟨hk4, w⟩ := w
  obtain ⟨j5, hj5a, hj5b, w⟩ := w
  obtain ⟨hk6, w⟩ := w
  refine aw_sld j5 hk4 hj5a hj5b hk6 d_Law_law_448 ?_
  obtain ⟨hk7, w⟩ := w
  exact aw_room (cb' := 0 + cb) (sb' := 0 + sb) (by omega) (by omega) (aw_weak (lv' := [some (.ref a0), some (.ref a1), some (.ref a2), some (.int x3), none]) ⟨rfl, rfl, rfl, rfl, trivial⟩ (aw_callV (M' := m_Mo_total) (lv0 := [some (.ref a2), some (.int (Int32.ofNat (E.2.1 (1000 + j2)))), some (.int (Int32.ofNat (E.2.1 (1000 + j5)))), none, none]) (As := [.int (Int32.ofNat (E.2.1 (1000 + j2))), .int (Int32.ofNat (E.2.1 (1000 + j5)))]) (rest := [.int sx0]) 8 1136 1137 1139 rfl (by decide) rfl hk7 tb_1136 tb_1137 tb_1139 (fun U hU => hU.t 1138 tb_1138 rfl) rfl rfl 2 1 rfl rfl ⟨by decide, by decide, by decide +kernel, by decide +kernel, by decide, by decide⟩ (Nat.le_of_ble_eq_true rfl) ⟨rfl, rfl, rfl, trivial⟩ rfl d_Law_law_449 w))
set_option maxRecDepth 20000 in
theorem r_Law_law_452 {E : zE} {K n : Nat → Nat} {I : Nat → Nat → Int32} {F : Nat → Nat → Option Nat} {J : Nat → Nat → Int64} {cb sb : Nat} {Q : zO → zH → Prop} {a0 : Nat} {a1 : Nat} {a2 : Nat} {x3 : Int32} {sx0 : Int32} {sx1 : Int32}
    (w : ((sx0 = sx1 → AW E m_Law_law (K, n, I, F, J) cb sb Q 18 [some (.ref a0), some (.ref a1), some (.ref a2), some (.int (x3 + (4 : Int32))), none] []) ∧ (¬ sx0 = sx1 → Q (.inl (some (.int (0 : Int32)))) (K, n, I, F, J)))) :
    AW E m_Law_law (K, n, I, F, J) cb sb Q 452 [some (.ref a0), some (.ref a1), some (.ref a2), some (.int x3), none] [.int sx1, .int sx0] := by
  refine aw_icmp_eq (tgt := 503) d_Law_law_452 (by decide) (fun cc1 => ?_) (fun cc1 => ?_)
  · replace w := w.1 cc1
    refine aw_iinc (v := (x3 + (4 : Int32))) d_Law_law_503 rfl (by rfl) (by decide) ?_
    refine aw_goto (tgt := 18) d_Law_law_506 (by decide) ?_
    exact aw_weak (lv' := [some (.ref a0), some (.ref a1), some (.ref a2), some (.int (x3 + (4 : Int32))), none]) ⟨rfl, rfl, rfl, rfl, trivial⟩ w
  · replace w := w.2 cc1
    refine aw_iconst (v := (0 : Int32)) d_Law_law_455 (by decide) ?_
    exact aw_ireturn .boolean rfl rfl d_Law_law_456 w
set_option maxRecDepth 20000 in
theorem r_Law_law_466 {E : zE} {K n : Nat → Nat} {I : Nat → Nat → Int32} {F : Nat → Nat → Option Nat} {J : Nat → Nat → Int64} {cb sb : Nat} {Q : zO → zH → Prop} {a0 : Nat} {a1 : Nat} {a2 : Nat} {x3 : Int32} {sx0 : Int32}
    (w : a0 = E.2.1 14 ∧ (∃ j2 : Nat, (x3 + (1 : Int32)) = nI j2 ∧ j2 < E.2.1 15 ∧ j2 < 2147483648 ∧ K a2 = 9 ∧ AW E m_Mo_plain (K, n, I, F, J) 0 0 (zAft E m_Law_law cb sb Q 472 [some (.ref a0), some (.ref a1), some (.ref a2), some (.int x3), none] [.int sx0]) 0 [some (.ref a2), some (.int (Int32.ofNat (E.2.1 (1000 + j2)))), none, none, none, none] [])) :
    AW E m_Law_law (K, n, I, F, J) cb sb Q 466 [some (.ref a0), some (.ref a1), some (.ref a2), some (.int x3), none] [.int sx0] := by
  refine aw_aload_n (x := a2) d_Law_law_466 rfl ?_
  refine aw_aload_n (x := a0) d_Law_law_467 rfl ?_
  refine aw_iload_n (x := x3) d_Law_law_468 rfl ?_
  refine aw_iconst (v := (1 : Int32)) d_Law_law_469 (by decide) ?_
  refine aw_iadd d_Law_law_470 ?_
  obtain ⟨hk1, w⟩ := w
  obtain ⟨j2, hj2a, hj2b, w⟩ := w
  obtain ⟨hk3, w⟩ := w
  refine aw_sld j2 hk1 hj2a hj2b hk3 d_Law_law_471 ?_
  obtain ⟨hk4, w⟩ := w
  exact aw_room (cb' := 0 + cb) (sb' := 0 + sb) (by omega) (by omega) (aw_weak (lv' := [some (.ref a0), some (.ref a1), some (.ref a2), some (.int x3), none]) ⟨rfl, rfl, rfl, rfl, trivial⟩ (aw_callV (M' := m_Mo_plain) (lv0 := [some (.ref a2), some (.int (Int32.ofNat (E.2.1 (1000 + j2)))), none, none, none, none]) (As := [.int (Int32.ofNat (E.2.1 (1000 + j2)))]) (rest := [.int sx0]) 8 1140 1141 1143 rfl (by decide) rfl hk4 tb_1140 tb_1141 tb_1143 (fun U hU => hU.t 1142 tb_1142 rfl) rfl rfl 1 1 rfl rfl ⟨by decide, by decide, by decide +kernel, by decide +kernel, by decide, by decide⟩ (Nat.le_of_ble_eq_true rfl) ⟨rfl, rfl, trivial⟩ rfl d_Law_law_472 w))
set_option maxRecDepth 20000 in
theorem r_Law_law_475 {E : zE} {K n : Nat → Nat} {I : Nat → Nat → Int32} {F : Nat → Nat → Option Nat} {J : Nat → Nat → Int64} {cb sb : Nat} {Q : zO → zH → Prop} {a0 : Nat} {a1 : Nat} {a2 : Nat} {x3 : Int32} {sx0 : Int32} {sx1 : Int32}
    (w : ((sx0 = sx1 → AW E m_Law_law (K, n, I, F, J) cb sb Q 18 [some (.ref a0), some (.ref a1), some (.ref a2), some (.int (x3 + (4 : Int32))), none] []) ∧ (¬ sx0 = sx1 → Q (.inl (some (.int (0 : Int32)))) (K, n, I, F, J)))) :
    AW E m_Law_law (K, n, I, F, J) cb sb Q 475 [some (.ref a0), some (.ref a1), some (.ref a2), some (.int x3), none] [.int sx1, .int sx0] := by
  refine aw_icmp_eq (tgt := 503) d_Law_law_475 (by decide) (fun cc1 => ?_) (fun cc1 => ?_)
  · replace w := w.1 cc1
    refine aw_iinc (v := (x3 + (4 : Int32))) d_Law_law_503 rfl (by rfl) (by decide) ?_
    refine aw_goto (tgt := 18) d_Law_law_506 (by decide) ?_
    exact aw_weak (lv' := [some (.ref a0), some (.ref a1), some (.ref a2), some (.int (x3 + (4 : Int32))), none]) ⟨rfl, rfl, rfl, rfl, trivial⟩ w
  · replace w := w.2 cc1
    refine aw_iconst (v := (0 : Int32)) d_Law_law_478 (by decide) ?_
    exact aw_ireturn .boolean rfl rfl d_Law_law_479 w
set_option maxRecDepth 20000 in
theorem r_Law_law_489 {E : zE} {K n : Nat → Nat} {I : Nat → Nat → Int32} {F : Nat → Nat → Option Nat} {J : Nat → Nat → Int64} {cb sb : Nat} {Q : zO → zH → Prop} {a0 : Nat} {a1 : Nat} {a2 : Nat} {x3 : Int32} {sx0 : Int32}
    (w : a0 = E.2.1 14 ∧ (∃ j2 : Nat, (x3 + (1 : Int32)) = nI j2 ∧ j2 < E.2.1 15 ∧ j2 < 2147483648 ∧ K a2 = 9 ∧ AW E m_Mo_count (K, n, I, F, J) 0 0 (zAft E m_Law_law cb sb Q 495 [some (.ref a0), some (.ref a1), some (.ref a2), some (.int x3), none] [.int sx0]) 0 [some (.ref a2), some (.int (Int32.ofNat (E.2.1 (1000 + j2))))] [])) :
    AW E m_Law_law (K, n, I, F, J) cb sb Q 489 [some (.ref a0), some (.ref a1), some (.ref a2), some (.int x3), none] [.int sx0] := by
  refine aw_aload_n (x := a2) d_Law_law_489 rfl ?_
  refine aw_aload_n (x := a0) d_Law_law_490 rfl ?_
  refine aw_iload_n (x := x3) d_Law_law_491 rfl ?_
  refine aw_iconst (v := (1 : Int32)) d_Law_law_492 (by decide) ?_
  refine aw_iadd d_Law_law_493 ?_
  obtain ⟨hk1, w⟩ := w
  obtain ⟨j2, hj2a, hj2b, w⟩ := w
  obtain ⟨hk3, w⟩ := w
  refine aw_sld j2 hk1 hj2a hj2b hk3 d_Law_law_494 ?_
  obtain ⟨hk4, w⟩ := w
  exact aw_room (cb' := 0 + cb) (sb' := 0 + sb) (by omega) (by omega) (aw_weak (lv' := [some (.ref a0), some (.ref a1), some (.ref a2), some (.int x3), none]) ⟨rfl, rfl, rfl, rfl, trivial⟩ (aw_callV (M' := m_Mo_count) (lv0 := [some (.ref a2), some (.int (Int32.ofNat (E.2.1 (1000 + j2))))]) (As := [.int (Int32.ofNat (E.2.1 (1000 + j2)))]) (rest := [.int sx0]) 8 1144 1145 1147 rfl (by decide) rfl hk4 tb_1144 tb_1145 tb_1147 (fun U hU => hU.t 1146 tb_1146 rfl) rfl rfl 1 1 rfl rfl ⟨by decide, by decide, by decide +kernel, by decide +kernel, by decide, by decide⟩ (Nat.le_of_ble_eq_true rfl) ⟨rfl, rfl, trivial⟩ rfl d_Law_law_495 w))
set_option maxRecDepth 20000 in
theorem r_Law_law_498 {E : zE} {K n : Nat → Nat} {I : Nat → Nat → Int32} {F : Nat → Nat → Option Nat} {J : Nat → Nat → Int64} {cb sb : Nat} {Q : zO → zH → Prop} {a0 : Nat} {a1 : Nat} {a2 : Nat} {x3 : Int32} {sx0 : Int32} {sx1 : Int32}
    (w : ((sx0 = sx1 → AW E m_Law_law (K, n, I, F, J) cb sb Q 18 [some (.ref a0), some (.ref a1), some (.ref a2), some (.int (x3 + (4 : Int32))), none] []) ∧ (¬ sx0 = sx1 → Q (.inl (some (.int (0 : Int32)))) (K, n, I, F, J)))) :
    AW E m_Law_law (K, n, I, F, J) cb sb Q 498 [some (.ref a0), some (.ref a1), some (.ref a2), some (.int x3), none] [.int sx1, .int sx0] := by
  refine aw_icmp_eq (tgt := 503) d_Law_law_498 (by decide) (fun cc1 => ?_) (fun cc1 => ?_)
  · replace w := w.1 cc1
    refine aw_iinc (v := (x3 + (4 : Int32))) d_Law_law_503 rfl (by rfl) (by decide) ?_
    refine aw_goto (tgt := 18) d_Law_law_506 (by decide) ?_
    exact aw_weak (lv' := [some (.ref a0), some (.ref a1), some (.ref a2), some (.int (x3 + (4 : Int32))), none]) ⟨rfl, rfl, rfl, rfl, trivial⟩ w
  · replace w := w.2 cc1
    refine aw_iconst (v := (0 : Int32)) d_Law_law_501 (by decide) ?_
    exact aw_ireturn .boolean rfl rfl d_Law_law_502 w
