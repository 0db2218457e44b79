set_option maxRecDepth 20000 in
theorem r_Reader_init_0 {E : zE} {K n : Nat → Nat} {I : Nat → Nat → Int32} {F : Nat → Nat → Option Nat} {J : Nat → Nat → Int64} {cb sb : Nat} {Q : zO → zH → Prop} {a0 : Nat} {a1 : Nat} {x2 : Int32}
    (w : (∃ cb9 sb9 : Nat, cb9 + 1 ≤ cb ∧ sb9 + 8 ≤ sb ∧ ∀ q : Nat, K q = 0 → AW E m_Reader_init ((va_up K q 6), n, (va_up I q (fun _ => 0)), (va_up F q (fun _ => none)), J) cb9 sb9 Q 8 [some (.ref a0), some (.ref a1), some (.int x2)] [.ref q, .ref a0])) :
    AW E m_Reader_init (K, n, I, F, J) cb sb Q 0 [some (.ref a0), some (.ref a1), some (.int x2)] [] := by
  refine aw_aload_n (x := a0) d_Reader_init_0 rfl ?_
  refine aw_objInit 217 tb_217 (by decide) (by decide) d_Reader_init_1 ?_
  refine aw_aload_n (x := a0) d_Reader_init_4 rfl ?_
  obtain ⟨cb9, sb9, hq1, hq2, w⟩ := w
  exact aw_room hq1 hq2 (aw_weak (lv' := [some (.ref a0), some (.ref a1), some (.int x2)]) ⟨rfl, rfl, rfl, trivial⟩ (aw_new 5 (T := zt_Statements) zy_Statements rfl (by decide) zin_Statements zyo_Statements 218 38 2 tb_218 tb_38 tb_2 (by decide) d_Reader_init_5 w))
set_option maxRecDepth 20000 in
theorem r_Reader_init_8 {E : zE} {K n : Nat → Nat} {I : Nat → Nat → Int32} {F : Nat → Nat → Option Nat} {J : Nat → Nat → Int64} {cb sb : Nat} {Q : zO → zH → Prop} {a0 : Nat} {a1 : Nat} {x2 : Int32} {sa0 : Nat} {sa1 : Nat}
    (w : (∃ c1 s1 c2 s2 : Nat, c1 + c2 ≤ cb ∧ s1 + s2 ≤ sb ∧ AW E m_Statements_init (K, n, I, F, J) c1 s1 (zAft E m_Reader_init c2 s2 Q 9 [some (.ref a0), some (.ref a1), some (.int x2)] [.ref sa1, .ref sa0]) 0 [some (.ref sa1)] [])) :
    AW E m_Reader_init (K, n, I, F, J) cb sb Q 8 [some (.ref a0), some (.ref a1), some (.int x2)] [.ref sa1, .ref sa0] := by
  refine aw_dup d_Reader_init_8 rfl ?_
  obtain ⟨c1, s1, c2, s2, hq1, hq2, w⟩ := w
  exact aw_room hq1 hq2 (aw_weak (lv' := [some (.ref a0), some (.ref a1), some (.int x2)]) ⟨rfl, rfl, rfl, trivial⟩ (aw_callIN (M' := m_Statements_init) (lv0 := [some (.ref sa1)]) (As := []) (rest := [.ref sa1, .ref sa0]) 219 40 41 "SortUtility" tb_219 tb_40 tb_41 rfl rfl rfl rfl 0 2 rfl rfl ⟨by decide, by decide, by decide +kernel, by decide +kernel, by decide, by decide⟩ (Nat.le_of_ble_eq_true rfl) ⟨rfl, trivial⟩ rfl d_Reader_init_9 w))
set_option maxRecDepth 20000 in
theorem r_Reader_init_12 {E : zE} {K n : Nat → Nat} {I : Nat → Nat → Int32} {F : Nat → Nat → Option Nat} {J : Nat → Nat → Int64} {cb sb : Nat} {Q : zO → zH → Prop} {a0 : Nat} {a1 : Nat} {x2 : Int32} {sa0 : Nat} {sa1 : Nat}
    (w : K sa0 = 3 ∧ K a0 = 3 ∧ (20 ≤ K a1 ∧ K a1 ≤ 23) ∧ AW E m_Math_min (K, n, (zup (zup I a0 3 (0 : Int32)) a0 4 (0 : Int32)), (zup (zup F sa0 2 (some sa1)) a0 0 (some a1)), J) 0 0 (zAft E m_Reader_init cb sb Q 34 [none, none, none] [.ref a0]) 0 [some (.int x2), some (.int (nI (n a1)))] []) :
    AW E m_Reader_init (K, n, I, F, J) cb sb Q 12 [some (.ref a0), some (.ref a1), some (.int x2)] [.ref sa1, .ref sa0] := by
  obtain ⟨hk1, w⟩ := w
  refine pf_Reader_12 (r := (some sa1)) rfl hk1 rfl d_Reader_init_12 ?_
  refine aw_aload_n (x := a0) d_Reader_init_15 rfl ?_
  refine aw_iconst (v := (0 : Int32)) d_Reader_init_16 (by decide) ?_
  obtain ⟨hk2, w⟩ := w
  refine pf_Reader_18 rfl hk2 d_Reader_init_17 ?_
  refine aw_aload_n (x := a0) d_Reader_init_20 rfl ?_
  refine aw_iconst (v := (0 : Int32)) d_Reader_init_21 (by decide) ?_
  refine pf_Reader_22 rfl hk2 d_Reader_init_22 ?_
  refine aw_aload_n (x := a0) d_Reader_init_25 rfl ?_
  refine aw_aload_n (x := a1) d_Reader_init_26 rfl ?_
  refine pf_Reader_25 (r := (some a1)) rfl hk2 rfl d_Reader_init_27 ?_
  refine aw_aload_n (x := a0) d_Reader_init_30 rfl ?_
  refine aw_iload_n (x := x2) d_Reader_init_31 rfl ?_
  refine aw_aload_n (x := a1) d_Reader_init_32 rfl ?_
  obtain ⟨hk3, w⟩ := w
  refine aw_alen hk3.1 hk3.2 d_Reader_init_33 ?_
  exact aw_room (cb' := 0 + cb) (sb' := 0 + sb) (by omega) (by omega) (aw_weak (lv' := [none, none, none]) trivial (aw_callS (M' := m_Math_min) (lv0 := [some (.int x2), some (.int (nI (n a1)))]) (As := [.int x2, .int (nI (n a1))]) (rest := [.ref a0]) 220 221 222 10 tb_220 tb_221 tb_222 tb_10 rfl rfl 2 1 rfl rfl ⟨by decide, by decide, by decide +kernel, by decide +kernel, by decide, by decide⟩ (Nat.le_of_ble_eq_true rfl) ⟨rfl, rfl, trivial⟩ rfl d_Reader_init_34 w))
set_option maxRecDepth 20000 in
theorem r_Reader_init_37 {E : zE} {K n : Nat → Nat} {I : Nat → Nat → Int32} {F : Nat → Nat → Option Nat} {J : Nat → Nat → Int64} {cb sb : Nat} {Q : zO → zH → Prop} {sa0 : Nat} {sx1 : Int32}
    (w : K sa0 = 3 ∧ Q (.inl none) (K, n, (zup I sa0 1 sx1), F, J)) :
    AW E m_Reader_init (K, n, I, F, J) cb sb Q 37 [none, none, none] [.int sx1, .ref sa0] := by
  obtain ⟨hk1, w⟩ := w
  refine pf_Reader_35 rfl hk1 rfl d_Reader_init_37 ?_
  exact aw_return rfl d_Reader_init_40 w
set_option maxRecDepth 20000 in
theorem r_Reader_readAll_0 {E : zE} {K n : Nat → Nat} {I : Nat → Nat → Int32} {F : Nat → Nat → Option Nat} {J : Nat → Nat → Int64} {cb sb : Nat} {Q : zO → zH → Prop} {a0 : Nat}
    (w : K a0 = 3 ∧ (∃ b2 : Nat, F a0 2 = some b2 ∧ K b2 = 6 ∧ (((I a0 1) ≤ (I b2 7) → Q (.inl (some (.ref b2))) (K, n, I, F, J)) ∧ (¬ (I a0 1) ≤ (I b2 7) → AW E m_Reader_hasMore (K, n, I, F, J) 0 0 (zAft E m_Reader_readAll cb sb Q 15 [some (.ref a0)] []) 0 [some (.ref a0)] [])))) :
    AW E m_Reader_readAll (K, n, I, F, J) cb sb Q 0 [some (.ref a0)] [] := by
  refine aw_aload_n (x := a0) d_Reader_readAll_0 rfl ?_
  obtain ⟨hk1, w⟩ := w
  obtain ⟨b2, hb2, w⟩ := w
  refine gs_Reader_12 rfl hk1 hb2 d_Reader_readAll_1 ?_
  obtain ⟨hk3, w⟩ := w
  refine gf_Reader_38 rfl hk3 d_Reader_readAll_4 ?_
  refine aw_aload_n (x := a0) d_Reader_readAll_7 rfl ?_
  refine gf_Reader_35 rfl hk1 d_Reader_readAll_8 ?_
  refine aw_icmp_ge (tgt := 52) d_Reader_readAll_11 (by decide) (fun cc4 => ?_) (fun cc4 => ?_)
  · replace w := w.1 cc4
    refine aw_aload_n (x := a0) d_Reader_readAll_52 rfl ?_
    refine gs_Reader_12 rfl hk1 hb2 d_Reader_readAll_53 ?_
    exact aw_areturn (r := (some b2)) _ rfl rfl d_Reader_readAll_56 w
  · replace w := w.2 cc4
    refine aw_aload_n (x := a0) d_Reader_readAll_14 rfl ?_
    exact aw_room (cb' := 0 + cb) (sb' := 0 + sb) (by omega) (by omega) (aw_weak (lv' := [some (.ref a0)]) ⟨rfl, trivial⟩ (aw_callV (M' := m_Reader_hasMore) (lv0 := [some (.ref a0)]) (As := []) (rest := []) 2 244 246 247 rfl (by decide) rfl hk1 tb_244 tb_246 tb_247 (fun U hU => hU.p 0 rfl) rfl rfl 0 0 rfl rfl ⟨by decide, by decide, by decide +kernel, by decide +kernel, by decide, by decide⟩ (Nat.le_of_ble_eq_true rfl) ⟨rfl, trivial⟩ rfl d_Reader_readAll_15 w))
set_option maxRecDepth 20000 in
theorem r_Reader_readAll_18 {E : zE} {K n : Nat → Nat} {I : Nat → Nat → Int32} {F : Nat → Nat → Option Nat} {J : Nat → Nat → Int64} {cb sb : Nat} {Q : zO → zH → Prop} {a0 : Nat} {sx0 : Int32}
    (w : ((sx0 = 0 → K a0 = 3 ∧ (∃ b3 : Nat, F a0 2 = some b3 ∧ Q (.inl (some (.ref b3))) (K, n, I, F, J))) ∧ (¬ sx0 = 0 → K a0 = 3 ∧ (∃ c1 s1 c2 s2 : Nat, c1 + c2 ≤ cb ∧ s1 + s2 ≤ sb ∧ AW E m_Reader_readWord (K, n, I, F, J) c1 s1 (zAft E m_Reader_readAll c2 s2 Q 23 [some (.ref a0)] [.ref a0]) 0 [some (.ref a0), none, none, none] [])))) :
    AW E m_Reader_readAll (K, n, I, F, J) cb sb Q 18 [some (.ref a0)] [.int sx0] := by
  refine aw_if_eq (tgt := 52) d_Reader_readAll_18 (by decide) (fun cc1 => ?_) (fun cc1 => ?_)
  · replace w := w.1 cc1
    refine aw_aload_n (x := a0) d_Reader_readAll_52 rfl ?_
    obtain ⟨hk2, w⟩ := w
    obtain ⟨b3, hb3, w⟩ := w
    refine gs_Reader_12 rfl hk2 hb3 d_Reader_readAll_53 ?_
    exact aw_areturn (r := (some b3)) _ rfl rfl d_Reader_readAll_56 w
  · replace w := w.2 cc1
    refine aw_aload_n (x := a0) d_Reader_readAll_21 rfl ?_
    refine aw_aload_n (x := a0) d_Reader_readAll_22 rfl ?_
    obtain ⟨hk4, w⟩ := w
    obtain ⟨c1, s1, c2, s2, hq1, hq2, w⟩ := w
    exact aw_room hq1 hq2 (aw_weak (lv' := [some (.ref a0)]) ⟨rfl, trivial⟩ (aw_callV (M' := m_Reader_readWord) (lv0 := [some (.ref a0), none, none, none]) (As := []) (rest := [.ref a0]) 2 252 254 255 rfl (by decide) rfl hk4 tb_252 tb_254 tb_255 (fun U hU => hU.p 2 rfl) rfl rfl 0 1 rfl rfl ⟨by decide, by decide, by decide +kernel, by decide +kernel, by decide, by decide⟩ (Nat.le_of_ble_eq_true rfl) ⟨rfl, trivial⟩ rfl d_Reader_readAll_23 w))
set_option maxRecDepth 20000 in
theorem r_Reader_readAll_26 {E : zE} {K n : Nat → Nat} {I : Nat → Nat → Int32} {F : Nat → Nat → Option Nat} {J : Nat → Nat → Int64} {cb sb : Nat} {Q : zO → zH → Prop} {a0 : Nat} {sa0 : Nat} {sa1 : Nat}
    (w : K sa0 = 3 ∧ (∃ c1 s1 c2 s2 : Nat, c1 + c2 ≤ cb ∧ s1 + s2 ≤ sb ∧ AW E m_Reader_readSaid (K, n, I, F, J) c1 s1 (zAft E m_Reader_readAll c2 s2 Q 26 [some (.ref a0)] []) 0 [some (.ref sa0), some (.ref sa1)] [])) :
    AW E m_Reader_readAll (K, n, I, F, J) cb sb Q 26 [some (.ref a0)] [.ref sa1, .ref sa0] := by
  obtain ⟨hk1, w⟩ := w
  obtain ⟨c1, s1, c2, s2, hq1, hq2, w⟩ := w
  exact aw_room hq1 hq2 (aw_weak (lv' := [some (.ref a0)]) ⟨rfl, trivial⟩ (aw_callV (M' := m_Reader_readSaid) (lv0 := [some (.ref sa0), some (.ref sa1)]) (As := [.ref sa1]) (rest := []) 2 379 381 382 rfl (by decide) rfl hk1 tb_379 tb_381 tb_382 (fun U hU => hU.p 5 rfl) rfl rfl 1 0 rfl rfl ⟨by decide, by decide, by decide +kernel, by decide +kernel, by decide, by decide⟩ (Nat.le_of_ble_eq_true rfl) ⟨rfl, rfl, trivial⟩ rfl d_Reader_readAll_26 w))
set_option maxRecDepth 20000 in
theorem r_Reader_readAll_29 {E : zE} {K n : Nat → Nat} {I : Nat → Nat → Int32} {F : Nat → Nat → Option Nat} {J : Nat → Nat → Int64} {cb sb : Nat} {Q : zO → zH → Prop} {a0 : Nat}
    (w : K a0 = 3 ∧ (∃ c1 s1 c2 s2 : Nat, c1 + c2 ≤ cb ∧ s1 + s2 ≤ sb ∧ AW E m_Reader_take (K, n, I, F, J) c1 s1 (zAft E m_Reader_readAll c2 s2 Q 32 [some (.ref a0)] []) 0 [some (.ref a0), some (.ref (E.2.1 (100 + 19))), none, none] [])) :
    AW E m_Reader_readAll (K, n, I, F, J) cb sb Q 29 [some (.ref a0)] [] := by
  refine aw_aload_n (x := a0) d_Reader_readAll_29 rfl ?_
  refine aw_ldcS 19 (by decide) rfl rfl d_Reader_readAll_30 ?_
  obtain ⟨hk1, w⟩ := w
  obtain ⟨c1, s1, c2, s2, hq1, hq2, w⟩ := w
  exact aw_room hq1 hq2 (aw_weak (lv' := [some (.ref a0)]) ⟨rfl, trivial⟩ (aw_callV (M' := m_Reader_take) (lv0 := [some (.ref a0), some (.ref (E.2.1 (100 + 19))), none, none]) (As := [.ref (E.2.1 (100 + 19))]) (rest := []) 2 408 410 411 rfl (by decide) rfl hk1 tb_408 tb_410 tb_411 (fun U hU => hU.p 9 rfl) rfl rfl 1 0 rfl rfl ⟨by decide, by decide, by decide +kernel, by decide +kernel, by decide, by decide⟩ (Nat.le_of_ble_eq_true rfl) ⟨rfl, rfl, trivial⟩ rfl d_Reader_readAll_32 w))
set_option maxRecDepth 20000 in
theorem r_Reader_readAll_35 {E : zE} {K n : Nat → Nat} {I : Nat → Nat → Int32} {F : Nat → Nat → Option Nat} {J : Nat → Nat → Int64} {cb sb : Nat} {Q : zO → zH → Prop} {a0 : Nat} {sx0 : Int32}
    (w : K a0 = 3 ∧ (∃ b2 : Nat, F a0 2 = some b2 ∧ K b2 = 6 ∧ AW E m_Reader_readAll (K, n, (zup I b2 7 ((I b2 7) + (1 : Int32))), F, J) cb sb Q 0 [some (.ref a0)] [])) :
    AW E m_Reader_readAll (K, n, I, F, J) cb sb Q 35 [some (.ref a0)] [.int sx0] := by
  refine aw_pop d_Reader_readAll_35 rfl ?_
  refine aw_aload_n (x := a0) d_Reader_readAll_36 rfl ?_
  obtain ⟨hk1, w⟩ := w
  obtain ⟨b2, hb2, w⟩ := w
  refine gs_Reader_12 rfl hk1 hb2 d_Reader_readAll_37 ?_
  refine aw_dup d_Reader_readAll_40 rfl ?_
  obtain ⟨hk3, w⟩ := w
  refine gf_Reader_38 rfl hk3 d_Reader_readAll_41 ?_
  refine aw_iconst (v := (1 : Int32)) d_Reader_readAll_44 (by decide) ?_
  refine aw_iadd d_Reader_readAll_45 ?_
  refine pf_Reader_38 rfl hk3 d_Reader_readAll_46 ?_
  refine aw_goto (tgt := 0) d_Reader_readAll_49 (by decide) ?_
  exact aw_weak (lv' := [some (.ref a0)]) ⟨rfl, trivial⟩ w
set_option maxRecDepth 20000 in
theorem r_Reader_readSaid_0 {E : zE} {K n : Nat → Nat} {I : Nat → Nat → Int32} {F : Nat → Nat → Option Nat} {J : Nat → Nat → Int64} {cb sb : Nat} {Q : zO → zH → Prop} {a0 : Nat} {a1 : Nat}
    (w : (∃ u1 : Nat, u1 < 7 ∧ a1 = E.2.1 (20 + u1) ∧ (∃ j2 : Nat, (nI u1) = nI j2 ∧ j2 < 7 ∧ (((if j2 = 6 then 0 else nI (j2 + 1)) = 1 → K a0 = 3 ∧ (∃ c1 s1 c2 s2 : Nat, c1 + c2 ≤ cb ∧ s1 + s2 ≤ sb ∧ AW E m_Reader_readKeys (K, n, I, F, J) c1 s1 (zAft E m_Reader_readSaid c2 s2 Q 49 [none, none] []) 0 [some (.ref a0), none, none, none] [])) ∧ ((if j2 = 6 then 0 else nI (j2 + 1)) = 2 → K a0 = 3 ∧ (∃ c1 s1 c2 s2 : Nat, c1 + c2 ≤ cb ∧ s1 + s2 ≤ sb ∧ AW E m_Reader_readTests (K, n, I, F, J) c1 s1 (zAft E m_Reader_readSaid c2 s2 Q 56 [none, none] []) 0 [some (.ref a0), none, none, none, none, none, none] [])) ∧ ((if j2 = 6 then 0 else nI (j2 + 1)) = 3 → K a0 = 3 ∧ (∃ b7 : Nat, F a0 2 = some b7 ∧ K b7 = 6 ∧ (∃ c1 s1 c2 s2 : Nat, c1 + c2 ≤ cb ∧ s1 + s2 ≤ sb ∧ AW E m_Reader_readTests (K, n, (zup I b7 4 (1 : Int32)), F, J) c1 s1 (zAft E m_Reader_readSaid c2 s2 Q 71 [none, none] []) 0 [some (.ref a0), none, none, none, none, none, none] []))) ∧ ((if j2 = 6 then 0 else nI (j2 + 1)) = 4 → K a0 = 3 ∧ (∃ c1 s1 c2 s2 : Nat, c1 + c2 ≤ cb ∧ s1 + s2 ≤ sb ∧ AW E m_Reader_readSums (K, n, I, F, J) c1 s1 (zAft E m_Reader_readSaid c2 s2 Q 78 [none, none] []) 0 [some (.ref a0)] [])) ∧ ((if j2 = 6 then 0 else nI (j2 + 1)) = 5 → K a0 = 3 ∧ (∃ c1 s1 c2 s2 : Nat, c1 + c2 ≤ cb ∧ s1 + s2 ≤ sb ∧ AW E m_Reader_readPieces (K, n, I, F, J) c1 s1 (zAft E m_Reader_readSaid c2 s2 Q 85 [none, none] []) 0 [some (.ref a0), none] [])) ∧ ((if j2 = 6 then 0 else nI (j2 + 1)) = 6 → K a0 = 3 ∧ (∃ b12 : Nat, F a0 2 = some b12 ∧ (∃ c1 s1 c2 s2 : Nat, c1 + c2 ≤ cb ∧ s1 + s2 ≤ sb ∧ AW E m_Reader_readNumber (K, n, I, F, J) c1 s1 (zAft E m_Reader_readSaid c2 s2 Q 100 [none, none] [.ref b12]) 0 [some (.ref a0), some (.int (0 : Int32)), some (.int (9999 : Int32)), none, none, none] []))) ∧ (¬ (if j2 = 6 then 0 else nI (j2 + 1)) = 1 → ¬ (if j2 = 6 then 0 else nI (j2 + 1)) = 2 → ¬ (if j2 = 6 then 0 else nI (j2 + 1)) = 3 → ¬ (if j2 = 6 then 0 else nI (j2 + 1)) = 4 → ¬ (if j2 = 6 then 0 else nI (j2 + 1)) = 5 → ¬ (if j2 = 6 then 0 else nI (j2 + 1)) = 6 → K a0 = 3 ∧ (∃ b14 : Nat, F a0 2 = some b14 ∧ (∃ c1 s1 c2 s2 : Nat, c1 + c2 ≤ cb ∧ s1 + s2 ≤ sb ∧ AW E m_Reader_readNumber (K, n, I, F, J) c1 s1 (zAft E m_Reader_readSaid c2 s2 Q 118 [none, none] [.ref b14]) 0 [some (.ref a0), some (.int (0 : Int32)), some (.int (9999 : Int32)), none, none, none] []))))))) :
    AW E m_Reader_readSaid (K, n, I, F, J) cb sb Q 0 [some (.ref a0), some (.ref a1)] [] := by
  refine aw_getsZ 8 383 (fun _ q => q) tb_383 d_Reader_readSaid_0 ?_
  refine aw_aload_n (x := a1) d_Reader_readSaid_3 rfl ?_
  obtain ⟨u1, hu1, eu1, w⟩ := w
  subst eu1
  refine aw_ord hu1 ?_ (Nat.le_of_ble_eq_true rfl)
  obtain ⟨j2, hj2a, hj2b, w⟩ := w
  refine aw_ialdC (f := fun j => .int (if j = 6 then 0 else nI (j + 1))) j2 (fun U q => q 9) hj2a hj2b (by decide) d_Reader_readSaid_7 ?_
  by_cases cc3_0 : (if j2 = 6 then 0 else nI (j2 + 1)) = 1
  · replace w := w.1 cc3_0
    refine aw_tableIn (off := 40) (tgt := 48) d_Reader_readSaid_8 (by rw [cc3_0]; decide) (by rw [cc3_0]; decide) (by rw [cc3_0]; rfl) (by decide) ?_
    refine aw_aload_n (x := a0) d_Reader_readSaid_48 rfl ?_
    obtain ⟨hk4, w⟩ := w
    obtain ⟨c1, s1, c2, s2, hq1, hq2, w⟩ := w
    exact aw_room hq1 hq2 (aw_weak (lv' := [none, none]) trivial (aw_callV (M' := m_Reader_readKeys) (lv0 := [some (.ref a0), none, none, none]) (As := []) (rest := []) 2 391 393 394 rfl (by decide) rfl hk4 tb_391 tb_393 tb_394 (fun U hU => hU.p 6 rfl) rfl rfl 0 0 rfl rfl ⟨by decide, by decide, by decide +kernel, by decide +kernel, by decide, by decide⟩ (Nat.le_of_ble_eq_true rfl) ⟨rfl, trivial⟩ rfl d_Reader_readSaid_49 w))
  by_cases cc3_1 : (if j2 = 6 then 0 else nI (j2 + 1)) = 2
  · replace w := w.2.1 cc3_1
    refine aw_tableIn (off := 47) (tgt := 55) d_Reader_readSaid_8 (by rw [cc3_1]; decide) (by rw [cc3_1]; decide) (by rw [cc3_1]; rfl) (by decide) ?_
    refine aw_aload_n (x := a0) d_Reader_readSaid_55 rfl ?_
    obtain ⟨hk5, w⟩ := w
    obtain ⟨c1, s1, c2, s2, hq1, hq2, w⟩ := w
    exact aw_room hq1 hq2 (aw_weak (lv' := [none, none]) trivial (aw_callV (M' := m_Reader_readTests) (lv0 := [some (.ref a0), none, none, none, none, none, none]) (As := []) (rest := []) 2 518 520 521 rfl (by decide) rfl hk5 tb_518 tb_520 tb_521 (fun U hU => hU.p 13 rfl) rfl rfl 0 0 rfl rfl ⟨by decide, by decide, by decide +kernel, by decide +kernel, by decide, by decide⟩ (Nat.le_of_ble_eq_true rfl) ⟨rfl, trivial⟩ rfl d_Reader_readSaid_56 w))
  by_cases cc3_2 : (if j2 = 6 then 0 else nI (j2 + 1)) = 3
  · replace w := w.2.2.1 cc3_2
    refine aw_tableIn (off := 54) (tgt := 62) d_Reader_readSaid_8 (by rw [cc3_2]; decide) (by rw [cc3_2]; decide) (by rw [cc3_2]; rfl) (by decide) ?_
    refine aw_aload_n (x := a0) d_Reader_readSaid_62 rfl ?_
    obtain ⟨hk6, w⟩ := w
    obtain ⟨b7, hb7, w⟩ := w
    refine gs_Reader_12 rfl hk6 hb7 d_Reader_readSaid_63 ?_
    refine aw_iconst (v := (1 : Int32)) d_Reader_readSaid_66 (by decide) ?_
    obtain ⟨hk8, w⟩ := w
    refine pf_Reader_76 rfl hk8 (by decide) d_Reader_readSaid_67 ?_
    refine aw_aload_n (x := a0) d_Reader_readSaid_70 rfl ?_
    obtain ⟨c1, s1, c2, s2, hq1, hq2, w⟩ := w
    exact aw_room hq1 hq2 (aw_weak (lv' := [none, none]) trivial (aw_callV (M' := m_Reader_readTests) (lv0 := [some (.ref a0), none, none, none, none, none, none]) (As := []) (rest := []) 2 518 520 521 rfl (by decide) rfl hk6 tb_518 tb_520 tb_521 (fun U hU => hU.p 13 rfl) rfl rfl 0 0 rfl rfl ⟨by decide, by decide, by decide +kernel, by decide +kernel, by decide, by decide⟩ (Nat.le_of_ble_eq_true rfl) ⟨rfl, trivial⟩ rfl d_Reader_readSaid_71 w))
  by_cases cc3_3 : (if j2 = 6 then 0 else nI (j2 + 1)) = 4
  · replace w := w.2.2.2.1 cc3_3
    refine aw_tableIn (off := 69) (tgt := 77) d_Reader_readSaid_8 (by rw [cc3_3]; decide) (by rw [cc3_3]; decide) (by rw [cc3_3]; rfl) (by decide) ?_
    refine aw_aload_n (x := a0) d_Reader_readSaid_77 rfl ?_
    obtain ⟨hk9, w⟩ := w
    obtain ⟨c1, s1, c2, s2, hq1, hq2, w⟩ := w
    exact aw_room hq1 hq2 (aw_weak (lv' := [none, none]) trivial (aw_callV (M' := m_Reader_readSums) (lv0 := [some (.ref a0)]) (As := []) (rest := []) 2 557 559 560 rfl (by decide) rfl hk9 tb_557 tb_559 tb_560 (fun U hU => hU.p 15 rfl) rfl rfl 0 0 rfl rfl ⟨by decide, by decide, by decide +kernel, by decide +kernel, by decide, by decide⟩ (Nat.le_of_ble_eq_true rfl) ⟨rfl, trivial⟩ rfl d_Reader_readSaid_78 w))
  by_cases cc3_4 : (if j2 = 6 then 0 else nI (j2 + 1)) = 5
  · replace w := w.2.2.2.2.1 cc3_4
    refine aw_tableIn (off := 76) (tgt := 84) d_Reader_readSaid_8 (by rw [cc3_4]; decide) (by rw [cc3_4]; decide) (by rw [cc3_4]; rfl) (by decide) ?_
    refine aw_aload_n (x := a0) d_Reader_readSaid_84 rfl ?_
    obtain ⟨hk10, w⟩ := w
    obtain ⟨c1, s1, c2, s2, hq1, hq2, w⟩ := w
    exact aw_room hq1 hq2 (aw_weak (lv' := [none, none]) trivial (aw_callV (M' := m_Reader_readPieces) (lv0 := [some (.ref a0), none]) (As := []) (rest := []) 2 561 563 564 rfl (by decide) rfl hk10 tb_561 tb_563 tb_564 (fun U hU => hU.p 16 rfl) rfl rfl 0 0 rfl rfl ⟨by decide, by decide, by decide +kernel, by decide +kernel, by decide, by decide⟩ (Nat.le_of_ble_eq_true rfl) ⟨rfl, trivial⟩ rfl d_Reader_readSaid_85 w))
  by_cases cc3_5 : (if j2 = 6 then 0 else nI (j2 + 1)) = 6
  · replace w := w.2.2.2.2.2.1 cc3_5
    refine aw_tableIn (off := 83) (tgt := 91) d_Reader_readSaid_8 (by rw [cc3_5]; decide) (by rw [cc3_5]; decide) (by rw [cc3_5]; rfl) (by decide) ?_
    refine aw_aload_n (x := a0) d_Reader_readSaid_91 rfl ?_
    obtain ⟨hk11, w⟩ := w
    obtain ⟨b12, hb12, w⟩ := w
    refine gs_Reader_12 rfl hk11 hb12 d_Reader_readSaid_92 ?_
    refine aw_aload_n (x := a0) d_Reader_readSaid_95 rfl ?_
    refine aw_iconst (v := (0 : Int32)) d_Reader_readSaid_96 (by decide) ?_
    refine aw_sipush (v := (9999 : Int32)) d_Reader_readSaid_97 (by decide) ?_
    obtain ⟨c1, s1, c2, s2, hq1, hq2, w⟩ := w
    exact aw_room hq1 hq2 (aw_weak (lv' := [none, none]) trivial (aw_callV (M' := m_Reader_readNumber) (lv0 := [some (.ref a0), some (.int (0 : Int32)), some (.int (9999 : Int32)), none, none, none]) (As := [.int (0 : Int32), .int (9999 : Int32)]) (rest := [.ref b12]) 2 399 401 402 rfl (by decide) rfl hk11 tb_399 tb_401 tb_402 (fun U hU => hU.p 8 rfl) rfl rfl 2 1 rfl rfl ⟨by decide, by decide, by decide +kernel, by decide +kernel, by decide, by decide⟩ (Nat.le_of_ble_eq_true rfl) ⟨rfl, rfl, rfl, trivial⟩ rfl d_Reader_readSaid_100 w))
  replace w := w.2.2.2.2.2.2 cc3_0 cc3_1 cc3_2 cc3_3 cc3_4 cc3_5
  have cc3_0_t : ¬ (if j2 = 6 then 0 else nI (j2 + 1)).toInt = 1 := lv_neT cc3_0 rfl
  have cc3_1_t : ¬ (if j2 = 6 then 0 else nI (j2 + 1)).toInt = 2 := lv_neT cc3_1 rfl
  have cc3_2_t : ¬ (if j2 = 6 then 0 else nI (j2 + 1)).toInt = 3 := lv_neT cc3_2 rfl
  have cc3_3_t : ¬ (if j2 = 6 then 0 else nI (j2 + 1)).toInt = 4 := lv_neT cc3_3 rfl
  have cc3_4_t : ¬ (if j2 = 6 then 0 else nI (j2 + 1)).toInt = 5 := lv_neT cc3_4 rfl
  have cc3_5_t : ¬ (if j2 = 6 then 0 else nI (j2 + 1)).toInt = 6 := lv_neT cc3_5 rfl
  refine aw_tableOut (tgt := 109) d_Reader_readSaid_8 (by omega) (by decide) ?_
  refine aw_aload_n (x := a0) d_Reader_readSaid_109 rfl ?_
  obtain ⟨hk13, w⟩ := w
  obtain ⟨b14, hb14, w⟩ := w
  refine gs_Reader_12 rfl hk13 hb14 d_Reader_readSaid_110 ?_
  refine aw_aload_n (x := a0) d_Reader_readSaid_113 rfl ?_
  refine aw_iconst (v := (0 : Int32)) d_Reader_readSaid_114 (by decide) ?_
  refine aw_sipush (v := (9999 : Int32)) d_Reader_readSaid_115 (by decide) ?_
  obtain ⟨c1, s1, c2, s2, hq1, hq2, w⟩ := w
  exact aw_room hq1 hq2 (aw_weak (lv' := [none, none]) trivial (aw_callV (M' := m_Reader_readNumber) (lv0 := [some (.ref a0), some (.int (0 : Int32)), some (.int (9999 : Int32)), none, none, none]) (As := [.int (0 : Int32), .int (9999 : Int32)]) (rest := [.ref b14]) 2 399 401 402 rfl (by decide) rfl hk13 tb_399 tb_401 tb_402 (fun U hU => hU.p 8 rfl) rfl rfl 2 1 rfl rfl ⟨by decide, by decide, by decide +kernel, by decide +kernel, by decide, by decide⟩ (Nat.le_of_ble_eq_true rfl) ⟨rfl, rfl, rfl, trivial⟩ rfl d_Reader_readSaid_118 w))
set_option maxRecDepth 20000 in
theorem r_Reader_readSaid_52 {E : zE} {K n : Nat → Nat} {I : Nat → Nat → Int32} {F : Nat → Nat → Option Nat} {J : Nat → Nat → Int64} {cb sb : Nat} {Q : zO → zH → Prop}
    (w : Q (.inl none) (K, n, I, F, J)) :
    AW E m_Reader_readSaid (K, n, I, F, J) cb sb Q 52 [none, none] [] := by
  refine aw_goto (tgt := 124) d_Reader_readSaid_52 (by decide) ?_
  exact aw_return rfl d_Reader_readSaid_124 w
set_option maxRecDepth 20000 in
theorem r_Reader_readSaid_59 {E : zE} {K n : Nat → Nat} {I : Nat → Nat → Int32} {F : Nat → Nat → Option Nat} {J : Nat → Nat → Int64} {cb sb : Nat} {Q : zO → zH → Prop}
    (w : Q (.inl none) (K, n, I, F, J)) :
    AW E m_Reader_readSaid (K, n, I, F, J) cb sb Q 59 [none, none] [] := by
  refine aw_goto (tgt := 124) d_Reader_readSaid_59 (by decide) ?_
  exact aw_return rfl d_Reader_readSaid_124 w
set_option maxRecDepth 20000 in
theorem r_Reader_readSaid_74 {E : zE} {K n : Nat → Nat} {I : Nat → Nat → Int32} {F : Nat → Nat → Option Nat} {J : Nat → Nat → Int64} {cb sb : Nat} {Q : zO → zH → Prop}
    (w : Q (.inl none) (K, n, I, F, J)) :
    AW E m_Reader_readSaid (K, n, I, F, J) cb sb Q 74 [none, none] [] := by
  refine aw_goto (tgt := 124) d_Reader_readSaid_74 (by decide) ?_
  exact aw_return rfl d_Reader_readSaid_124 w
set_option maxRecDepth 20000 in
theorem r_Reader_readSaid_81 {E : zE} {K n : Nat → Nat} {I : Nat → Nat → Int32} {F : Nat → Nat → Option Nat} {J : Nat → Nat → Int64} {cb sb : Nat} {Q : zO → zH → Prop}
    (w : Q (.inl none) (K, n, I, F, J)) :
    AW E m_Reader_readSaid (K, n, I, F, J) cb sb Q 81 [none, none] [] := by
  refine aw_goto (tgt := 124) d_Reader_readSaid_81 (by decide) ?_
  exact aw_return rfl d_Reader_readSaid_124 w
set_option maxRecDepth 20000 in
theorem r_Reader_readSaid_88 {E : zE} {K n : Nat → Nat} {I : Nat → Nat → Int32} {F : Nat → Nat → Option Nat} {J : Nat → Nat → Int64} {cb sb : Nat} {Q : zO → zH → Prop}
    (w : Q (.inl none) (K, n, I, F, J)) :
    AW E m_Reader_readSaid (K, n, I, F, J) cb sb Q 88 [none, none] [] := by
  refine aw_goto (tgt := 124) d_Reader_readSaid_88 (by decide) ?_
  exact aw_return rfl d_Reader_readSaid_124 w
set_option maxRecDepth 20000 in
theorem r_Reader_readSaid_103 {E : zE} {K n : Nat → Nat} {I : Nat → Nat → Int32} {F : Nat → Nat → Option Nat} {J : Nat → Nat → Int64} {cb sb : Nat} {Q : zO → zH → Prop} {sa0 : Nat} {sx1 : Int32}
    (w : K sa0 = 6 ∧ Q (.inl none) (K, n, (zup I sa0 5 sx1), F, J)) :
    AW E m_Reader_readSaid (K, n, I, F, J) cb sb Q 103 [none, none] [.int sx1, .ref sa0] := by
  obtain ⟨hk1, w⟩ := w
  refine pf_Reader_89 rfl hk1 d_Reader_readSaid_103 ?_
  refine aw_goto (tgt := 124) d_Reader_readSaid_106 (by decide) ?_
  exact aw_return rfl d_Reader_readSaid_124 w
set_option maxRecDepth 20000 in
theorem r_Reader_readSaid_121 {E : zE} {K n : Nat → Nat} {I : Nat → Nat → Int32} {F : Nat → Nat → Option Nat} {J : Nat → Nat → Int64} {cb sb : Nat} {Q : zO → zH → Prop} {sa0 : Nat} {sx1 : Int32}
    (w : K sa0 = 6 ∧ Q (.inl none) (K, n, (zup I sa0 6 sx1), F, J)) :
    AW E m_Reader_readSaid (K, n, I, F, J) cb sb Q 121 [none, none] [.int sx1, .ref sa0] := by
  obtain ⟨hk1, w⟩ := w
  refine pf_Reader_92 rfl hk1 d_Reader_readSaid_121 ?_
  exact aw_return rfl d_Reader_readSaid_124 w
set_option maxRecDepth 20000 in
theorem r_Reader_readKeys_0 {E : zE} {K n : Nat → Nat} {I : Nat → Nat → Int32} {F : Nat → Nat → Option Nat} {J : Nat → Nat → Int64} {cb sb : Nat} {Q : zO → zH → Prop} {a0 : Nat}
    (w : K a0 = 3 ∧ (∃ c1 s1 c2 s2 : Nat, c1 + c2 ≤ cb ∧ s1 + s2 ≤ sb ∧ AW E m_Reader_readField (K, n, I, F, J) c1 s1 (zAft E m_Reader_readKeys c2 s2 Q 3 [some (.ref a0), none, none, none] []) 0 [some (.ref a0), some (.int (40 : Int32)), none, none] [])) :
    AW E m_Reader_readKeys (K, n, I, F, J) cb sb Q 0 [some (.ref a0), none, none, none] [] := by
  refine aw_aload_n (x := a0) d_Reader_readKeys_0 rfl ?_
  refine aw_bipush (v := (40 : Int32)) d_Reader_readKeys_1 (by decide) ?_
  obtain ⟨hk1, w⟩ := w
  obtain ⟨c1, s1, c2, s2, hq1, hq2, w⟩ := w
  exact aw_room hq1 hq2 (aw_weak (lv' := [some (.ref a0), none, none, none]) ⟨rfl, trivial⟩ (aw_callV (M' := m_Reader_readField) (lv0 := [some (.ref a0), some (.int (40 : Int32)), none, none]) (As := [.int (40 : Int32)]) (rest := []) 2 395 397 398 rfl (by decide) rfl hk1 tb_395 tb_397 tb_398 (fun U hU => hU.p 7 rfl) rfl rfl 1 0 rfl rfl ⟨by decide, by decide, by decide +kernel, by decide +kernel, by decide, by decide⟩ (Nat.le_of_ble_eq_true rfl) ⟨rfl, rfl, trivial⟩ rfl d_Reader_readKeys_3 w))
set_option maxRecDepth 20000 in
theorem r_Reader_readKeys_6 {E : zE} {K n : Nat → Nat} {I : Nat → Nat → Int32} {F : Nat → Nat → Option Nat} {J : Nat → Nat → Int64} {cb sb : Nat} {Q : zO → zH → Prop} {a0 : Nat} {sa0 : Nat}
    (w : K a0 = 3 ∧ (∃ c1 s1 c2 s2 : Nat, c1 + c2 ≤ cb ∧ s1 + s2 ≤ sb ∧ AW E m_Reader_take (K, n, I, F, J) c1 s1 (zAft E m_Reader_readKeys c2 s2 Q 10 [some (.ref a0), some (.ref sa0), none, none] []) 0 [some (.ref a0), some (.ref (E.2.1 (100 + 9))), none, none] [])) :
    AW E m_Reader_readKeys (K, n, I, F, J) cb sb Q 6 [some (.ref a0), none, none, none] [.ref sa0] := by
  refine aw_astore_n d_Reader_readKeys_6 (by decide) ?_
  refine aw_aload_n (x := a0) d_Reader_readKeys_7 rfl ?_
  refine aw_ldcS 9 (by decide) rfl rfl d_Reader_readKeys_8 ?_
  obtain ⟨hk1, w⟩ := w
  obtain ⟨c1, s1, c2, s2, hq1, hq2, w⟩ := w
  exact aw_room hq1 hq2 (aw_weak (lv' := [some (.ref a0), some (.ref sa0), none, none]) ⟨rfl, rfl, trivial⟩ (aw_callV (M' := m_Reader_take) (lv0 := [some (.ref a0), some (.ref (E.2.1 (100 + 9))), none, none]) (As := [.ref (E.2.1 (100 + 9))]) (rest := []) 2 408 410 411 rfl (by decide) rfl hk1 tb_408 tb_410 tb_411 (fun U hU => hU.p 9 rfl) rfl rfl 1 0 rfl rfl ⟨by decide, by decide, by decide +kernel, by decide +kernel, by decide, by decide⟩ (Nat.le_of_ble_eq_true rfl) ⟨rfl, rfl, trivial⟩ rfl d_Reader_readKeys_10 w))
set_option maxRecDepth 20000 in
theorem r_Reader_readKeys_13 {E : zE} {K n : Nat → Nat} {I : Nat → Nat → Int32} {F : Nat → Nat → Option Nat} {J : Nat → Nat → Int64} {cb sb : Nat} {Q : zO → zH → Prop} {a0 : Nat} {a1 : Nat} {sx0 : Int32}
    (w : K a0 = 3 ∧ (∃ c1 s1 c2 s2 : Nat, c1 + c2 ≤ cb ∧ s1 + s2 ≤ sb ∧ AW E m_Reader_take (K, n, I, F, J) c1 s1 (zAft E m_Reader_readKeys c2 s2 Q 17 [some (.ref a0), some (.ref a1), none, none] []) 0 [some (.ref a0), some (.ref (E.2.1 (100 + 11))), none, none] [])) :
    AW E m_Reader_readKeys (K, n, I, F, J) cb sb Q 13 [some (.ref a0), some (.ref a1), none, none] [.int sx0] := by
  refine aw_pop d_Reader_readKeys_13 rfl ?_
  refine aw_aload_n (x := a0) d_Reader_readKeys_14 rfl ?_
  refine aw_ldcS 11 (by decide) rfl rfl d_Reader_readKeys_15 ?_
  obtain ⟨hk1, w⟩ := w
  obtain ⟨c1, s1, c2, s2, hq1, hq2, w⟩ := w
  exact aw_room hq1 hq2 (aw_weak (lv' := [some (.ref a0), some (.ref a1), none, none]) ⟨rfl, rfl, trivial⟩ (aw_callV (M' := m_Reader_take) (lv0 := [some (.ref a0), some (.ref (E.2.1 (100 + 11))), none, none]) (As := [.ref (E.2.1 (100 + 11))]) (rest := []) 2 408 410 411 rfl (by decide) rfl hk1 tb_408 tb_410 tb_411 (fun U hU => hU.p 9 rfl) rfl rfl 1 0 rfl rfl ⟨by decide, by decide, by decide +kernel, by decide +kernel, by decide, by decide⟩ (Nat.le_of_ble_eq_true rfl) ⟨rfl, rfl, trivial⟩ rfl d_Reader_readKeys_17 w))
set_option maxRecDepth 20000 in
theorem r_Reader_readKeys_20 {E : zE} {K n : Nat → Nat} {I : Nat → Nat → Int32} {F : Nat → Nat → Option Nat} {J : Nat → Nat → Int64} {cb sb : Nat} {Q : zO → zH → Prop} {a0 : Nat} {a1 : Nat} {sx0 : Int32}
    (w : ((¬ sx0 = (100 : Int32) → K a0 = 3 ∧ AW E m_Reader_nextSign (K, n, I, F, J) 0 0 (zAft E m_Reader_readKeys cb sb Q 34 [some (.ref a0), some (.ref a1), some (.int (0 : Int32)), some (.int (0 : Int32))] []) 0 [some (.ref a0)] []) ∧ (sx0 = (100 : Int32) → K a0 = 3 ∧ AW E m_Reader_nextSign (K, n, I, F, J) 0 0 (zAft E m_Reader_readKeys cb sb Q 34 [some (.ref a0), some (.ref a1), some (.int (1 : Int32)), some (.int (0 : Int32))] []) 0 [some (.ref a0)] []))) :
    AW E m_Reader_readKeys (K, n, I, F, J) cb sb Q 20 [some (.ref a0), some (.ref a1), none, none] [.int sx0] := by
  refine aw_bipush (v := (100 : Int32)) d_Reader_readKeys_20 (by decide) ?_
  refine aw_icmp_ne (tgt := 29) d_Reader_readKeys_22 (by decide) (fun cc1 => ?_) (fun cc1 => ?_)
  · replace w := w.1 cc1
    refine aw_iconst (v := (0 : Int32)) d_Reader_readKeys_29 (by decide) ?_
    refine aw_istore_n d_Reader_readKeys_30 (by decide) ?_
    refine aw_iconst (v := (0 : Int32)) d_Reader_readKeys_31 (by decide) ?_
    refine aw_istore_n d_Reader_readKeys_32 (by decide) ?_
    refine aw_aload_n (x := a0) d_Reader_readKeys_33 rfl ?_
    obtain ⟨hk2, w⟩ := w
    exact aw_room (cb' := 0 + cb) (sb' := 0 + sb) (by omega) (by omega) (aw_weak (lv' := [some (.ref a0), some (.ref a1), some (.int (0 : Int32)), some (.int (0 : Int32))]) ⟨rfl, rfl, rfl, rfl, trivial⟩ (aw_callV (M' := m_Reader_nextSign) (lv0 := [some (.ref a0)]) (As := []) (rest := []) 2 248 250 251 rfl (by decide) rfl hk2 tb_248 tb_250 tb_251 (fun U hU => hU.p 1 rfl) rfl rfl 0 0 rfl rfl ⟨by decide, by decide, by decide +kernel, by decide +kernel, by decide, by decide⟩ (Nat.le_of_ble_eq_true rfl) ⟨rfl, trivial⟩ rfl d_Reader_readKeys_34 w))
  · replace w := w.2 cc1
    refine aw_iconst (v := (1 : Int32)) d_Reader_readKeys_25 (by decide) ?_
    refine aw_goto (tgt := 30) d_Reader_readKeys_26 (by decide) ?_
    refine aw_istore_n d_Reader_readKeys_30 (by decide) ?_
    refine aw_iconst (v := (0 : Int32)) d_Reader_readKeys_31 (by decide) ?_
    refine aw_istore_n d_Reader_readKeys_32 (by decide) ?_
    refine aw_aload_n (x := a0) d_Reader_readKeys_33 rfl ?_
    obtain ⟨hk3, w⟩ := w
    exact aw_room (cb' := 0 + cb) (sb' := 0 + sb) (by omega) (by omega) (aw_weak (lv' := [some (.ref a0), some (.ref a1), some (.int (1 : Int32)), some (.int (0 : Int32))]) ⟨rfl, rfl, rfl, rfl, trivial⟩ (aw_callV (M' := m_Reader_nextSign) (lv0 := [some (.ref a0)]) (As := []) (rest := []) 2 248 250 251 rfl (by decide) rfl hk3 tb_248 tb_250 tb_251 (fun U hU => hU.p 1 rfl) rfl rfl 0 0 rfl rfl ⟨by decide, by decide, by decide +kernel, by decide +kernel, by decide, by decide⟩ (Nat.le_of_ble_eq_true rfl) ⟨rfl, trivial⟩ rfl d_Reader_readKeys_34 w))
set_option maxRecDepth 20000 in
theorem r_Reader_readKeys_37 {E : zE} {K n : Nat → Nat} {I : Nat → Nat → Int32} {F : Nat → Nat → Option Nat} {J : Nat → Nat → Int64} {cb sb : Nat} {Q : zO → zH → Prop} {a0 : Nat} {a1 : Nat} {x2 : Int32} {x3 : Int32} {sx0 : Int32}
    (w : ((¬ sx0 = (44 : Int32) → K a0 = 3 ∧ (∃ b3 : Nat, F a0 2 = some b3 ∧ K b3 = 6 ∧ (∃ b5 : Nat, F b3 0 = some b5 ∧ (∃ cb9 sb9 : Nat, cb9 + 1 ≤ cb ∧ sb9 + 3 ≤ sb ∧ ∀ q : Nat, K q = 0 → AW E m_Reader_readKeys ((va_up K q 1), n, (va_up I q (fun _ => 0)), (va_up F q (fun _ => none)), J) cb9 sb9 Q 76 [some (.ref a0), some (.ref a1), some (.int x2), some (.int x3)] [.ref q, .ref b5])))) ∧ (sx0 = (44 : Int32) → K a0 = 3 ∧ (∃ c1 s1 c2 s2 : Nat, c1 + c2 ≤ cb ∧ s1 + s2 ≤ sb ∧ AW E m_Reader_take (K, n, I, F, J) c1 s1 (zAft E m_Reader_readKeys c2 s2 Q 45 [some (.ref a0), some (.ref a1), some (.int x2), none] []) 0 [some (.ref a0), some (.ref (E.2.1 (100 + 9))), none, none] [])))) :
    AW E m_Reader_readKeys (K, n, I, F, J) cb sb Q 37 [some (.ref a0), some (.ref a1), some (.int x2), some (.int x3)] [.int sx0] := by
  refine aw_bipush (v := (44 : Int32)) d_Reader_readKeys_37 (by decide) ?_
  refine aw_icmp_ne (tgt := 66) d_Reader_readKeys_39 (by decide) (fun cc1 => ?_) (fun cc1 => ?_)
  · replace w := w.1 cc1
    refine aw_aload_n (x := a0) d_Reader_readKeys_66 rfl ?_
    obtain ⟨hk2, w⟩ := w
    obtain ⟨b3, hb3, w⟩ := w
    refine gs_Reader_12 rfl hk2 hb3 d_Reader_readKeys_67 ?_
    obtain ⟨hk4, w⟩ := w
    obtain ⟨b5, hb5, w⟩ := w
    refine gs_Reader_108 rfl hk4 hb5 d_Reader_readKeys_70 ?_
    obtain ⟨cb9, sb9, hq1, hq2, w⟩ := w
    exact aw_room hq1 hq2 (aw_weak (lv' := [some (.ref a0), some (.ref a1), some (.int x2), some (.int x3)]) ⟨rfl, rfl, rfl, rfl, trivial⟩ (aw_new 0 (T := zt_Key) zy_Key rfl (by decide) zin_Key zyo_Key 435 436 21 tb_435 tb_436 tb_21 (by decide) d_Reader_readKeys_73 w))
  · replace w := w.2 cc1
    refine aw_aload_n (x := a0) d_Reader_readKeys_42 rfl ?_
    refine aw_ldcS 9 (by decide) rfl rfl d_Reader_readKeys_43 ?_
    obtain ⟨hk6, w⟩ := w
    obtain ⟨c1, s1, c2, s2, hq1, hq2, w⟩ := w
    exact aw_room hq1 hq2 (aw_weak (lv' := [some (.ref a0), some (.ref a1), some (.int x2), none]) ⟨rfl, rfl, rfl, trivial⟩ (aw_callV (M' := m_Reader_take) (lv0 := [some (.ref a0), some (.ref (E.2.1 (100 + 9))), none, none]) (As := [.ref (E.2.1 (100 + 9))]) (rest := []) 2 408 410 411 rfl (by decide) rfl hk6 tb_408 tb_410 tb_411 (fun U hU => hU.p 9 rfl) rfl rfl 1 0 rfl rfl ⟨by decide, by decide, by decide +kernel, by decide +kernel, by decide, by decide⟩ (Nat.le_of_ble_eq_true rfl) ⟨rfl, rfl, trivial⟩ rfl d_Reader_readKeys_45 w))
set_option maxRecDepth 20000 in
theorem r_Reader_readKeys_48 {E : zE} {K n : Nat → Nat} {I : Nat → Nat → Int32} {F : Nat → Nat → Option Nat} {J : Nat → Nat → Int64} {cb sb : Nat} {Q : zO → zH → Prop} {a0 : Nat} {a1 : Nat} {x2 : Int32} {sx0 : Int32}
    (w : K a0 = 3 ∧ (∃ c1 s1 c2 s2 : Nat, c1 + c2 ≤ cb ∧ s1 + s2 ≤ sb ∧ AW E m_Reader_take (K, n, I, F, J) c1 s1 (zAft E m_Reader_readKeys c2 s2 Q 52 [some (.ref a0), some (.ref a1), some (.int x2), none] []) 0 [some (.ref a0), some (.ref (E.2.1 (100 + 12))), none, none] [])) :
    AW E m_Reader_readKeys (K, n, I, F, J) cb sb Q 48 [some (.ref a0), some (.ref a1), some (.int x2), none] [.int sx0] := by
  refine aw_pop d_Reader_readKeys_48 rfl ?_
  refine aw_aload_n (x := a0) d_Reader_readKeys_49 rfl ?_
  refine aw_ldcS 12 (by decide) rfl rfl d_Reader_readKeys_50 ?_
  obtain ⟨hk1, w⟩ := w
  obtain ⟨c1, s1, c2, s2, hq1, hq2, w⟩ := w
  exact aw_room hq1 hq2 (aw_weak (lv' := [some (.ref a0), some (.ref a1), some (.int x2), none]) ⟨rfl, rfl, rfl, trivial⟩ (aw_callV (M' := m_Reader_take) (lv0 := [some (.ref a0), some (.ref (E.2.1 (100 + 12))), none, none]) (As := [.ref (E.2.1 (100 + 12))]) (rest := []) 2 408 410 411 rfl (by decide) rfl hk1 tb_408 tb_410 tb_411 (fun U hU => hU.p 9 rfl) rfl rfl 1 0 rfl rfl ⟨by decide, by decide, by decide +kernel, by decide +kernel, by decide, by decide⟩ (Nat.le_of_ble_eq_true rfl) ⟨rfl, rfl, trivial⟩ rfl d_Reader_readKeys_52 w))
set_option maxRecDepth 20000 in
theorem r_Reader_readKeys_55 {E : zE} {K n : Nat → Nat} {I : Nat → Nat → Int32} {F : Nat → Nat → Option Nat} {J : Nat → Nat → Int64} {cb sb : Nat} {Q : zO → zH → Prop} {a0 : Nat} {a1 : Nat} {x2 : Int32} {sx0 : Int32}
    (w : ((¬ sx0 = (110 : Int32) → K a0 = 3 ∧ (∃ b3 : Nat, F a0 2 = some b3 ∧ K b3 = 6 ∧ (∃ b5 : Nat, F b3 0 = some b5 ∧ (∃ cb9 sb9 : Nat, cb9 + 1 ≤ cb ∧ sb9 + 3 ≤ sb ∧ ∀ q : Nat, K q = 0 → AW E m_Reader_readKeys ((va_up K q 1), n, (va_up I q (fun _ => 0)), (va_up F q (fun _ => none)), J) cb9 sb9 Q 76 [some (.ref a0), some (.ref a1), some (.int x2), some (.int (0 : Int32))] [.ref q, .ref b5])))) ∧ (sx0 = (110 : Int32) → K a0 = 3 ∧ (∃ b7 : Nat, F a0 2 = some b7 ∧ K b7 = 6 ∧ (∃ b9 : Nat, F b7 0 = some b9 ∧ (∃ cb9 sb9 : Nat, cb9 + 1 ≤ cb ∧ sb9 + 3 ≤ sb ∧ ∀ q : Nat, K q = 0 → AW E m_Reader_readKeys ((va_up K q 1), n, (va_up I q (fun _ => 0)), (va_up F q (fun _ => none)), J) cb9 sb9 Q 76 [some (.ref a0), some (.ref a1), some (.int x2), some (.int (1 : Int32))] [.ref q, .ref b9])))))) :
    AW E m_Reader_readKeys (K, n, I, F, J) cb sb Q 55 [some (.ref a0), some (.ref a1), some (.int x2), none] [.int sx0] := by
  refine aw_bipush (v := (110 : Int32)) d_Reader_readKeys_55 (by decide) ?_
  refine aw_icmp_ne (tgt := 64) d_Reader_readKeys_57 (by decide) (fun cc1 => ?_) (fun cc1 => ?_)
  · replace w := w.1 cc1
    refine aw_iconst (v := (0 : Int32)) d_Reader_readKeys_64 (by decide) ?_
    refine aw_istore_n d_Reader_readKeys_65 (by decide) ?_
    refine aw_aload_n (x := a0) d_Reader_readKeys_66 rfl ?_
    obtain ⟨hk2, w⟩ := w
    obtain ⟨b3, hb3, w⟩ := w
    refine gs_Reader_12 rfl hk2 hb3 d_Reader_readKeys_67 ?_
    obtain ⟨hk4, w⟩ := w
    obtain ⟨b5, hb5, w⟩ := w
    refine gs_Reader_108 rfl hk4 hb5 d_Reader_readKeys_70 ?_
    obtain ⟨cb9, sb9, hq1, hq2, w⟩ := w
    exact aw_room hq1 hq2 (aw_weak (lv' := [some (.ref a0), some (.ref a1), some (.int x2), some (.int (0 : Int32))]) ⟨rfl, rfl, rfl, rfl, trivial⟩ (aw_new 0 (T := zt_Key) zy_Key rfl (by decide) zin_Key zyo_Key 435 436 21 tb_435 tb_436 tb_21 (by decide) d_Reader_readKeys_73 w))
  · replace w := w.2 cc1
    refine aw_iconst (v := (1 : Int32)) d_Reader_readKeys_60 (by decide) ?_
    refine aw_goto (tgt := 65) d_Reader_readKeys_61 (by decide) ?_
    refine aw_istore_n d_Reader_readKeys_65 (by decide) ?_
    refine aw_aload_n (x := a0) d_Reader_readKeys_66 rfl ?_
    obtain ⟨hk6, w⟩ := w
    obtain ⟨b7, hb7, w⟩ := w
    refine gs_Reader_12 rfl hk6 hb7 d_Reader_readKeys_67 ?_
    obtain ⟨hk8, w⟩ := w
    obtain ⟨b9, hb9, w⟩ := w
    refine gs_Reader_108 rfl hk8 hb9 d_Reader_readKeys_70 ?_
    obtain ⟨cb9, sb9, hq1, hq2, w⟩ := w
    exact aw_room hq1 hq2 (aw_weak (lv' := [some (.ref a0), some (.ref a1), some (.int x2), some (.int (1 : Int32))]) ⟨rfl, rfl, rfl, rfl, trivial⟩ (aw_new 0 (T := zt_Key) zy_Key rfl (by decide) zin_Key zyo_Key 435 436 21 tb_435 tb_436 tb_21 (by decide) d_Reader_readKeys_73 w))
set_option maxRecDepth 20000 in
theorem r_Reader_readKeys_76 {E : zE} {K n : Nat → Nat} {I : Nat → Nat → Int32} {F : Nat → Nat → Option Nat} {J : Nat → Nat → Int64} {cb sb : Nat} {Q : zO → zH → Prop} {a0 : Nat} {a1 : Nat} {x2 : Int32} {x3 : Int32} {sa0 : Nat} {sa1 : Nat}
    (w : AW E m_Key_init (K, n, I, F, J) 0 0 (zAft E m_Reader_readKeys cb sb Q 80 [some (.ref a0), none, none, none] [.ref sa1, .ref sa0]) 0 [some (.ref sa1), some (.ref a1), some (.int x2), some (.int x3)] []) :
    AW E m_Reader_readKeys (K, n, I, F, J) cb sb Q 76 [some (.ref a0), some (.ref a1), some (.int x2), some (.int x3)] [.ref sa1, .ref sa0] := by
  refine aw_dup d_Reader_readKeys_76 rfl ?_
  refine aw_aload_n (x := a1) d_Reader_readKeys_77 rfl ?_
  refine aw_iload_n (x := x2) d_Reader_readKeys_78 rfl ?_
  refine aw_iload_n (x := x3) d_Reader_readKeys_79 rfl ?_
  exact aw_room (cb' := 0 + cb) (sb' := 0 + sb) (by omega) (by omega) (aw_weak (lv' := [some (.ref a0), none, none, none]) ⟨rfl, trivial⟩ (aw_callI (M' := m_Key_init) (lv0 := [some (.ref sa1), some (.ref a1), some (.int x2), some (.int x3)]) (As := [.ref a1, .int x2, .int x3]) (rest := [.ref sa1, .ref sa0]) 437 438 439 tb_437 tb_438 tb_439 rfl rfl rfl rfl 3 2 rfl rfl ⟨by decide, by decide, by decide +kernel, by decide +kernel, by decide, by decide⟩ (Nat.le_of_ble_eq_true rfl) ⟨rfl, rfl, rfl, rfl, trivial⟩ rfl d_Reader_readKeys_80 w))
set_option maxRecDepth 20000 in
theorem r_Reader_readKeys_83 {E : zE} {K n : Nat → Nat} {I : Nat → Nat → Int32} {F : Nat → Nat → Option Nat} {J : Nat → Nat → Int64} {cb sb : Nat} {Q : zO → zH → Prop} {a0 : Nat} {sa0 : Nat} {sa1 : Nat}
    (w : K sa0 = 10 ∧ (∃ c1 s1 c2 s2 : Nat, c1 + c2 ≤ cb ∧ s1 + s2 ≤ sb ∧ AW E m_ArrayList_add (K, n, I, F, J) c1 s1 (zAft E m_Reader_readKeys c2 s2 Q 83 [some (.ref a0), none, none, none] []) 0 [some (.ref sa0), some (.ref sa1)] [])) :
    AW E m_Reader_readKeys (K, n, I, F, J) cb sb Q 83 [some (.ref a0), none, none, none] [.ref sa1, .ref sa0] := by
  obtain ⟨hk1, w⟩ := w
  obtain ⟨c1, s1, c2, s2, hq1, hq2, w⟩ := w
  exact aw_room hq1 hq2 (aw_weak (lv' := [some (.ref a0), none, none, none]) ⟨rfl, trivial⟩ (aw_callV (M' := m_ArrayList_add) (lv0 := [some (.ref sa0), some (.ref sa1)]) (As := [.ref sa1]) (rest := []) 9 456 457 459 rfl (by decide) rfl hk1 tb_456 tb_457 tb_459 (fun U hU => hU.t 458 tb_458 rfl) rfl rfl 1 0 rfl rfl ⟨by decide, by decide, by decide +kernel, by decide +kernel, by decide, by decide⟩ (Nat.le_of_ble_eq_true rfl) ⟨rfl, rfl, trivial⟩ rfl d_Reader_readKeys_83 w))
set_option maxRecDepth 20000 in
theorem r_Reader_readKeys_86 {E : zE} {K n : Nat → Nat} {I : Nat → Nat → Int32} {F : Nat → Nat → Option Nat} {J : Nat → Nat → Int64} {cb sb : Nat} {Q : zO → zH → Prop} {a0 : Nat} {sx0 : Int32}
    (w : K a0 = 3 ∧ (∃ b2 : Nat, F a0 2 = some b2 ∧ K b2 = 6 ∧ (∃ b4 : Nat, F b2 0 = some b4 ∧ K b4 = 10 ∧ AW E m_ArrayList_size (K, n, I, F, J) 0 0 (zAft E m_Reader_readKeys cb sb Q 94 [some (.ref a0), none, none, none] []) 0 [some (.ref b4)] []))) :
    AW E m_Reader_readKeys (K, n, I, F, J) cb sb Q 86 [some (.ref a0), none, none, none] [.int sx0] := by
  refine aw_pop d_Reader_readKeys_86 rfl ?_
  refine aw_aload_n (x := a0) d_Reader_readKeys_87 rfl ?_
  obtain ⟨hk1, w⟩ := w
  obtain ⟨b2, hb2, w⟩ := w
  refine gs_Reader_12 rfl hk1 hb2 d_Reader_readKeys_88 ?_
  obtain ⟨hk3, w⟩ := w
  obtain ⟨b4, hb4, w⟩ := w
  refine gs_Reader_108 rfl hk3 hb4 d_Reader_readKeys_91 ?_
  obtain ⟨hk5, w⟩ := w
  exact aw_room (cb' := 0 + cb) (sb' := 0 + sb) (by omega) (by omega) (aw_weak (lv' := [some (.ref a0), none, none, none]) ⟨rfl, trivial⟩ (aw_callV (M' := m_ArrayList_size) (lv0 := [some (.ref b4)]) (As := []) (rest := []) 9 514 515 517 rfl (by decide) rfl hk5 tb_514 tb_515 tb_517 (fun U hU => hU.t 516 tb_516 rfl) rfl rfl 0 0 rfl rfl ⟨by decide, by decide, by decide +kernel, by decide +kernel, by decide, by decide⟩ (Nat.le_of_ble_eq_true rfl) ⟨rfl, trivial⟩ rfl d_Reader_readKeys_94 w))
set_option maxRecDepth 20000 in
theorem r_Reader_readKeys_97 {E : zE} {K n : Nat → Nat} {I : Nat → Nat → Int32} {F : Nat → Nat → Option Nat} {J : Nat → Nat → Int64} {cb sb : Nat} {Q : zO → zH → Prop} {a0 : Nat} {sx0 : Int32}
    (w : (((6 : Int32) ≤ sx0 → Q (.inl none) (K, n, I, F, J)) ∧ (¬ (6 : Int32) ≤ sx0 → K a0 = 3 ∧ AW E m_Reader_nextSign (K, n, I, F, J) 0 0 (zAft E m_Reader_readKeys cb sb Q 103 [some (.ref a0), none, none, none] []) 0 [some (.ref a0)] []))) :
    AW E m_Reader_readKeys (K, n, I, F, J) cb sb Q 97 [some (.ref a0), none, none, none] [.int sx0] := by
  refine aw_bipush (v := (6 : Int32)) d_Reader_readKeys_97 (by decide) ?_
  refine aw_icmp_ge (tgt := 111) d_Reader_readKeys_99 (by decide) (fun cc1 => ?_) (fun cc1 => ?_)
  · replace w := w.1 cc1
    exact aw_return rfl d_Reader_readKeys_111 w
  · replace w := w.2 cc1
    refine aw_aload_n (x := a0) d_Reader_readKeys_102 rfl ?_
    obtain ⟨hk2, w⟩ := w
    exact aw_room (cb' := 0 + cb) (sb' := 0 + sb) (by omega) (by omega) (aw_weak (lv' := [some (.ref a0), none, none, none]) ⟨rfl, trivial⟩ (aw_callV (M' := m_Reader_nextSign) (lv0 := [some (.ref a0)]) (As := []) (rest := []) 2 248 250 251 rfl (by decide) rfl hk2 tb_248 tb_250 tb_251 (fun U hU => hU.p 1 rfl) rfl rfl 0 0 rfl rfl ⟨by decide, by decide, by decide +kernel, by decide +kernel, by decide, by decide⟩ (Nat.le_of_ble_eq_true rfl) ⟨rfl, trivial⟩ rfl d_Reader_readKeys_103 w))
set_option maxRecDepth 20000 in
theorem r_Reader_readKeys_106 {E : zE} {K n : Nat → Nat} {I : Nat → Nat → Int32} {F : Nat → Nat → Option Nat} {J : Nat → Nat → Int64} {cb sb : Nat} {Q : zO → zH → Prop} {a0 : Nat} {sx0 : Int32}
    (w : ((¬ sx0 = (59 : Int32) → AW E m_Reader_readKeys (K, n, I, F, J) cb sb Q 0 [some (.ref a0), none, none, none] []) ∧ (sx0 = (59 : Int32) → Q (.inl none) (K, n, I, F, J)))) :
    AW E m_Reader_readKeys (K, n, I, F, J) cb sb Q 106 [some (.ref a0), none, none, none] [.int sx0] := by
  refine aw_bipush (v := (59 : Int32)) d_Reader_readKeys_106 (by decide) ?_
  refine aw_icmp_ne (tgt := 0) d_Reader_readKeys_108 (by decide) (fun cc1 => ?_) (fun cc1 => ?_)
  · replace w := w.1 cc1
    exact aw_weak (lv' := [some (.ref a0), none, none, none]) ⟨rfl, trivial⟩ w
  · replace w := w.2 cc1
    exact aw_return rfl d_Reader_readKeys_111 w
set_option maxRecDepth 20000 in
theorem r_Reader_readTests_0 {E : zE} {K n : Nat → Nat} {I : Nat → Nat → Int32} {F : Nat → Nat → Option Nat} {J : Nat → Nat → Int64} {cb sb : Nat} {Q : zO → zH → Prop} {a0 : Nat}
    (w : AW E m_Reader_readTests (K, n, I, F, J) cb sb Q 4 [some (.ref a0), some (.int (0 : Int32)), some (.int (0 : Int32)), none, none, none, none] []) :
    AW E m_Reader_readTests (K, n, I, F, J) cb sb Q 0 [some (.ref a0), none, none, none, none, none, none] [] := by
  refine aw_iconst (v := (0 : Int32)) d_Reader_readTests_0 (by decide) ?_
  refine aw_istore_n d_Reader_readTests_1 (by decide) ?_
  refine aw_iconst (v := (0 : Int32)) d_Reader_readTests_2 (by decide) ?_
  refine aw_istore_n d_Reader_readTests_3 (by decide) ?_
  exact aw_weak (lv' := [some (.ref a0), some (.int (0 : Int32)), some (.int (0 : Int32)), none, none, none, none]) ⟨rfl, rfl, rfl, trivial⟩ w
set_option maxRecDepth 20000 in
theorem r_Reader_readTests_4 {E : zE} {K n : Nat → Nat} {I : Nat → Nat → Int32} {F : Nat → Nat → Option Nat} {J : Nat → Nat → Int64} {cb sb : Nat} {Q : zO → zH → Prop} {a0 : Nat} {x1 : Int32} {x2 : Int32}
    (w : (((10 : Int32) ≤ x2 → K a0 = 3 ∧ AW E m_Reader_nextSign (K, n, I, F, J) 0 0 (zAft E m_Reader_readTests cb sb Q 118 [none, none, none, none, none, none, none] []) 0 [some (.ref a0)] []) ∧ (¬ (10 : Int32) ≤ x2 → K a0 = 3 ∧ (∃ c1 s1 c2 s2 : Nat, c1 + c2 ≤ cb ∧ s1 + s2 ≤ sb ∧ AW E m_Reader_readField (K, n, I, F, J) c1 s1 (zAft E m_Reader_readTests c2 s2 Q 13 [some (.ref a0), some (.int x1), some (.int x2), none, none, none, none] []) 0 [some (.ref a0), some (.int (40 : Int32)), none, none] [])))) :
    AW E m_Reader_readTests (K, n, I, F, J) cb sb Q 4 [some (.ref a0), some (.int x1), some (.int x2), none, none, none, none] [] := by
  refine aw_iload_n (x := x2) d_Reader_readTests_4 rfl ?_
  refine aw_bipush (v := (10 : Int32)) d_Reader_readTests_5 (by decide) ?_
  refine aw_icmp_ge (tgt := 117) d_Reader_readTests_7 (by decide) (fun cc1 => ?_) (fun cc1 => ?_)
  · replace w := w.1 cc1
    refine aw_aload_n (x := a0) d_Reader_readTests_117 rfl ?_
    obtain ⟨hk2, w⟩ := w
    exact aw_room (cb' := 0 + cb) (sb' := 0 + sb) (by omega) (by omega) (aw_weak (lv' := [none, none, none, none, none, none, none]) trivial (aw_callV (M' := m_Reader_nextSign) (lv0 := [some (.ref a0)]) (As := []) (rest := []) 2 248 250 251 rfl (by decide) rfl hk2 tb_248 tb_250 tb_251 (fun U hU => hU.p 1 rfl) rfl rfl 0 0 rfl rfl ⟨by decide, by decide, by decide +kernel, by decide +kernel, by decide, by decide⟩ (Nat.le_of_ble_eq_true rfl) ⟨rfl, trivial⟩ rfl d_Reader_readTests_118 w))
  · replace w := w.2 cc1
    refine aw_aload_n (x := a0) d_Reader_readTests_10 rfl ?_
    refine aw_bipush (v := (40 : Int32)) d_Reader_readTests_11 (by decide) ?_
    obtain ⟨hk3, w⟩ := w
    obtain ⟨c1, s1, c2, s2, hq1, hq2, w⟩ := w
    exact aw_room hq1 hq2 (aw_weak (lv' := [some (.ref a0), some (.int x1), some (.int x2), none, none, none, none]) ⟨rfl, rfl, rfl, trivial⟩ (aw_callV (M' := m_Reader_readField) (lv0 := [some (.ref a0), some (.int (40 : Int32)), none, none]) (As := [.int (40 : Int32)]) (rest := []) 2 395 397 398 rfl (by decide) rfl hk3 tb_395 tb_397 tb_398 (fun U hU => hU.p 7 rfl) rfl rfl 1 0 rfl rfl ⟨by decide, by decide, by decide +kernel, by decide +kernel, by decide, by decide⟩ (Nat.le_of_ble_eq_true rfl) ⟨rfl, rfl, trivial⟩ rfl d_Reader_readTests_13 w))
set_option maxRecDepth 20000 in
theorem r_Reader_readTests_16 {E : zE} {K n : Nat → Nat} {I : Nat → Nat → Int32} {F : Nat → Nat → Option Nat} {J : Nat → Nat → Int64} {cb sb : Nat} {Q : zO → zH → Prop} {a0 : Nat} {x1 : Int32} {x2 : Int32} {sa0 : Nat}
    (w : K a0 = 3 ∧ (∃ c1 s1 c2 s2 : Nat, c1 + c2 ≤ cb ∧ s1 + s2 ≤ sb ∧ AW E m_Reader_take (K, n, I, F, J) c1 s1 (zAft E m_Reader_readTests c2 s2 Q 20 [some (.ref a0), some (.int x1), some (.int x2), some (.ref sa0), none, none, none] []) 0 [some (.ref a0), some (.ref (E.2.1 (100 + 13))), none, none] [])) :
    AW E m_Reader_readTests (K, n, I, F, J) cb sb Q 16 [some (.ref a0), some (.int x1), some (.int x2), none, none, none, none] [.ref sa0] := by
  refine aw_astore_n d_Reader_readTests_16 (by decide) ?_
  refine aw_aload_n (x := a0) d_Reader_readTests_17 rfl ?_
  refine aw_ldcS 13 (by decide) rfl rfl d_Reader_readTests_18 ?_
  obtain ⟨hk1, w⟩ := w
  obtain ⟨c1, s1, c2, s2, hq1, hq2, w⟩ := w
  exact aw_room hq1 hq2 (aw_weak (lv' := [some (.ref a0), some (.int x1), some (.int x2), some (.ref sa0), none, none, none]) ⟨rfl, rfl, rfl, rfl, trivial⟩ (aw_callV (M' := m_Reader_take) (lv0 := [some (.ref a0), some (.ref (E.2.1 (100 + 13))), none, none]) (As := [.ref (E.2.1 (100 + 13))]) (rest := []) 2 408 410 411 rfl (by decide) rfl hk1 tb_408 tb_410 tb_411 (fun U hU => hU.p 9 rfl) rfl rfl 1 0 rfl rfl ⟨by decide, by decide, by decide +kernel, by decide +kernel, by decide, by decide⟩ (Nat.le_of_ble_eq_true rfl) ⟨rfl, rfl, trivial⟩ rfl d_Reader_readTests_20 w))
set_option maxRecDepth 20000 in
theorem r_Reader_readTests_23 {E : zE} {K n : Nat → Nat} {I : Nat → Nat → Int32} {F : Nat → Nat → Option Nat} {J : Nat → Nat → Int64} {cb sb : Nat} {Q : zO → zH → Prop} {a0 : Nat} {x1 : Int32} {x2 : Int32} {a3 : Nat} {sx0 : Int32}
    (w : K a0 = 3 ∧ AW E m_Reader_nextSign (K, n, I, F, J) 0 0 (zAft E m_Reader_readTests cb sb Q 26 [some (.ref a0), some (.int x1), some (.int x2), some (.ref a3), some (.int sx0), none, none] []) 0 [some (.ref a0)] []) :
    AW E m_Reader_readTests (K, n, I, F, J) cb sb Q 23 [some (.ref a0), some (.int x1), some (.int x2), some (.ref a3), none, none, none] [.int sx0] := by
  refine aw_istore d_Reader_readTests_23 (by decide) ?_
  refine aw_aload_n (x := a0) d_Reader_readTests_25 rfl ?_
  obtain ⟨hk1, w⟩ := w
  exact aw_room (cb' := 0 + cb) (sb' := 0 + sb) (by omega) (by omega) (aw_weak (lv' := [some (.ref a0), some (.int x1), some (.int x2), some (.ref a3), some (.int sx0), none, none]) ⟨rfl, rfl, rfl, rfl, rfl, trivial⟩ (aw_callV (M' := m_Reader_nextSign) (lv0 := [some (.ref a0)]) (As := []) (rest := []) 2 248 250 251 rfl (by decide) rfl hk1 tb_248 tb_250 tb_251 (fun U hU => hU.p 1 rfl) rfl rfl 0 0 rfl rfl ⟨by decide, by decide, by decide +kernel, by decide +kernel, by decide, by decide⟩ (Nat.le_of_ble_eq_true rfl) ⟨rfl, trivial⟩ rfl d_Reader_readTests_26 w))
set_option maxRecDepth 20000 in
theorem r_Reader_readTests_29 {E : zE} {K n : Nat → Nat} {I : Nat → Nat → Int32} {F : Nat → Nat → Option Nat} {J : Nat → Nat → Int64} {cb sb : Nat} {Q : zO → zH → Prop} {a0 : Nat} {x1 : Int32} {x2 : Int32} {a3 : Nat} {x4 : Int32} {sx0 : Int32}
    (w : ((¬ sx0 = (39 : Int32) → K a0 = 3 ∧ (∃ c1 s1 c2 s2 : Nat, c1 + c2 ≤ cb ∧ s1 + s2 ≤ sb ∧ AW E m_Reader_readField (K, n, I, F, J) c1 s1 (zAft E m_Reader_readTests c2 s2 Q 44 [some (.ref a0), some (.int x1), some (.int x2), some (.ref a3), some (.int x4), none, none] []) 0 [some (.ref a0), some (.int (40 : Int32)), none, none] [])) ∧ (sx0 = (39 : Int32) → K a0 = 3 ∧ (∃ c1 s1 c2 s2 : Nat, c1 + c2 ≤ cb ∧ s1 + s2 ≤ sb ∧ AW E m_Reader_readText (K, n, I, F, J) c1 s1 (zAft E m_Reader_readTests c2 s2 Q 35 [some (.ref a0), some (.int x1), some (.int x2), some (.ref a3), some (.int x4), none, none] []) 0 [some (.ref a0), none, none, none] [])))) :
    AW E m_Reader_readTests (K, n, I, F, J) cb sb Q 29 [some (.ref a0), some (.int x1), some (.int x2), some (.ref a3), some (.int x4), none, none] [.int sx0] := by
  refine aw_bipush (v := (39 : Int32)) d_Reader_readTests_29 (by decide) ?_
  refine aw_icmp_ne (tgt := 41) d_Reader_readTests_31 (by decide) (fun cc1 => ?_) (fun cc1 => ?_)
  · replace w := w.1 cc1
    refine aw_aload_n (x := a0) d_Reader_readTests_41 rfl ?_
    refine aw_bipush (v := (40 : Int32)) d_Reader_readTests_42 (by decide) ?_
    obtain ⟨hk2, w⟩ := w
    obtain ⟨c1, s1, c2, s2, hq1, hq2, w⟩ := w
    exact aw_room hq1 hq2 (aw_weak (lv' := [some (.ref a0), some (.int x1), some (.int x2), some (.ref a3), some (.int x4), none, none]) ⟨rfl, rfl, rfl, rfl, rfl, trivial⟩ (aw_callV (M' := m_Reader_readField) (lv0 := [some (.ref a0), some (.int (40 : Int32)), none, none]) (As := [.int (40 : Int32)]) (rest := []) 2 395 397 398 rfl (by decide) rfl hk2 tb_395 tb_397 tb_398 (fun U hU => hU.p 7 rfl) rfl rfl 1 0 rfl rfl ⟨by decide, by decide, by decide +kernel, by decide +kernel, by decide, by decide⟩ (Nat.le_of_ble_eq_true rfl) ⟨rfl, rfl, trivial⟩ rfl d_Reader_readTests_44 w))
  · replace w := w.2 cc1
    refine aw_aload_n (x := a0) d_Reader_readTests_34 rfl ?_
    obtain ⟨hk3, w⟩ := w
    obtain ⟨c1, s1, c2, s2, hq1, hq2, w⟩ := w
    exact aw_room hq1 hq2 (aw_weak (lv' := [some (.ref a0), some (.int x1), some (.int x2), some (.ref a3), some (.int x4), none, none]) ⟨rfl, rfl, rfl, rfl, rfl, trivial⟩ (aw_callV (M' := m_Reader_readText) (lv0 := [some (.ref a0), none, none, none]) (As := []) (rest := []) 2 523 525 526 rfl (by decide) rfl hk3 tb_523 tb_525 tb_526 (fun U hU => hU.p 14 rfl) rfl rfl 0 0 rfl rfl ⟨by decide, by decide, by decide +kernel, by decide +kernel, by decide, by decide⟩ (Nat.le_of_ble_eq_true rfl) ⟨rfl, trivial⟩ rfl d_Reader_readTests_35 w))
set_option maxRecDepth 20000 in
theorem r_Reader_readTests_38 {E : zE} {K n : Nat → Nat} {I : Nat → Nat → Int32} {F : Nat → Nat → Option Nat} {J : Nat → Nat → Int64} {cb sb : Nat} {Q : zO → zH → Prop} {a0 : Nat} {x1 : Int32} {x2 : Int32} {a3 : Nat} {x4 : Int32} {sa0 : Nat}
    (w : AW E m_Reader_readTests (K, n, I, F, J) cb sb Q 47 [some (.ref a0), some (.int x1), some (.int x2), some (.ref a3), some (.int x4), none, none] [.ref sa0]) :
    AW E m_Reader_readTests (K, n, I, F, J) cb sb Q 38 [some (.ref a0), some (.int x1), some (.int x2), some (.ref a3), some (.int x4), none, none] [.ref sa0] := by
  refine aw_goto (tgt := 47) d_Reader_readTests_38 (by decide) ?_
  exact aw_weak (lv' := [some (.ref a0), some (.int x1), some (.int x2), some (.ref a3), some (.int x4), none, none]) ⟨rfl, rfl, rfl, rfl, rfl, trivial⟩ w
set_option maxRecDepth 20000 in
theorem r_Reader_readTests_47 {E : zE} {K n : Nat → Nat} {I : Nat → Nat → Int32} {F : Nat → Nat → Option Nat} {J : Nat → Nat → Int64} {cb sb : Nat} {Q : zO → zH → Prop} {a0 : Nat} {x1 : Int32} {x2 : Int32} {a3 : Nat} {x4 : Int32} {sa0 : Nat}
    (w : K a0 = 3 ∧ (∃ b2 : Nat, F a0 2 = some b2 ∧ K b2 = 6 ∧ (∃ b4 : Nat, F b2 1 = some b4 ∧ (∃ cb9 sb9 : Nat, cb9 + 1 ≤ cb ∧ sb9 + 4 ≤ sb ∧ ∀ q : Nat, K q = 0 → AW E m_Reader_readTests ((va_up K q 7), n, (va_up I q (fun _ => 0)), (va_up F q (fun _ => none)), J) cb9 sb9 Q 59 [some (.ref a0), some (.int x1), some (.int x2), some (.ref a3), some (.int x4), some (.ref sa0), none] [.ref q, .ref b4])))) :
    AW E m_Reader_readTests (K, n, I, F, J) cb sb Q 47 [some (.ref a0), some (.int x1), some (.int x2), some (.ref a3), some (.int x4), none, none] [.ref sa0] := by
  refine aw_astore d_Reader_readTests_47 (by decide) ?_
  refine aw_aload_n (x := a0) d_Reader_readTests_49 rfl ?_
  obtain ⟨hk1, w⟩ := w
  obtain ⟨b2, hb2, w⟩ := w
  refine gs_Reader_12 rfl hk1 hb2 d_Reader_readTests_50 ?_
  obtain ⟨hk3, w⟩ := w
  obtain ⟨b4, hb4, w⟩ := w
  refine gs_Reader_131 rfl hk3 hb4 d_Reader_readTests_53 ?_
  obtain ⟨cb9, sb9, hq1, hq2, w⟩ := w
  exact aw_room hq1 hq2 (aw_weak (lv' := [some (.ref a0), some (.int x1), some (.int x2), some (.ref a3), some (.int x4), some (.ref sa0), none]) ⟨rfl, rfl, rfl, rfl, rfl, rfl, trivial⟩ (aw_new 6 (T := zt_Test) zy_Test rfl (by decide) zin_Test zyo_Test 535 536 25 tb_535 tb_536 tb_25 (by decide) d_Reader_readTests_56 w))
set_option maxRecDepth 20000 in
theorem r_Reader_readTests_59 {E : zE} {K n : Nat → Nat} {I : Nat → Nat → Int32} {F : Nat → Nat → Option Nat} {J : Nat → Nat → Int64} {cb sb : Nat} {Q : zO → zH → Prop} {a0 : Nat} {x1 : Int32} {x2 : Int32} {a3 : Nat} {x4 : Int32} {a5 : Nat} {sa0 : Nat} {sa1 : Nat}
    (w : AW E m_Test_init (K, n, I, F, J) 0 0 (zAft E m_Reader_readTests cb sb Q 66 [some (.ref a0), none, some (.int x2), none, none, none, none] [.ref sa1, .ref sa0]) 0 [some (.ref sa1), some (.int x1), some (.ref a3), some (.int x4), some (.ref a5)] []) :
    AW E m_Reader_readTests (K, n, I, F, J) cb sb Q 59 [some (.ref a0), some (.int x1), some (.int x2), some (.ref a3), some (.int x4), some (.ref a5), none] [.ref sa1, .ref sa0] := by
  refine aw_dup d_Reader_readTests_59 rfl ?_
  refine aw_iload_n (x := x1) d_Reader_readTests_60 rfl ?_
  refine aw_aload_n (x := a3) d_Reader_readTests_61 rfl ?_
  refine aw_iload (x := x4) d_Reader_readTests_62 rfl ?_
  refine aw_aload (x := a5) d_Reader_readTests_64 rfl ?_
  exact aw_room (cb' := 0 + cb) (sb' := 0 + sb) (by omega) (by omega) (aw_weak (lv' := [some (.ref a0), none, some (.int x2), none, none, none, none]) ⟨rfl, rfl, trivial⟩ (aw_callI (M' := m_Test_init) (lv0 := [some (.ref sa1), some (.int x1), some (.ref a3), some (.int x4), some (.ref a5)]) (As := [.int x1, .ref a3, .int x4, .ref a5]) (rest := [.ref sa1, .ref sa0]) 537 538 539 tb_537 tb_538 tb_539 rfl rfl rfl rfl 4 2 rfl rfl ⟨by decide, by decide, by decide +kernel, by decide +kernel, by decide, by decide⟩ (Nat.le_of_ble_eq_true rfl) ⟨rfl, rfl, rfl, rfl, rfl, trivial⟩ rfl d_Reader_readTests_66 w))
set_option maxRecDepth 20000 in
theorem r_Reader_readTests_69 {E : zE} {K n : Nat → Nat} {I : Nat → Nat → Int32} {F : Nat → Nat → Option Nat} {J : Nat → Nat → Int64} {cb sb : Nat} {Q : zO → zH → Prop} {a0 : Nat} {x2 : Int32} {sa0 : Nat} {sa1 : Nat}
    (w : K sa0 = 10 ∧ (∃ c1 s1 c2 s2 : Nat, c1 + c2 ≤ cb ∧ s1 + s2 ≤ sb ∧ AW E m_ArrayList_add (K, n, I, F, J) c1 s1 (zAft E m_Reader_readTests c2 s2 Q 69 [some (.ref a0), none, some (.int x2), none, none, none, none] []) 0 [some (.ref sa0), some (.ref sa1)] [])) :
    AW E m_Reader_readTests (K, n, I, F, J) cb sb Q 69 [some (.ref a0), none, some (.int x2), none, none, none, none] [.ref sa1, .ref sa0] := by
  obtain ⟨hk1, w⟩ := w
  obtain ⟨c1, s1, c2, s2, hq1, hq2, w⟩ := w
  exact aw_room hq1 hq2 (aw_weak (lv' := [some (.ref a0), none, some (.int x2), none, none, none, none]) ⟨rfl, rfl, trivial⟩ (aw_callV (M' := m_ArrayList_add) (lv0 := [some (.ref sa0), some (.ref sa1)]) (As := [.ref sa1]) (rest := []) 9 456 457 459 rfl (by decide) rfl hk1 tb_456 tb_457 tb_459 (fun U hU => hU.t 458 tb_458 rfl) rfl rfl 1 0 rfl rfl ⟨by decide, by decide, by decide +kernel, by decide +kernel, by decide, by decide⟩ (Nat.le_of_ble_eq_true rfl) ⟨rfl, rfl, trivial⟩ rfl d_Reader_readTests_69 w))
set_option maxRecDepth 20000 in
theorem r_Reader_readTests_72 {E : zE} {K n : Nat → Nat} {I : Nat → Nat → Int32} {F : Nat → Nat → Option Nat} {J : Nat → Nat → Int64} {cb sb : Nat} {Q : zO → zH → Prop} {a0 : Nat} {x2 : Int32} {sx0 : Int32}
    (w : K a0 = 3 ∧ AW E m_Reader_nextSign (K, n, I, F, J) 0 0 (zAft E m_Reader_readTests cb sb Q 74 [some (.ref a0), none, some (.int x2), none, none, none, none] []) 0 [some (.ref a0)] []) :
    AW E m_Reader_readTests (K, n, I, F, J) cb sb Q 72 [some (.ref a0), none, some (.int x2), none, none, none, none] [.int sx0] := by
  refine aw_pop d_Reader_readTests_72 rfl ?_
  refine aw_aload_n (x := a0) d_Reader_readTests_73 rfl ?_
  obtain ⟨hk1, w⟩ := w
  exact aw_room (cb' := 0 + cb) (sb' := 0 + sb) (by omega) (by omega) (aw_weak (lv' := [some (.ref a0), none, some (.int x2), none, none, none, none]) ⟨rfl, rfl, trivial⟩ (aw_callV (M' := m_Reader_nextSign) (lv0 := [some (.ref a0)]) (As := []) (rest := []) 2 248 250 251 rfl (by decide) rfl hk1 tb_248 tb_250 tb_251 (fun U hU => hU.p 1 rfl) rfl rfl 0 0 rfl rfl ⟨by decide, by decide, by decide +kernel, by decide +kernel, by decide, by decide⟩ (Nat.le_of_ble_eq_true rfl) ⟨rfl, trivial⟩ rfl d_Reader_readTests_74 w))
set_option maxRecDepth 20000 in
theorem r_Reader_readTests_77 {E : zE} {K n : Nat → Nat} {I : Nat → Nat → Int32} {F : Nat → Nat → Option Nat} {J : Nat → Nat → Int64} {cb sb : Nat} {Q : zO → zH → Prop} {a0 : Nat} {x2 : Int32} {sx0 : Int32}
    (w : ((sx0 = (38 : Int32) → K a0 = 3 ∧ (∃ c1 s1 c2 s2 : Nat, c1 + c2 ≤ cb ∧ s1 + s2 ≤ sb ∧ AW E m_Reader_take (K, n, I, F, J) c1 s1 (zAft E m_Reader_readTests c2 s2 Q 97 [some (.ref a0), none, some (.int x2), none, none, none, none] []) 0 [some (.ref a0), some (.ref (E.2.1 (100 + 16))), none, none] [])) ∧ (¬ sx0 = (38 : Int32) → ((sx0 = (124 : Int32) → K a0 = 3 ∧ (∃ c1 s1 c2 s2 : Nat, c1 + c2 ≤ cb ∧ s1 + s2 ≤ sb ∧ AW E m_Reader_take (K, n, I, F, J) c1 s1 (zAft E m_Reader_readTests c2 s2 Q 97 [some (.ref a0), none, some (.int x2), none, none, none, none] []) 0 [some (.ref a0), some (.ref (E.2.1 (100 + 16))), none, none] [])) ∧ (¬ sx0 = (124 : Int32) → Q (.inl none) (K, n, I, F, J)))))) :
    AW E m_Reader_readTests (K, n, I, F, J) cb sb Q 77 [some (.ref a0), none, some (.int x2), none, none, none, none] [.int sx0] := by
  refine aw_istore d_Reader_readTests_77 (by decide) ?_
  refine aw_iload (x := sx0) d_Reader_readTests_79 rfl ?_
  refine aw_bipush (v := (38 : Int32)) d_Reader_readTests_81 (by decide) ?_
  refine aw_icmp_eq (tgt := 94) d_Reader_readTests_83 (by decide) (fun cc1 => ?_) (fun cc1 => ?_)
  · replace w := w.1 cc1
    refine aw_aload_n (x := a0) d_Reader_readTests_94 rfl ?_
    refine aw_ldcS 16 (by decide) rfl rfl d_Reader_readTests_95 ?_
    obtain ⟨hk2, w⟩ := w
    obtain ⟨c1, s1, c2, s2, hq1, hq2, w⟩ := w
    exact aw_room hq1 hq2 (aw_weak (lv' := [some (.ref a0), none, some (.int x2), none, none, none, none]) ⟨rfl, rfl, trivial⟩ (aw_callV (M' := m_Reader_take) (lv0 := [some (.ref a0), some (.ref (E.2.1 (100 + 16))), none, none]) (As := [.ref (E.2.1 (100 + 16))]) (rest := []) 2 408 410 411 rfl (by decide) rfl hk2 tb_408 tb_410 tb_411 (fun U hU => hU.p 9 rfl) rfl rfl 1 0 rfl rfl ⟨by decide, by decide, by decide +kernel, by decide +kernel, by decide, by decide⟩ (Nat.le_of_ble_eq_true rfl) ⟨rfl, rfl, trivial⟩ rfl d_Reader_readTests_97 w))
  · replace w := w.2 cc1
    refine aw_iload (x := sx0) d_Reader_readTests_86 rfl ?_
    refine aw_bipush (v := (124 : Int32)) d_Reader_readTests_88 (by decide) ?_
    refine aw_icmp_eq (tgt := 94) d_Reader_readTests_90 (by decide) (fun cc3 => ?_) (fun cc3 => ?_)
    · replace w := w.1 cc3
      refine aw_aload_n (x := a0) d_Reader_readTests_94 rfl ?_
      refine aw_ldcS 16 (by decide) rfl rfl d_Reader_readTests_95 ?_
      obtain ⟨hk4, w⟩ := w
      obtain ⟨c1, s1, c2, s2, hq1, hq2, w⟩ := w
      exact aw_room hq1 hq2 (aw_weak (lv' := [some (.ref a0), none, some (.int x2), none, none, none, none]) ⟨rfl, rfl, trivial⟩ (aw_callV (M' := m_Reader_take) (lv0 := [some (.ref a0), some (.ref (E.2.1 (100 + 16))), none, none]) (As := [.ref (E.2.1 (100 + 16))]) (rest := []) 2 408 410 411 rfl (by decide) rfl hk4 tb_408 tb_410 tb_411 (fun U hU => hU.p 9 rfl) rfl rfl 1 0 rfl rfl ⟨by decide, by decide, by decide +kernel, by decide +kernel, by decide, by decide⟩ (Nat.le_of_ble_eq_true rfl) ⟨rfl, rfl, trivial⟩ rfl d_Reader_readTests_97 w))
    · replace w := w.2 cc3
      exact aw_return rfl d_Reader_readTests_93 w
set_option maxRecDepth 20000 in
theorem r_Reader_readTests_100 {E : zE} {K n : Nat → Nat} {I : Nat → Nat → Int32} {F : Nat → Nat → Option Nat} {J : Nat → Nat → Int64} {cb sb : Nat} {Q : zO → zH → Prop} {a0 : Nat} {x2 : Int32} {sx0 : Int32}
    (w : ((¬ sx0 = (124 : Int32) → AW E m_Reader_readTests (K, n, I, F, J) cb sb Q 4 [some (.ref a0), some (.int (0 : Int32)), some (.int (x2 + (1 : Int32))), none, none, none, none] []) ∧ (sx0 = (124 : Int32) → AW E m_Reader_readTests (K, n, I, F, J) cb sb Q 4 [some (.ref a0), some (.int (1 : Int32)), some (.int (x2 + (1 : Int32))), none, none, none, none] []))) :
    AW E m_Reader_readTests (K, n, I, F, J) cb sb Q 100 [some (.ref a0), none, some (.int x2), none, none, none, none] [.int sx0] := by
  refine aw_bipush (v := (124 : Int32)) d_Reader_readTests_100 (by decide) ?_
  refine aw_icmp_ne (tgt := 109) d_Reader_readTests_102 (by decide) (fun cc1 => ?_) (fun cc1 => ?_)
  · replace w := w.1 cc1
    refine aw_iconst (v := (0 : Int32)) d_Reader_readTests_109 (by decide) ?_
    refine aw_istore_n d_Reader_readTests_110 (by decide) ?_
    refine aw_iinc (v := (x2 + (1 : Int32))) d_Reader_readTests_111 rfl (by rfl) (by decide) ?_
    refine aw_goto (tgt := 4) d_Reader_readTests_114 (by decide) ?_
    exact aw_weak (lv' := [some (.ref a0), some (.int (0 : Int32)), some (.int (x2 + (1 : Int32))), none, none, none, none]) ⟨rfl, rfl, rfl, trivial⟩ w
  · replace w := w.2 cc1
    refine aw_iconst (v := (1 : Int32)) d_Reader_readTests_105 (by decide) ?_
    refine aw_goto (tgt := 110) d_Reader_readTests_106 (by decide) ?_
    refine aw_istore_n d_Reader_readTests_110 (by decide) ?_
    refine aw_iinc (v := (x2 + (1 : Int32))) d_Reader_readTests_111 rfl (by rfl) (by decide) ?_
    refine aw_goto (tgt := 4) d_Reader_readTests_114 (by decide) ?_
    exact aw_weak (lv' := [some (.ref a0), some (.int (1 : Int32)), some (.int (x2 + (1 : Int32))), none, none, none, none]) ⟨rfl, rfl, rfl, trivial⟩ w
set_option maxRecDepth 20000 in
theorem r_Reader_readTests_121 {E : zE} {K n : Nat → Nat} {I : Nat → Nat → Int32} {F : Nat → Nat → Option Nat} {J : Nat → Nat → Int64} {cb sb : Nat} {Q : zO → zH → Prop} {sx0 : Int32}
    (w : (1 ≤ cb ∧ 6 ≤ sb ∧ Q (.inr "java/lang/IllegalArgumentException") (K, n, I, F, J))) :
    AW E m_Reader_readTests (K, n, I, F, J) cb sb Q 121 [none, none, none, none, none, none, none] [.int sx0] := by
  refine aw_pop d_Reader_readTests_121 rfl ?_
  exact aw_throwS (cls := "java/lang/IllegalArgumentException") (names := ["java/lang/RuntimeException", "java/lang/Exception"]) 17 313 18 (by decide) rfl rfl (by decide +kernel) (by decide +kernel) tb_313 tb_18 zth_R zth_Rg d_Reader_readTests_122 d_Reader_readTests_125 d_Reader_readTests_126 d_Reader_readTests_128 d_Reader_readTests_131 rfl (by decide) (by decide) w.1 w.2.1 w.2.2
set_option maxRecDepth 20000 in
theorem r_Reader_readSums_0 {E : zE} {K n : Nat → Nat} {I : Nat → Nat → Int32} {F : Nat → Nat → Option Nat} {J : Nat → Nat → Int64} {cb sb : Nat} {Q : zO → zH → Prop} {a0 : Nat}
    (w : K a0 = 3 ∧ (∃ b2 : Nat, F a0 2 = some b2 ∧ K b2 = 6 ∧ (∃ b4 : Nat, F b2 2 = some b4 ∧ (∃ c1 s1 c2 s2 : Nat, c1 + c2 ≤ cb ∧ s1 + s2 ≤ sb ∧ AW E m_Reader_readField (K, n, I, F, J) c1 s1 (zAft E m_Reader_readSums c2 s2 Q 10 [some (.ref a0)] [.ref b4]) 0 [some (.ref a0), some (.int (9 : Int32)), none, none] [])))) :
    AW E m_Reader_readSums (K, n, I, F, J) cb sb Q 0 [some (.ref a0)] [] := by
  refine aw_aload_n (x := a0) d_Reader_readSums_0 rfl ?_
  obtain ⟨hk1, w⟩ := w
  obtain ⟨b2, hb2, w⟩ := w
  refine gs_Reader_12 rfl hk1 hb2 d_Reader_readSums_1 ?_
  obtain ⟨hk3, w⟩ := w
  obtain ⟨b4, hb4, w⟩ := w
  refine gs_Reader_148 rfl hk3 hb4 d_Reader_readSums_4 ?_
  refine aw_aload_n (x := a0) d_Reader_readSums_7 rfl ?_
  refine aw_bipush (v := (9 : Int32)) d_Reader_readSums_8 (by decide) ?_
  obtain ⟨c1, s1, c2, s2, hq1, hq2, w⟩ := w
  exact aw_room hq1 hq2 (aw_weak (lv' := [some (.ref a0)]) ⟨rfl, trivial⟩ (aw_callV (M' := m_Reader_readField) (lv0 := [some (.ref a0), some (.int (9 : Int32)), none, none]) (As := [.int (9 : Int32)]) (rest := [.ref b4]) 2 395 397 398 rfl (by decide) rfl hk1 tb_395 tb_397 tb_398 (fun U hU => hU.p 7 rfl) rfl rfl 1 1 rfl rfl ⟨by decide, by decide, by decide +kernel, by decide +kernel, by decide, by decide⟩ (Nat.le_of_ble_eq_true rfl) ⟨rfl, rfl, trivial⟩ rfl d_Reader_readSums_10 w))
set_option maxRecDepth 20000 in
theorem r_Reader_readSums_13 {E : zE} {K n : Nat → Nat} {I : Nat → Nat → Int32} {F : Nat → Nat → Option Nat} {J : Nat → Nat → Int64} {cb sb : Nat} {Q : zO → zH → Prop} {a0 : Nat} {sa0 : Nat} {sa1 : Nat}
    (w : K sa0 = 10 ∧ (∃ c1 s1 c2 s2 : Nat, c1 + c2 ≤ cb ∧ s1 + s2 ≤ sb ∧ AW E m_ArrayList_add (K, n, I, F, J) c1 s1 (zAft E m_Reader_readSums c2 s2 Q 13 [some (.ref a0)] []) 0 [some (.ref sa0), some (.ref sa1)] [])) :
    AW E m_Reader_readSums (K, n, I, F, J) cb sb Q 13 [some (.ref a0)] [.ref sa1, .ref sa0] := by
  obtain ⟨hk1, w⟩ := w
  obtain ⟨c1, s1, c2, s2, hq1, hq2, w⟩ := w
  exact aw_room hq1 hq2 (aw_weak (lv' := [some (.ref a0)]) ⟨rfl, trivial⟩ (aw_callV (M' := m_ArrayList_add) (lv0 := [some (.ref sa0), some (.ref sa1)]) (As := [.ref sa1]) (rest := []) 9 456 457 459 rfl (by decide) rfl hk1 tb_456 tb_457 tb_459 (fun U hU => hU.t 458 tb_458 rfl) rfl rfl 1 0 rfl rfl ⟨by decide, by decide, by decide +kernel, by decide +kernel, by decide, by decide⟩ (Nat.le_of_ble_eq_true rfl) ⟨rfl, rfl, trivial⟩ rfl d_Reader_readSums_13 w))
set_option maxRecDepth 20000 in
theorem r_Reader_readSums_16 {E : zE} {K n : Nat → Nat} {I : Nat → Nat → Int32} {F : Nat → Nat → Option Nat} {J : Nat → Nat → Int64} {cb sb : Nat} {Q : zO → zH → Prop} {a0 : Nat} {sx0 : Int32}
    (w : K a0 = 3 ∧ (∃ b2 : Nat, F a0 2 = some b2 ∧ K b2 = 6 ∧ (∃ b4 : Nat, F b2 2 = some b4 ∧ K b4 = 10 ∧ AW E m_ArrayList_size (K, n, I, F, J) 0 0 (zAft E m_Reader_readSums cb sb Q 24 [some (.ref a0)] []) 0 [some (.ref b4)] []))) :
    AW E m_Reader_readSums (K, n, I, F, J) cb sb Q 16 [some (.ref a0)] [.int sx0] := by
  refine aw_pop d_Reader_readSums_16 rfl ?_
  refine aw_aload_n (x := a0) d_Reader_readSums_17 rfl ?_
  obtain ⟨hk1, w⟩ := w
  obtain ⟨b2, hb2, w⟩ := w
  refine gs_Reader_12 rfl hk1 hb2 d_Reader_readSums_18 ?_
  obtain ⟨hk3, w⟩ := w
  obtain ⟨b4, hb4, w⟩ := w
  refine gs_Reader_148 rfl hk3 hb4 d_Reader_readSums_21 ?_
  obtain ⟨hk5, w⟩ := w
  exact aw_room (cb' := 0 + cb) (sb' := 0 + sb) (by omega) (by omega) (aw_weak (lv' := [some (.ref a0)]) ⟨rfl, trivial⟩ (aw_callV (M' := m_ArrayList_size) (lv0 := [some (.ref b4)]) (As := []) (rest := []) 9 514 515 517 rfl (by decide) rfl hk5 tb_514 tb_515 tb_517 (fun U hU => hU.t 516 tb_516 rfl) rfl rfl 0 0 rfl rfl ⟨by decide, by decide, by decide +kernel, by decide +kernel, by decide, by decide⟩ (Nat.le_of_ble_eq_true rfl) ⟨rfl, trivial⟩ rfl d_Reader_readSums_24 w))
set_option maxRecDepth 20000 in
theorem r_Reader_readSums_27 {E : zE} {K n : Nat → Nat} {I : Nat → Nat → Int32} {F : Nat → Nat → Option Nat} {J : Nat → Nat → Int64} {cb sb : Nat} {Q : zO → zH → Prop} {a0 : Nat} {sx0 : Int32}
    (w : (((4 : Int32) ≤ sx0 → Q (.inl none) (K, n, I, F, J)) ∧ (¬ (4 : Int32) ≤ sx0 → K a0 = 3 ∧ AW E m_Reader_nextSign (K, n, I, F, J) 0 0 (zAft E m_Reader_readSums cb sb Q 32 [some (.ref a0)] []) 0 [some (.ref a0)] []))) :
    AW E m_Reader_readSums (K, n, I, F, J) cb sb Q 27 [some (.ref a0)] [.int sx0] := by
  refine aw_iconst (v := (4 : Int32)) d_Reader_readSums_27 (by decide) ?_
  refine aw_icmp_ge (tgt := 40) d_Reader_readSums_28 (by decide) (fun cc1 => ?_) (fun cc1 => ?_)
  · replace w := w.1 cc1
    exact aw_return rfl d_Reader_readSums_40 w
  · replace w := w.2 cc1
    refine aw_aload_n (x := a0) d_Reader_readSums_31 rfl ?_
    obtain ⟨hk2, w⟩ := w
    exact aw_room (cb' := 0 + cb) (sb' := 0 + sb) (by omega) (by omega) (aw_weak (lv' := [some (.ref a0)]) ⟨rfl, trivial⟩ (aw_callV (M' := m_Reader_nextSign) (lv0 := [some (.ref a0)]) (As := []) (rest := []) 2 248 250 251 rfl (by decide) rfl hk2 tb_248 tb_250 tb_251 (fun U hU => hU.p 1 rfl) rfl rfl 0 0 rfl rfl ⟨by decide, by decide, by decide +kernel, by decide +kernel, by decide, by decide⟩ (Nat.le_of_ble_eq_true rfl) ⟨rfl, trivial⟩ rfl d_Reader_readSums_32 w))
set_option maxRecDepth 20000 in
theorem r_Reader_readSums_35 {E : zE} {K n : Nat → Nat} {I : Nat → Nat → Int32} {F : Nat → Nat → Option Nat} {J : Nat → Nat → Int64} {cb sb : Nat} {Q : zO → zH → Prop} {a0 : Nat} {sx0 : Int32}
    (w : ((¬ sx0 = (59 : Int32) → AW E m_Reader_readSums (K, n, I, F, J) cb sb Q 0 [some (.ref a0)] []) ∧ (sx0 = (59 : Int32) → Q (.inl none) (K, n, I, F, J)))) :
    AW E m_Reader_readSums (K, n, I, F, J) cb sb Q 35 [some (.ref a0)] [.int sx0] := by
  refine aw_bipush (v := (59 : Int32)) d_Reader_readSums_35 (by decide) ?_
  refine aw_icmp_ne (tgt := 0) d_Reader_readSums_37 (by decide) (fun cc1 => ?_) (fun cc1 => ?_)
  · replace w := w.1 cc1
    exact aw_weak (lv' := [some (.ref a0)]) ⟨rfl, trivial⟩ w
  · replace w := w.2 cc1
    exact aw_return rfl d_Reader_readSums_40 w
set_option maxRecDepth 20000 in
theorem r_Reader_readPieces_0 {E : zE} {K n : Nat → Nat} {I : Nat → Nat → Int32} {F : Nat → Nat → Option Nat} {J : Nat → Nat → Int64} {cb sb : Nat} {Q : zO → zH → Prop} {a0 : Nat}
    (w : K a0 = 3 ∧ AW E m_Reader_nextSign (K, n, I, F, J) 0 0 (zAft E m_Reader_readPieces cb sb Q 1 [some (.ref a0), none] []) 0 [some (.ref a0)] []) :
    AW E m_Reader_readPieces (K, n, I, F, J) cb sb Q 0 [some (.ref a0), none] [] := by
  refine aw_aload_n (x := a0) d_Reader_readPieces_0 rfl ?_
  obtain ⟨hk1, w⟩ := w
  exact aw_room (cb' := 0 + cb) (sb' := 0 + sb) (by omega) (by omega) (aw_weak (lv' := [some (.ref a0), none]) ⟨rfl, trivial⟩ (aw_callV (M' := m_Reader_nextSign) (lv0 := [some (.ref a0)]) (As := []) (rest := []) 2 248 250 251 rfl (by decide) rfl hk1 tb_248 tb_250 tb_251 (fun U hU => hU.p 1 rfl) rfl rfl 0 0 rfl rfl ⟨by decide, by decide, by decide +kernel, by decide +kernel, by decide, by decide⟩ (Nat.le_of_ble_eq_true rfl) ⟨rfl, trivial⟩ rfl d_Reader_readPieces_1 w))
set_option maxRecDepth 20000 in
theorem r_Reader_readPieces_4 {E : zE} {K n : Nat → Nat} {I : Nat → Nat → Int32} {F : Nat → Nat → Option Nat} {J : Nat → Nat → Int64} {cb sb : Nat} {Q : zO → zH → Prop} {a0 : Nat} {sx0 : Int32}
    (w : ((¬ sx0 = (39 : Int32) → ((¬ sx0 = (120 : Int32) → K a0 = 3 ∧ (∃ b4 : Nat, F a0 2 = some b4 ∧ K b4 = 6 ∧ (∃ b6 : Nat, F b4 3 = some b6 ∧ (∃ c1 s1 c2 s2 : Nat, c1 + c2 ≤ cb ∧ s1 + s2 ≤ sb ∧ AW E m_Reader_readField (K, n, I, F, J) c1 s1 (zAft E m_Reader_readPieces c2 s2 Q 63 [some (.ref a0), none] [.ref b6]) 0 [some (.ref a0), some (.int (40 : Int32)), none, none] [])))) ∧ (sx0 = (120 : Int32) → K a0 = 3 ∧ (∃ b8 : Nat, F a0 2 = some b8 ∧ K b8 = 6 ∧ (∃ b10 : Nat, F b8 3 = some b10 ∧ (∃ c1 s1 c2 s2 : Nat, c1 + c2 ≤ cb ∧ s1 + s2 ≤ sb ∧ AW E m_Reader_readBlanks (K, n, I, F, J) c1 s1 (zAft E m_Reader_readPieces c2 s2 Q 43 [some (.ref a0), none] [.ref b10]) 0 [some (.ref a0), none] [])))))) ∧ (sx0 = (39 : Int32) → K a0 = 3 ∧ (∃ b12 : Nat, F a0 2 = some b12 ∧ K b12 = 6 ∧ (∃ b14 : Nat, F b12 3 = some b14 ∧ (∃ c1 s1 c2 s2 : Nat, c1 + c2 ≤ cb ∧ s1 + s2 ≤ sb ∧ AW E m_Reader_readText (K, n, I, F, J) c1 s1 (zAft E m_Reader_readPieces c2 s2 Q 19 [some (.ref a0), none] [.ref b14]) 0 [some (.ref a0), none, none, none] [])))))) :
    AW E m_Reader_readPieces (K, n, I, F, J) cb sb Q 4 [some (.ref a0), none] [.int sx0] := by
  refine aw_istore_n d_Reader_readPieces_4 (by decide) ?_
  refine aw_iload_n (x := sx0) d_Reader_readPieces_5 rfl ?_
  refine aw_bipush (v := (39 : Int32)) d_Reader_readPieces_6 (by decide) ?_
  refine aw_icmp_ne (tgt := 29) d_Reader_readPieces_8 (by decide) (fun cc1 => ?_) (fun cc1 => ?_)
  · replace w := w.1 cc1
    refine aw_iload_n (x := sx0) d_Reader_readPieces_29 rfl ?_
    refine aw_bipush (v := (120 : Int32)) d_Reader_readPieces_30 (by decide) ?_
    refine aw_icmp_ne (tgt := 53) d_Reader_readPieces_32 (by decide) (fun cc2 => ?_) (fun cc2 => ?_)
    · replace w := w.1 cc2
      refine aw_aload_n (x := a0) d_Reader_readPieces_53 rfl ?_
      obtain ⟨hk3, w⟩ := w
      obtain ⟨b4, hb4, w⟩ := w
      refine gs_Reader_12 rfl hk3 hb4 d_Reader_readPieces_54 ?_
      obtain ⟨hk5, w⟩ := w
      obtain ⟨b6, hb6, w⟩ := w
      refine gs_Reader_151 rfl hk5 hb6 d_Reader_readPieces_57 ?_
      refine aw_aload_n (x := a0) d_Reader_readPieces_60 rfl ?_
      refine aw_bipush (v := (40 : Int32)) d_Reader_readPieces_61 (by decide) ?_
      obtain ⟨c1, s1, c2, s2, hq1, hq2, w⟩ := w
      exact aw_room hq1 hq2 (aw_weak (lv' := [some (.ref a0), none]) ⟨rfl, trivial⟩ (aw_callV (M' := m_Reader_readField) (lv0 := [some (.ref a0), some (.int (40 : Int32)), none, none]) (As := [.int (40 : Int32)]) (rest := [.ref b6]) 2 395 397 398 rfl (by decide) rfl hk3 tb_395 tb_397 tb_398 (fun U hU => hU.p 7 rfl) rfl rfl 1 1 rfl rfl ⟨by decide, by decide, by decide +kernel, by decide +kernel, by decide, by decide⟩ (Nat.le_of_ble_eq_true rfl) ⟨rfl, rfl, trivial⟩ rfl d_Reader_readPieces_63 w))
    · replace w := w.2 cc2
      refine aw_aload_n (x := a0) d_Reader_readPieces_35 rfl ?_
      obtain ⟨hk7, w⟩ := w
      obtain ⟨b8, hb8, w⟩ := w
      refine gs_Reader_12 rfl hk7 hb8 d_Reader_readPieces_36 ?_
      obtain ⟨hk9, w⟩ := w
      obtain ⟨b10, hb10, w⟩ := w
      refine gs_Reader_151 rfl hk9 hb10 d_Reader_readPieces_39 ?_
      refine aw_aload_n (x := a0) d_Reader_readPieces_42 rfl ?_
      obtain ⟨c1, s1, c2, s2, hq1, hq2, w⟩ := w
      exact aw_room hq1 hq2 (aw_weak (lv' := [some (.ref a0), none]) ⟨rfl, trivial⟩ (aw_callV (M' := m_Reader_readBlanks) (lv0 := [some (.ref a0), none]) (As := []) (rest := [.ref b10]) 2 565 567 568 rfl (by decide) rfl hk7 tb_565 tb_567 tb_568 (fun U hU => hU.p 17 rfl) rfl rfl 0 1 rfl rfl ⟨by decide, by decide, by decide +kernel, by decide +kernel, by decide, by decide⟩ (Nat.le_of_ble_eq_true rfl) ⟨rfl, trivial⟩ rfl d_Reader_readPieces_43 w))
  · replace w := w.2 cc1
    refine aw_aload_n (x := a0) d_Reader_readPieces_11 rfl ?_
    obtain ⟨hk11, w⟩ := w
    obtain ⟨b12, hb12, w⟩ := w
    refine gs_Reader_12 rfl hk11 hb12 d_Reader_readPieces_12 ?_
    obtain ⟨hk13, w⟩ := w
    obtain ⟨b14, hb14, w⟩ := w
    refine gs_Reader_151 rfl hk13 hb14 d_Reader_readPieces_15 ?_
    refine aw_aload_n (x := a0) d_Reader_readPieces_18 rfl ?_
    obtain ⟨c1, s1, c2, s2, hq1, hq2, w⟩ := w
    exact aw_room hq1 hq2 (aw_weak (lv' := [some (.ref a0), none]) ⟨rfl, trivial⟩ (aw_callV (M' := m_Reader_readText) (lv0 := [some (.ref a0), none, none, none]) (As := []) (rest := [.ref b14]) 2 523 525 526 rfl (by decide) rfl hk11 tb_523 tb_525 tb_526 (fun U hU => hU.p 14 rfl) rfl rfl 0 1 rfl rfl ⟨by decide, by decide, by decide +kernel, by decide +kernel, by decide, by decide⟩ (Nat.le_of_ble_eq_true rfl) ⟨rfl, trivial⟩ rfl d_Reader_readPieces_19 w))
set_option maxRecDepth 20000 in
theorem r_Reader_readPieces_22 {E : zE} {K n : Nat → Nat} {I : Nat → Nat → Int32} {F : Nat → Nat → Option Nat} {J : Nat → Nat → Int64} {cb sb : Nat} {Q : zO → zH → Prop} {a0 : Nat} {sa0 : Nat} {sa1 : Nat}
    (w : K sa0 = 10 ∧ (∃ c1 s1 c2 s2 : Nat, c1 + c2 ≤ cb ∧ s1 + s2 ≤ sb ∧ AW E m_ArrayList_add (K, n, I, F, J) c1 s1 (zAft E m_Reader_readPieces c2 s2 Q 22 [some (.ref a0), none] []) 0 [some (.ref sa0), some (.ref sa1)] [])) :
    AW E m_Reader_readPieces (K, n, I, F, J) cb sb Q 22 [some (.ref a0), none] [.ref sa1, .ref sa0] := by
  obtain ⟨hk1, w⟩ := w
  obtain ⟨c1, s1, c2, s2, hq1, hq2, w⟩ := w
  exact aw_room hq1 hq2 (aw_weak (lv' := [some (.ref a0), none]) ⟨rfl, trivial⟩ (aw_callV (M' := m_ArrayList_add) (lv0 := [some (.ref sa0), some (.ref sa1)]) (As := [.ref sa1]) (rest := []) 9 456 457 459 rfl (by decide) rfl hk1 tb_456 tb_457 tb_459 (fun U hU => hU.t 458 tb_458 rfl) rfl rfl 1 0 rfl rfl ⟨by decide, by decide, by decide +kernel, by decide +kernel, by decide, by decide⟩ (Nat.le_of_ble_eq_true rfl) ⟨rfl, rfl, trivial⟩ rfl d_Reader_readPieces_22 w))
set_option maxRecDepth 20000 in
theorem r_Reader_readPieces_25 {E : zE} {K n : Nat → Nat} {I : Nat → Nat → Int32} {F : Nat → Nat → Option Nat} {J : Nat → Nat → Int64} {cb sb : Nat} {Q : zO → zH → Prop} {a0 : Nat} {sx0 : Int32}
    (w : K a0 = 3 ∧ (∃ b2 : Nat, F a0 2 = some b2 ∧ K b2 = 6 ∧ (∃ b4 : Nat, F b2 3 = some b4 ∧ K b4 = 10 ∧ AW E m_ArrayList_size (K, n, I, F, J) 0 0 (zAft E m_Reader_readPieces cb sb Q 77 [some (.ref a0), none] []) 0 [some (.ref b4)] []))) :
    AW E m_Reader_readPieces (K, n, I, F, J) cb sb Q 25 [some (.ref a0), none] [.int sx0] := by
  refine aw_pop d_Reader_readPieces_25 rfl ?_
  refine aw_goto (tgt := 70) d_Reader_readPieces_26 (by decide) ?_
  refine aw_aload_n (x := a0) d_Reader_readPieces_70 rfl ?_
  obtain ⟨hk1, w⟩ := w
  obtain ⟨b2, hb2, w⟩ := w
  refine gs_Reader_12 rfl hk1 hb2 d_Reader_readPieces_71 ?_
  obtain ⟨hk3, w⟩ := w
  obtain ⟨b4, hb4, w⟩ := w
  refine gs_Reader_151 rfl hk3 hb4 d_Reader_readPieces_74 ?_
  obtain ⟨hk5, w⟩ := w
  exact aw_room (cb' := 0 + cb) (sb' := 0 + sb) (by omega) (by omega) (aw_weak (lv' := [some (.ref a0), none]) ⟨rfl, trivial⟩ (aw_callV (M' := m_ArrayList_size) (lv0 := [some (.ref b4)]) (As := []) (rest := []) 9 514 515 517 rfl (by decide) rfl hk5 tb_514 tb_515 tb_517 (fun U hU => hU.t 516 tb_516 rfl) rfl rfl 0 0 rfl rfl ⟨by decide, by decide, by decide +kernel, by decide +kernel, by decide, by decide⟩ (Nat.le_of_ble_eq_true rfl) ⟨rfl, trivial⟩ rfl d_Reader_readPieces_77 w))
set_option maxRecDepth 20000 in
theorem r_Reader_readPieces_46 {E : zE} {K n : Nat → Nat} {I : Nat → Nat → Int32} {F : Nat → Nat → Option Nat} {J : Nat → Nat → Int64} {cb sb : Nat} {Q : zO → zH → Prop} {a0 : Nat} {sa0 : Nat} {sa1 : Nat}
    (w : K sa0 = 10 ∧ (∃ c1 s1 c2 s2 : Nat, c1 + c2 ≤ cb ∧ s1 + s2 ≤ sb ∧ AW E m_ArrayList_add (K, n, I, F, J) c1 s1 (zAft E m_Reader_readPieces c2 s2 Q 46 [some (.ref a0), none] []) 0 [some (.ref sa0), some (.ref sa1)] [])) :
    AW E m_Reader_readPieces (K, n, I, F, J) cb sb Q 46 [some (.ref a0), none] [.ref sa1, .ref sa0] := by
  obtain ⟨hk1, w⟩ := w
  obtain ⟨c1, s1, c2, s2, hq1, hq2, w⟩ := w
  exact aw_room hq1 hq2 (aw_weak (lv' := [some (.ref a0), none]) ⟨rfl, trivial⟩ (aw_callV (M' := m_ArrayList_add) (lv0 := [some (.ref sa0), some (.ref sa1)]) (As := [.ref sa1]) (rest := []) 9 456 457 459 rfl (by decide) rfl hk1 tb_456 tb_457 tb_459 (fun U hU => hU.t 458 tb_458 rfl) rfl rfl 1 0 rfl rfl ⟨by decide, by decide, by decide +kernel, by decide +kernel, by decide, by decide⟩ (Nat.le_of_ble_eq_true rfl) ⟨rfl, rfl, trivial⟩ rfl d_Reader_readPieces_46 w))
set_option maxRecDepth 20000 in
theorem r_Reader_readPieces_49 {E : zE} {K n : Nat → Nat} {I : Nat → Nat → Int32} {F : Nat → Nat → Option Nat} {J : Nat → Nat → Int64} {cb sb : Nat} {Q : zO → zH → Prop} {a0 : Nat} {sx0 : Int32}
    (w : K a0 = 3 ∧ (∃ b2 : Nat, F a0 2 = some b2 ∧ K b2 = 6 ∧ (∃ b4 : Nat, F b2 3 = some b4 ∧ K b4 = 10 ∧ AW E m_ArrayList_size (K, n, I, F, J) 0 0 (zAft E m_Reader_readPieces cb sb Q 77 [some (.ref a0), none] []) 0 [some (.ref b4)] []))) :
    AW E m_Reader_readPieces (K, n, I, F, J) cb sb Q 49 [some (.ref a0), none] [.int sx0] := by
  refine aw_pop d_Reader_readPieces_49 rfl ?_
  refine aw_goto (tgt := 70) d_Reader_readPieces_50 (by decide) ?_
  refine aw_aload_n (x := a0) d_Reader_readPieces_70 rfl ?_
  obtain ⟨hk1, w⟩ := w
  obtain ⟨b2, hb2, w⟩ := w
  refine gs_Reader_12 rfl hk1 hb2 d_Reader_readPieces_71 ?_
  obtain ⟨hk3, w⟩ := w
  obtain ⟨b4, hb4, w⟩ := w
  refine gs_Reader_151 rfl hk3 hb4 d_Reader_readPieces_74 ?_
  obtain ⟨hk5, w⟩ := w
  exact aw_room (cb' := 0 + cb) (sb' := 0 + sb) (by omega) (by omega) (aw_weak (lv' := [some (.ref a0), none]) ⟨rfl, trivial⟩ (aw_callV (M' := m_ArrayList_size) (lv0 := [some (.ref b4)]) (As := []) (rest := []) 9 514 515 517 rfl (by decide) rfl hk5 tb_514 tb_515 tb_517 (fun U hU => hU.t 516 tb_516 rfl) rfl rfl 0 0 rfl rfl ⟨by decide, by decide, by decide +kernel, by decide +kernel, by decide, by decide⟩ (Nat.le_of_ble_eq_true rfl) ⟨rfl, trivial⟩ rfl d_Reader_readPieces_77 w))
set_option maxRecDepth 20000 in
theorem r_Reader_readPieces_66 {E : zE} {K n : Nat → Nat} {I : Nat → Nat → Int32} {F : Nat → Nat → Option Nat} {J : Nat → Nat → Int64} {cb sb : Nat} {Q : zO → zH → Prop} {a0 : Nat} {sa0 : Nat} {sa1 : Nat}
    (w : K sa0 = 10 ∧ (∃ c1 s1 c2 s2 : Nat, c1 + c2 ≤ cb ∧ s1 + s2 ≤ sb ∧ AW E m_ArrayList_add (K, n, I, F, J) c1 s1 (zAft E m_Reader_readPieces c2 s2 Q 66 [some (.ref a0), none] []) 0 [some (.ref sa0), some (.ref sa1)] [])) :
    AW E m_Reader_readPieces (K, n, I, F, J) cb sb Q 66 [some (.ref a0), none] [.ref sa1, .ref sa0] := by
  obtain ⟨hk1, w⟩ := w
  obtain ⟨c1, s1, c2, s2, hq1, hq2, w⟩ := w
  exact aw_room hq1 hq2 (aw_weak (lv' := [some (.ref a0), none]) ⟨rfl, trivial⟩ (aw_callV (M' := m_ArrayList_add) (lv0 := [some (.ref sa0), some (.ref sa1)]) (As := [.ref sa1]) (rest := []) 9 456 457 459 rfl (by decide) rfl hk1 tb_456 tb_457 tb_459 (fun U hU => hU.t 458 tb_458 rfl) rfl rfl 1 0 rfl rfl ⟨by decide, by decide, by decide +kernel, by decide +kernel, by decide, by decide⟩ (Nat.le_of_ble_eq_true rfl) ⟨rfl, rfl, trivial⟩ rfl d_Reader_readPieces_66 w))
set_option maxRecDepth 20000 in
theorem r_Reader_readPieces_69 {E : zE} {K n : Nat → Nat} {I : Nat → Nat → Int32} {F : Nat → Nat → Option Nat} {J : Nat → Nat → Int64} {cb sb : Nat} {Q : zO → zH → Prop} {a0 : Nat} {sx0 : Int32}
    (w : K a0 = 3 ∧ (∃ b2 : Nat, F a0 2 = some b2 ∧ K b2 = 6 ∧ (∃ b4 : Nat, F b2 3 = some b4 ∧ K b4 = 10 ∧ AW E m_ArrayList_size (K, n, I, F, J) 0 0 (zAft E m_Reader_readPieces cb sb Q 77 [some (.ref a0), none] []) 0 [some (.ref b4)] []))) :
    AW E m_Reader_readPieces (K, n, I, F, J) cb sb Q 69 [some (.ref a0), none] [.int sx0] := by
  refine aw_pop d_Reader_readPieces_69 rfl ?_
  refine aw_aload_n (x := a0) d_Reader_readPieces_70 rfl ?_
  obtain ⟨hk1, w⟩ := w
  obtain ⟨b2, hb2, w⟩ := w
  refine gs_Reader_12 rfl hk1 hb2 d_Reader_readPieces_71 ?_
  obtain ⟨hk3, w⟩ := w
  obtain ⟨b4, hb4, w⟩ := w
  refine gs_Reader_151 rfl hk3 hb4 d_Reader_readPieces_74 ?_
  obtain ⟨hk5, w⟩ := w
  exact aw_room (cb' := 0 + cb) (sb' := 0 + sb) (by omega) (by omega) (aw_weak (lv' := [some (.ref a0), none]) ⟨rfl, trivial⟩ (aw_callV (M' := m_ArrayList_size) (lv0 := [some (.ref b4)]) (As := []) (rest := []) 9 514 515 517 rfl (by decide) rfl hk5 tb_514 tb_515 tb_517 (fun U hU => hU.t 516 tb_516 rfl) rfl rfl 0 0 rfl rfl ⟨by decide, by decide, by decide +kernel, by decide +kernel, by decide, by decide⟩ (Nat.le_of_ble_eq_true rfl) ⟨rfl, trivial⟩ rfl d_Reader_readPieces_77 w))
set_option maxRecDepth 20000 in
theorem r_Reader_readPieces_80 {E : zE} {K n : Nat → Nat} {I : Nat → Nat → Int32} {F : Nat → Nat → Option Nat} {J : Nat → Nat → Int64} {cb sb : Nat} {Q : zO → zH → Prop} {a0 : Nat} {sx0 : Int32}
    (w : (((12 : Int32) ≤ sx0 → Q (.inl none) (K, n, I, F, J)) ∧ (¬ (12 : Int32) ≤ sx0 → K a0 = 3 ∧ AW E m_Reader_nextSign (K, n, I, F, J) 0 0 (zAft E m_Reader_readPieces cb sb Q 86 [some (.ref a0), none] []) 0 [some (.ref a0)] []))) :
    AW E m_Reader_readPieces (K, n, I, F, J) cb sb Q 80 [some (.ref a0), none] [.int sx0] := by
  refine aw_bipush (v := (12 : Int32)) d_Reader_readPieces_80 (by decide) ?_
  refine aw_icmp_ge (tgt := 94) d_Reader_readPieces_82 (by decide) (fun cc1 => ?_) (fun cc1 => ?_)
  · replace w := w.1 cc1
    exact aw_return rfl d_Reader_readPieces_94 w
  · replace w := w.2 cc1
    refine aw_aload_n (x := a0) d_Reader_readPieces_85 rfl ?_
    obtain ⟨hk2, w⟩ := w
    exact aw_room (cb' := 0 + cb) (sb' := 0 + sb) (by omega) (by omega) (aw_weak (lv' := [some (.ref a0), none]) ⟨rfl, trivial⟩ (aw_callV (M' := m_Reader_nextSign) (lv0 := [some (.ref a0)]) (As := []) (rest := []) 2 248 250 251 rfl (by decide) rfl hk2 tb_248 tb_250 tb_251 (fun U hU => hU.p 1 rfl) rfl rfl 0 0 rfl rfl ⟨by decide, by decide, by decide +kernel, by decide +kernel, by decide, by decide⟩ (Nat.le_of_ble_eq_true rfl) ⟨rfl, trivial⟩ rfl d_Reader_readPieces_86 w))
set_option maxRecDepth 20000 in
theorem r_Reader_readPieces_89 {E : zE} {K n : Nat → Nat} {I : Nat → Nat → Int32} {F : Nat → Nat → Option Nat} {J : Nat → Nat → Int64} {cb sb : Nat} {Q : zO → zH → Prop} {a0 : Nat} {sx0 : Int32}
    (w : ((¬ sx0 = (59 : Int32) → AW E m_Reader_readPieces (K, n, I, F, J) cb sb Q 0 [some (.ref a0), none] []) ∧ (sx0 = (59 : Int32) → Q (.inl none) (K, n, I, F, J)))) :
    AW E m_Reader_readPieces (K, n, I, F, J) cb sb Q 89 [some (.ref a0), none] [.int sx0] := by
  refine aw_bipush (v := (59 : Int32)) d_Reader_readPieces_89 (by decide) ?_
  refine aw_icmp_ne (tgt := 0) d_Reader_readPieces_91 (by decide) (fun cc1 => ?_) (fun cc1 => ?_)
  · replace w := w.1 cc1
    exact aw_weak (lv' := [some (.ref a0), none]) ⟨rfl, trivial⟩ w
  · replace w := w.2 cc1
    exact aw_return rfl d_Reader_readPieces_94 w
set_option maxRecDepth 20000 in
theorem r_Reader_readWord_0 {E : zE} {K n : Nat → Nat} {I : Nat → Nat → Int32} {F : Nat → Nat → Option Nat} {J : Nat → Nat → Int64} {cb sb : Nat} {Q : zO → zH → Prop} {a0 : Nat}
    (w : K a0 = 3 ∧ AW E m_Reader_readWord (K, n, I, F, J) cb sb Q 5 [some (.ref a0), some (.int (I a0 4)), none, none] []) :
    AW E m_Reader_readWord (K, n, I, F, J) cb sb Q 0 [some (.ref a0), none, none, none] [] := by
  refine aw_aload_n (x := a0) d_Reader_readWord_0 rfl ?_
  obtain ⟨hk1, w⟩ := w
  refine gf_Reader_22 rfl hk1 d_Reader_readWord_1 ?_
  refine aw_istore_n d_Reader_readWord_4 (by decide) ?_
  exact aw_weak (lv' := [some (.ref a0), some (.int (I a0 4)), none, none]) ⟨rfl, rfl, trivial⟩ w
set_option maxRecDepth 20000 in
theorem r_Reader_readWord_5 {E : zE} {K n : Nat → Nat} {I : Nat → Nat → Int32} {F : Nat → Nat → Option Nat} {J : Nat → Nat → Int64} {cb sb : Nat} {Q : zO → zH → Prop} {a0 : Nat} {x1 : Int32}
    (w : K a0 = 3 ∧ (((I a0 1) ≤ x1 → AW E m_Reader_readWord (K, n, I, F, J) cb sb Q 33 [some (.ref a0), some (.int x1), some (.int (0 : Int32)), none] []) ∧ (¬ (I a0 1) ≤ x1 → (∃ b3 : Nat, F a0 0 = some b3 ∧ K b3 = 21 ∧ (∃ j5 : Nat, x1 = nI j5 ∧ j5 < n b3 ∧ j5 < 2147483648 ∧ AW E m_Reader_isLetter (K, n, I, F, J) 0 0 (zAft E m_Reader_readWord cb sb Q 19 [some (.ref a0), some (.int x1), none, none] []) 0 [some (.int (I b3 j5))] []))))) :
    AW E m_Reader_readWord (K, n, I, F, J) cb sb Q 5 [some (.ref a0), some (.int x1), none, none] [] := by
  refine aw_iload_n (x := x1) d_Reader_readWord_5 rfl ?_
  refine aw_aload_n (x := a0) d_Reader_readWord_6 rfl ?_
  obtain ⟨hk1, w⟩ := w
  refine gf_Reader_35 rfl hk1 d_Reader_readWord_7 ?_
  refine aw_icmp_ge (tgt := 31) d_Reader_readWord_10 (by decide) (fun cc2 => ?_) (fun cc2 => ?_)
  · replace w := w.1 cc2
    refine aw_iconst (v := (0 : Int32)) d_Reader_readWord_31 (by decide) ?_
    refine aw_istore_n d_Reader_readWord_32 (by decide) ?_
    exact aw_weak (lv' := [some (.ref a0), some (.int x1), some (.int (0 : Int32)), none]) ⟨rfl, rfl, rfl, trivial⟩ w
  · replace w := w.2 cc2
    refine aw_aload_n (x := a0) d_Reader_readWord_13 rfl ?_
    obtain ⟨b3, hb3, w⟩ := w
    refine gs_Reader_25 rfl hk1 hb3 d_Reader_readWord_14 ?_
    refine aw_iload_n (x := x1) d_Reader_readWord_17 rfl ?_
    obtain ⟨hk4, w⟩ := w
    obtain ⟨j5, hj5a, hj5b, hj5c, w⟩ := w
    refine aw_iaload j5 hk4 hj5a hj5b hj5c d_Reader_readWord_18 ?_
    exact aw_room (cb' := 0 + cb) (sb' := 0 + sb) (by omega) (by omega) (aw_weak (lv' := [some (.ref a0), some (.int x1), none, none]) ⟨rfl, rfl, trivial⟩ (aw_callS (M' := m_Reader_isLetter) (lv0 := [some (.int (I b3 j5))]) (As := [.int (I b3 j5)]) (rest := []) 256 257 258 9 tb_256 tb_257 tb_258 tb_9 rfl rfl 1 0 rfl rfl ⟨by decide, by decide, by decide +kernel, by decide +kernel, by decide, by decide⟩ (Nat.le_of_ble_eq_true rfl) ⟨rfl, trivial⟩ rfl d_Reader_readWord_19 w))
set_option maxRecDepth 20000 in
theorem r_Reader_readWord_22 {E : zE} {K n : Nat → Nat} {I : Nat → Nat → Int32} {F : Nat → Nat → Option Nat} {J : Nat → Nat → Int64} {cb sb : Nat} {Q : zO → zH → Prop} {a0 : Nat} {x1 : Int32} {sx0 : Int32}
    (w : ((sx0 = 0 → AW E m_Reader_readWord (K, n, I, F, J) cb sb Q 33 [some (.ref a0), some (.int x1), some (.int (0 : Int32)), none] []) ∧ (¬ sx0 = 0 → AW E m_Reader_readWord (K, n, I, F, J) cb sb Q 5 [some (.ref a0), some (.int (x1 + (1 : Int32))), none, none] []))) :
    AW E m_Reader_readWord (K, n, I, F, J) cb sb Q 22 [some (.ref a0), some (.int x1), none, none] [.int sx0] := by
  refine aw_if_eq (tgt := 31) d_Reader_readWord_22 (by decide) (fun cc1 => ?_) (fun cc1 => ?_)
  · replace w := w.1 cc1
    refine aw_iconst (v := (0 : Int32)) d_Reader_readWord_31 (by decide) ?_
    refine aw_istore_n d_Reader_readWord_32 (by decide) ?_
    exact aw_weak (lv' := [some (.ref a0), some (.int x1), some (.int (0 : Int32)), none]) ⟨rfl, rfl, rfl, trivial⟩ w
  · replace w := w.2 cc1
    refine aw_iinc (v := (x1 + (1 : Int32))) d_Reader_readWord_25 rfl (by rfl) (by decide) ?_
    refine aw_goto (tgt := 5) d_Reader_readWord_28 (by decide) ?_
    exact aw_weak (lv' := [some (.ref a0), some (.int (x1 + (1 : Int32))), none, none]) ⟨rfl, rfl, trivial⟩ w
set_option maxRecDepth 20000 in
theorem r_Reader_readWord_33 {E : zE} {K n : Nat → Nat} {I : Nat → Nat → Int32} {F : Nat → Nat → Option Nat} {J : Nat → Nat → Int64} {cb sb : Nat} {Q : zO → zH → Prop} {a0 : Nat} {x1 : Int32} {x2 : Int32}
    (w : (((nI 7) ≤ x2 → (1 ≤ cb ∧ 6 ≤ sb ∧ Q (.inr "java/lang/IllegalArgumentException") (K, n, I, F, J))) ∧ (¬ (nI 7) ≤ x2 → (∃ j2 : Nat, x2 = nI j2 ∧ j2 < 7 ∧ K a0 = 3 ∧ ((¬ ((I a0 3) &&& (zwbit.getD j2 0)) = 0 → AW E m_Reader_readWord (K, n, I, F, J) cb sb Q 33 [some (.ref a0), some (.int x1), some (.int (x2 + (1 : Int32))), none] []) ∧ (((I a0 3) &&& (zwbit.getD j2 0)) = 0 → (∃ c1 s1 c2 s2 : Nat, c1 + c2 ≤ cb ∧ s1 + s2 ≤ sb ∧ AW E m_Reader_spells (K, n, I, F, J) c1 s1 (zAft E m_Reader_readWord c2 s2 Q 65 [some (.ref a0), some (.int x1), some (.int x2), some (.ref (E.2.1 (20 + j2)))] []) 0 [some (.ref a0), some (.ref (E.2.1 (100 + j2))), some (.int x1), none] []))))))) :
    AW E m_Reader_readWord (K, n, I, F, J) cb sb Q 33 [some (.ref a0), some (.int x1), some (.int x2), none] [] := by
  refine aw_iload_n (x := x2) d_Reader_readWord_33 rfl ?_
  refine aw_getsNZ 6 259 (fun _ q => q) tb_259 d_Reader_readWord_34 ?_
  refine aw_alenC (fun U q => q 7) d_Reader_readWord_37 ?_
  refine aw_icmp_ge (tgt := 97) d_Reader_readWord_38 (by decide) (fun cc1 => ?_) (fun cc1 => ?_)
  · replace w := w.1 cc1
    exact aw_throwS (cls := "java/lang/IllegalArgumentException") (names := ["java/lang/RuntimeException", "java/lang/Exception"]) 7 313 18 (by decide) rfl rfl (by decide +kernel) (by decide +kernel) tb_313 tb_18 zth_R zth_Rg d_Reader_readWord_97 d_Reader_readWord_100 d_Reader_readWord_101 d_Reader_readWord_103 d_Reader_readWord_106 rfl (by decide) (by decide) w.1 w.2.1 w.2.2
  · replace w := w.2 cc1
    refine aw_getsNZ 6 259 (fun _ q => q) tb_259 d_Reader_readWord_41 ?_
    refine aw_iload_n (x := x2) d_Reader_readWord_44 rfl ?_
    obtain ⟨j2, hj2a, hj2b, w⟩ := w
    refine aw_aaldC (f := fun j => .ref (E.2.1 (20 + j))) j2 (fun U q => q 7) hj2a hj2b (by decide) d_Reader_readWord_45 ?_
    refine aw_astore_n d_Reader_readWord_46 (by decide) ?_
    refine aw_aload_n (x := a0) d_Reader_readWord_47 rfl ?_
    obtain ⟨hk3, w⟩ := w
    refine gf_Reader_18 rfl hk3 d_Reader_readWord_48 ?_
    refine aw_aload_n (x := (E.2.1 (20 + j2))) d_Reader_readWord_51 rfl ?_
    refine aw_getC (ref := "") 1167 (fun U q => ((q 10) j2 hj2b).2.2.2) tb_1167 d_Reader_readWord_52 ?_
    refine aw_iand d_Reader_readWord_55 ?_
    refine aw_if_ne (tgt := 91) d_Reader_readWord_56 (by decide) (fun cc4 => ?_) (fun cc4 => ?_)
    · replace w := w.1 cc4
      refine aw_iinc (v := (x2 + (1 : Int32))) d_Reader_readWord_91 rfl (by rfl) (by decide) ?_
      refine aw_goto (tgt := 33) d_Reader_readWord_94 (by decide) ?_
      exact aw_weak (lv' := [some (.ref a0), some (.int x1), some (.int (x2 + (1 : Int32))), none]) ⟨rfl, rfl, rfl, trivial⟩ w
    · replace w := w.2 cc4
      refine aw_aload_n (x := a0) d_Reader_readWord_59 rfl ?_
      refine aw_aload_n (x := (E.2.1 (20 + j2))) d_Reader_readWord_60 rfl ?_
      refine aw_getC (ref := "") 1168 (fun U q => ((q 10) j2 hj2b).2.2.1) tb_1168 d_Reader_readWord_61 ?_
      refine aw_iload_n (x := x1) d_Reader_readWord_64 rfl ?_
      obtain ⟨c1, s1, c2, s2, hq1, hq2, w⟩ := w
      exact aw_room hq1 hq2 (aw_weak (lv' := [some (.ref a0), some (.int x1), some (.int x2), some (.ref (E.2.1 (20 + j2)))]) ⟨rfl, rfl, rfl, rfl, trivial⟩ (aw_callV (M' := m_Reader_spells) (lv0 := [some (.ref a0), some (.ref (E.2.1 (100 + j2))), some (.int x1), none]) (As := [.ref (E.2.1 (100 + j2)), .int x1]) (rest := []) 2 261 263 264 rfl (by decide) rfl hk3 tb_261 tb_263 tb_264 (fun U hU => hU.p 3 rfl) rfl rfl 2 0 rfl rfl ⟨by decide, by decide, by decide +kernel, by decide +kernel, by decide, by decide⟩ (Nat.le_of_ble_eq_true rfl) ⟨rfl, rfl, rfl, trivial⟩ rfl d_Reader_readWord_65 w))
set_option maxRecDepth 20000 in
theorem r_Reader_readWord_68 {E : zE} {K n : Nat → Nat} {I : Nat → Nat → Int32} {F : Nat → Nat → Option Nat} {J : Nat → Nat → Int64} {cb sb : Nat} {Q : zO → zH → Prop} {a0 : Nat} {x1 : Int32} {x2 : Int32} {a3 : Nat} {sx0 : Int32}
    (w : ((sx0 = 0 → AW E m_Reader_readWord (K, n, I, F, J) cb sb Q 33 [some (.ref a0), some (.int x1), some (.int (x2 + (1 : Int32))), none] []) ∧ (¬ sx0 = 0 → K a0 = 3 ∧ (∃ u3 : Nat, u3 < 7 ∧ a3 = E.2.1 (20 + u3) ∧ Q (.inl (some (.ref (E.2.1 (20 + u3))))) (K, n, (zup (zup I a0 3 ((I a0 3) ||| (zwbit.getD u3 0))) a0 4 x1), F, J))))) :
    AW E m_Reader_readWord (K, n, I, F, J) cb sb Q 68 [some (.ref a0), some (.int x1), some (.int x2), some (.ref a3)] [.int sx0] := by
  refine aw_if_eq (tgt := 91) d_Reader_readWord_68 (by decide) (fun cc1 => ?_) (fun cc1 => ?_)
  · replace w := w.1 cc1
    refine aw_iinc (v := (x2 + (1 : Int32))) d_Reader_readWord_91 rfl (by rfl) (by decide) ?_
    refine aw_goto (tgt := 33) d_Reader_readWord_94 (by decide) ?_
    exact aw_weak (lv' := [some (.ref a0), some (.int x1), some (.int (x2 + (1 : Int32))), none]) ⟨rfl, rfl, rfl, trivial⟩ w
  · replace w := w.2 cc1
    refine aw_aload_n (x := a0) d_Reader_readWord_71 rfl ?_
    refine aw_dup d_Reader_readWord_72 rfl ?_
    obtain ⟨hk2, w⟩ := w
    refine gf_Reader_18 rfl hk2 d_Reader_readWord_73 ?_
    refine aw_aload_n (x := a3) d_Reader_readWord_76 rfl ?_
    obtain ⟨u3, hu3, eu3, w⟩ := w
    subst eu3
    refine aw_getC (ref := "") 1167 (fun U q => ((q 10) u3 hu3).2.2.2) tb_1167 d_Reader_readWord_77 ?_
    refine aw_ior d_Reader_readWord_80 ?_
    refine pf_Reader_18 rfl hk2 d_Reader_readWord_81 ?_
    refine aw_aload_n (x := a0) d_Reader_readWord_84 rfl ?_
    refine aw_iload_n (x := x1) d_Reader_readWord_85 rfl ?_
    refine pf_Reader_22 rfl hk2 d_Reader_readWord_86 ?_
    refine aw_aload_n (x := (E.2.1 (20 + u3))) d_Reader_readWord_89 rfl ?_
    exact aw_areturn (r := (some (E.2.1 (20 + u3)))) _ rfl rfl d_Reader_readWord_90 w
set_option maxRecDepth 20000 in
theorem r_Reader_spells_0 {E : zE} {K n : Nat → Nat} {I : Nat → Nat → Int32} {F : Nat → Nat → Option Nat} {J : Nat → Nat → Int64} {cb sb : Nat} {Q : zO → zH → Prop} {a0 : Nat} {a1 : Nat} {x2 : Int32}
    (w : K a0 = 3 ∧ (((I a0 1) < x2 → Q (.inl (some (.int (0 : Int32)))) (K, n, I, F, J)) ∧ (¬ (I a0 1) < x2 → (∃ u3 : Nat, u3 < 21 ∧ a1 = E.2.1 (100 + u3) ∧ (((x2 - (I a0 4)) = (nI (zslen.getD u3 0)) → AW E m_Reader_spells (K, n, I, F, J) cb sb Q 25 [some (.ref a0), some (.ref (E.2.1 (100 + u3))), none, some (.int (0 : Int32))] []) ∧ (¬ (x2 - (I a0 4)) = (nI (zslen.getD u3 0)) → Q (.inl (some (.int (0 : Int32)))) (K, n, I, F, J))))))) :
    AW E m_Reader_spells (K, n, I, F, J) cb sb Q 0 [some (.ref a0), some (.ref a1), some (.int x2), none] [] := by
  refine aw_iload_n (x := x2) d_Reader_spells_0 rfl ?_
  refine aw_aload_n (x := a0) d_Reader_spells_1 rfl ?_
  obtain ⟨hk1, w⟩ := w
  refine gf_Reader_35 rfl hk1 d_Reader_spells_2 ?_
  refine aw_icmp_gt (tgt := 21) d_Reader_spells_5 (by decide) (fun cc2 => ?_) (fun cc2 => ?_)
  · replace w := w.1 cc2
    refine aw_iconst (v := (0 : Int32)) d_Reader_spells_21 (by decide) ?_
    exact aw_ireturn .boolean rfl rfl d_Reader_spells_22 w
  · replace w := w.2 cc2
    refine aw_iload_n (x := x2) d_Reader_spells_8 rfl ?_
    refine aw_aload_n (x := a0) d_Reader_spells_9 rfl ?_
    refine gf_Reader_22 rfl hk1 d_Reader_spells_10 ?_
    refine aw_isub d_Reader_spells_13 ?_
    refine aw_aload_n (x := a1) d_Reader_spells_14 rfl ?_
    obtain ⟨u3, hu3, eu3, w⟩ := w
    subst eu3
    refine aw_strlen hu3 tb_265 rfl ⟨by decide, by decide, by decide +kernel, by decide +kernel, by decide, Nat.le_of_ble_eq_true rfl⟩ d_Reader_spells_15 ?_
    refine aw_icmp_eq (tgt := 23) d_Reader_spells_18 (by decide) (fun cc4 => ?_) (fun cc4 => ?_)
    · replace w := w.1 cc4
      refine aw_iconst (v := (0 : Int32)) d_Reader_spells_23 (by decide) ?_
      refine aw_istore_n d_Reader_spells_24 (by decide) ?_
      exact aw_weak (lv' := [some (.ref a0), some (.ref (E.2.1 (100 + u3))), none, some (.int (0 : Int32))]) ⟨rfl, rfl, rfl, trivial⟩ w
    · replace w := w.2 cc4
      refine aw_iconst (v := (0 : Int32)) d_Reader_spells_21 (by decide) ?_
      exact aw_ireturn .boolean rfl rfl d_Reader_spells_22 w
set_option maxRecDepth 20000 in
theorem r_Reader_spells_25 {E : zE} {K n : Nat → Nat} {I : Nat → Nat → Int32} {F : Nat → Nat → Option Nat} {J : Nat → Nat → Int64} {cb sb : Nat} {Q : zO → zH → Prop} {a0 : Nat} {a1 : Nat} {x3 : Int32}
    (w : (∃ u1 : Nat, u1 < 21 ∧ a1 = E.2.1 (100 + u1) ∧ (((nI (zslen.getD u1 0)) ≤ x3 → Q (.inl (some (.int (1 : Int32)))) (K, n, I, F, J)) ∧ (¬ (nI (zslen.getD u1 0)) ≤ x3 → K a0 = 3 ∧ (∃ b4 : Nat, F a0 0 = some b4 ∧ K b4 = 21 ∧ (∃ j6 : Nat, ((I a0 4) + x3) = nI j6 ∧ j6 < n b4 ∧ j6 < 2147483648 ∧ (∃ j7 : Nat, x3 = nI j7 ∧ j7 < zslen.getD u1 0 ∧ (((I b4 j6) = ((zsbyt.getD u1 []).getD j7 0) → AW E m_Reader_spells (K, n, I, F, J) cb sb Q 25 [some (.ref a0), some (.ref (E.2.1 (100 + u1))), none, some (.int (x3 + (1 : Int32)))] []) ∧ (¬ (I b4 j6) = ((zsbyt.getD u1 []).getD j7 0) → Q (.inl (some (.int (0 : Int32)))) (K, n, I, F, J)))))))))) :
    AW E m_Reader_spells (K, n, I, F, J) cb sb Q 25 [some (.ref a0), some (.ref a1), none, some (.int x3)] [] := by
  refine aw_iload_n (x := x3) d_Reader_spells_25 rfl ?_
  refine aw_aload_n (x := a1) d_Reader_spells_26 rfl ?_
  obtain ⟨u1, hu1, eu1, w⟩ := w
  subst eu1
  refine aw_strlen hu1 tb_265 rfl ⟨by decide, by decide, by decide +kernel, by decide +kernel, by decide, Nat.le_of_ble_eq_true rfl⟩ d_Reader_spells_27 ?_
  refine aw_icmp_ge (tgt := 60) d_Reader_spells_30 (by decide) (fun cc2 => ?_) (fun cc2 => ?_)
  · replace w := w.1 cc2
    refine aw_iconst (v := (1 : Int32)) d_Reader_spells_60 (by decide) ?_
    exact aw_ireturn .boolean rfl rfl d_Reader_spells_61 w
  · replace w := w.2 cc2
    refine aw_aload_n (x := a0) d_Reader_spells_33 rfl ?_
    obtain ⟨hk3, w⟩ := w
    obtain ⟨b4, hb4, w⟩ := w
    refine gs_Reader_25 rfl hk3 hb4 d_Reader_spells_34 ?_
    refine aw_aload_n (x := a0) d_Reader_spells_37 rfl ?_
    refine gf_Reader_22 rfl hk3 d_Reader_spells_38 ?_
    refine aw_iload_n (x := x3) d_Reader_spells_41 rfl ?_
    refine aw_iadd d_Reader_spells_42 ?_
    obtain ⟨hk5, w⟩ := w
    obtain ⟨j6, hj6a, hj6b, hj6c, w⟩ := w
    refine aw_iaload j6 hk5 hj6a hj6b hj6c d_Reader_spells_43 ?_
    refine aw_aload_n (x := (E.2.1 (100 + u1))) d_Reader_spells_44 rfl ?_
    refine aw_iload_n (x := x3) d_Reader_spells_45 rfl ?_
    obtain ⟨j7, hj7a, hj7b, w⟩ := w
    refine aw_strchr hu1 hj7a hj7b tb_275 rfl ⟨by decide, by decide, by decide +kernel, by decide +kernel, by decide, Nat.le_of_ble_eq_true rfl⟩ d_Reader_spells_46 ?_
    refine aw_icmp_eq (tgt := 54) d_Reader_spells_49 (by decide) (fun cc8 => ?_) (fun cc8 => ?_)
    · replace w := w.1 cc8
      refine aw_iinc (v := (x3 + (1 : Int32))) d_Reader_spells_54 rfl (by rfl) (by decide) ?_
      refine aw_goto (tgt := 25) d_Reader_spells_57 (by decide) ?_
      exact aw_weak (lv' := [some (.ref a0), some (.ref (E.2.1 (100 + u1))), none, some (.int (x3 + (1 : Int32)))]) ⟨rfl, rfl, rfl, trivial⟩ w
    · replace w := w.2 cc8
      refine aw_iconst (v := (0 : Int32)) d_Reader_spells_52 (by decide) ?_
      exact aw_ireturn .boolean rfl rfl d_Reader_spells_53 w
set_option maxRecDepth 20000 in
theorem r_Reader_readField_0 {E : zE} {K n : Nat → Nat} {I : Nat → Nat → Int32} {F : Nat → Nat → Option Nat} {J : Nat → Nat → Int64} {cb sb : Nat} {Q : zO → zH → Prop} {a0 : Nat} {x1 : Int32}
    (w : K a0 = 3 ∧ (∃ c1 s1 c2 s2 : Nat, c1 + c2 ≤ cb ∧ s1 + s2 ≤ sb ∧ AW E m_Reader_readNumber (K, n, I, F, J) c1 s1 (zAft E m_Reader_readField c2 s2 Q 4 [some (.ref a0), some (.int x1), none, none] []) 0 [some (.ref a0), some (.int (1 : Int32)), some (.int (100 : Int32)), none, none, none] [])) :
    AW E m_Reader_readField (K, n, I, F, J) cb sb Q 0 [some (.ref a0), some (.int x1), none, none] [] := by
  refine aw_aload_n (x := a0) d_Reader_readField_0 rfl ?_
  refine aw_iconst (v := (1 : Int32)) d_Reader_readField_1 (by decide) ?_
  refine aw_bipush (v := (100 : Int32)) d_Reader_readField_2 (by decide) ?_
  obtain ⟨hk1, w⟩ := w
  obtain ⟨c1, s1, c2, s2, hq1, hq2, w⟩ := w
  exact aw_room hq1 hq2 (aw_weak (lv' := [some (.ref a0), some (.int x1), none, none]) ⟨rfl, rfl, trivial⟩ (aw_callV (M' := m_Reader_readNumber) (lv0 := [some (.ref a0), some (.int (1 : Int32)), some (.int (100 : Int32)), none, none, none]) (As := [.int (1 : Int32), .int (100 : Int32)]) (rest := []) 2 399 401 402 rfl (by decide) rfl hk1 tb_399 tb_401 tb_402 (fun U hU => hU.p 8 rfl) rfl rfl 2 0 rfl rfl ⟨by decide, by decide, by decide +kernel, by decide +kernel, by decide, by decide⟩ (Nat.le_of_ble_eq_true rfl) ⟨rfl, rfl, rfl, trivial⟩ rfl d_Reader_readField_4 w))
set_option maxRecDepth 20000 in
theorem r_Reader_readField_7 {E : zE} {K n : Nat → Nat} {I : Nat → Nat → Int32} {F : Nat → Nat → Option Nat} {J : Nat → Nat → Int64} {cb sb : Nat} {Q : zO → zH → Prop} {a0 : Nat} {x1 : Int32} {sx0 : Int32}
    (w : K a0 = 3 ∧ (∃ c1 s1 c2 s2 : Nat, c1 + c2 ≤ cb ∧ s1 + s2 ≤ sb ∧ AW E m_Reader_take (K, n, I, F, J) c1 s1 (zAft E m_Reader_readField c2 s2 Q 11 [some (.ref a0), some (.int x1), some (.int sx0), none] []) 0 [some (.ref a0), some (.ref (E.2.1 (100 + 9))), none, none] [])) :
    AW E m_Reader_readField (K, n, I, F, J) cb sb Q 7 [some (.ref a0), some (.int x1), none, none] [.int sx0] := by
  refine aw_istore_n d_Reader_readField_7 (by decide) ?_
  refine aw_aload_n (x := a0) d_Reader_readField_8 rfl ?_
  refine aw_ldcS 9 (by decide) rfl rfl d_Reader_readField_9 ?_
  obtain ⟨hk1, w⟩ := w
  obtain ⟨c1, s1, c2, s2, hq1, hq2, w⟩ := w
  exact aw_room hq1 hq2 (aw_weak (lv' := [some (.ref a0), some (.int x1), some (.int sx0), none]) ⟨rfl, rfl, rfl, trivial⟩ (aw_callV (M' := m_Reader_take) (lv0 := [some (.ref a0), some (.ref (E.2.1 (100 + 9))), none, none]) (As := [.ref (E.2.1 (100 + 9))]) (rest := []) 2 408 410 411 rfl (by decide) rfl hk1 tb_408 tb_410 tb_411 (fun U hU => hU.p 9 rfl) rfl rfl 1 0 rfl rfl ⟨by decide, by decide, by decide +kernel, by decide +kernel, by decide, by decide⟩ (Nat.le_of_ble_eq_true rfl) ⟨rfl, rfl, trivial⟩ rfl d_Reader_readField_11 w))
set_option maxRecDepth 20000 in
theorem r_Reader_readField_14 {E : zE} {K n : Nat → Nat} {I : Nat → Nat → Int32} {F : Nat → Nat → Option Nat} {J : Nat → Nat → Int64} {cb sb : Nat} {Q : zO → zH → Prop} {a0 : Nat} {x1 : Int32} {x2 : Int32} {sx0 : Int32}
    (w : AW E m_Math_min (K, n, I, F, J) 0 0 (zAft E m_Reader_readField cb sb Q 22 [none, none, some (.int x2), none] [.int (1 : Int32), .ref a0]) 0 [some (.int x1), some (.int ((101 : Int32) - x2))] []) :
    AW E m_Reader_readField (K, n, I, F, J) cb sb Q 14 [some (.ref a0), some (.int x1), some (.int x2), none] [.int sx0] := by
  refine aw_pop d_Reader_readField_14 rfl ?_
  refine aw_aload_n (x := a0) d_Reader_readField_15 rfl ?_
  refine aw_iconst (v := (1 : Int32)) d_Reader_readField_16 (by decide) ?_
  refine aw_iload_n (x := x1) d_Reader_readField_17 rfl ?_
  refine aw_bipush (v := (101 : Int32)) d_Reader_readField_18 (by decide) ?_
  refine aw_iload_n (x := x2) d_Reader_readField_20 rfl ?_
  refine aw_isub d_Reader_readField_21 ?_
  exact aw_room (cb' := 0 + cb) (sb' := 0 + sb) (by omega) (by omega) (aw_weak (lv' := [none, none, some (.int x2), none]) ⟨rfl, trivial⟩ (aw_callS (M' := m_Math_min) (lv0 := [some (.int x1), some (.int ((101 : Int32) - x2))]) (As := [.int x1, .int ((101 : Int32) - x2)]) (rest := [.int (1 : Int32), .ref a0]) 220 221 222 10 tb_220 tb_221 tb_222 tb_10 rfl rfl 2 2 rfl rfl ⟨by decide, by decide, by decide +kernel, by decide +kernel, by decide, by decide⟩ (Nat.le_of_ble_eq_true rfl) ⟨rfl, rfl, trivial⟩ rfl d_Reader_readField_22 w))
set_option maxRecDepth 20000 in
theorem r_Reader_readField_25 {E : zE} {K n : Nat → Nat} {I : Nat → Nat → Int32} {F : Nat → Nat → Option Nat} {J : Nat → Nat → Int64} {cb sb : Nat} {Q : zO → zH → Prop} {x2 : Int32} {sa0 : Nat} {sx1 : Int32} {sx2 : Int32}
    (w : K sa0 = 3 ∧ (∃ c1 s1 c2 s2 : Nat, c1 + c2 ≤ cb ∧ s1 + s2 ≤ sb ∧ AW E m_Reader_readNumber (K, n, I, F, J) c1 s1 (zAft E m_Reader_readField c2 s2 Q 25 [none, none, some (.int x2), none] []) 0 [some (.ref sa0), some (.int sx1), some (.int sx2), none, none, none] [])) :
    AW E m_Reader_readField (K, n, I, F, J) cb sb Q 25 [none, none, some (.int x2), none] [.int sx2, .int sx1, .ref sa0] := by
  obtain ⟨hk1, w⟩ := w
  obtain ⟨c1, s1, c2, s2, hq1, hq2, w⟩ := w
  exact aw_room hq1 hq2 (aw_weak (lv' := [none, none, some (.int x2), none]) ⟨rfl, trivial⟩ (aw_callV (M' := m_Reader_readNumber) (lv0 := [some (.ref sa0), some (.int sx1), some (.int sx2), none, none, none]) (As := [.int sx1, .int sx2]) (rest := []) 2 399 401 402 rfl (by decide) rfl hk1 tb_399 tb_401 tb_402 (fun U hU => hU.p 8 rfl) rfl rfl 2 0 rfl rfl ⟨by decide, by decide, by decide +kernel, by decide +kernel, by decide, by decide⟩ (Nat.le_of_ble_eq_true rfl) ⟨rfl, rfl, rfl, trivial⟩ rfl d_Reader_readField_25 w))
set_option maxRecDepth 20000 in
theorem r_Reader_readField_28 {E : zE} {K n : Nat → Nat} {I : Nat → Nat → Int32} {F : Nat → Nat → Option Nat} {J : Nat → Nat → Int64} {cb sb : Nat} {Q : zO → zH → Prop} {x2 : Int32} {sx0 : Int32}
    (w : (∃ c1 s1 c2 s2 : Nat, c1 + c2 ≤ cb ∧ s1 + s2 ≤ sb ∧ AW E m_Part_ofField (K, n, I, F, J) c1 s1 (zAft E m_Reader_readField c2 s2 Q 31 [none, none, none, none] []) 0 [some (.int x2), some (.int sx0)] [])) :
    AW E m_Reader_readField (K, n, I, F, J) cb sb Q 28 [none, none, some (.int x2), none] [.int sx0] := by
  refine aw_istore_n d_Reader_readField_28 (by decide) ?_
  refine aw_iload_n (x := x2) d_Reader_readField_29 rfl ?_
  refine aw_iload_n (x := sx0) d_Reader_readField_30 rfl ?_
  obtain ⟨c1, s1, c2, s2, hq1, hq2, w⟩ := w
  exact aw_room hq1 hq2 (aw_weak (lv' := [none, none, none, none]) trivial (aw_callS (M' := m_Part_ofField) (lv0 := [some (.int x2), some (.int sx0)]) (As := [.int x2, .int sx0]) (rest := []) 413 414 415 20 tb_413 tb_414 tb_415 tb_20 rfl rfl 2 0 rfl rfl ⟨by decide, by decide, by decide +kernel, by decide +kernel, by decide, by decide⟩ (Nat.le_of_ble_eq_true rfl) ⟨rfl, rfl, trivial⟩ rfl d_Reader_readField_31 w))
set_option maxRecDepth 20000 in
theorem r_Reader_readField_34 {E : zE} {K n : Nat → Nat} {I : Nat → Nat → Int32} {F : Nat → Nat → Option Nat} {J : Nat → Nat → Int64} {cb sb : Nat} {Q : zO → zH → Prop} {sa0 : Nat}
    (w : Q (.inl (some (.ref sa0))) (K, n, I, F, J)) :
    AW E m_Reader_readField (K, n, I, F, J) cb sb Q 34 [none, none, none, none] [.ref sa0] := by
  exact aw_areturn (r := (some sa0)) _ rfl rfl d_Reader_readField_34 w
set_option maxRecDepth 20000 in
theorem r_Reader_readText_0 {E : zE} {K n : Nat → Nat} {I : Nat → Nat → Int32} {F : Nat → Nat → Option Nat} {J : Nat → Nat → Int64} {cb sb : Nat} {Q : zO → zH → Prop} {a0 : Nat}
    (w : K a0 = 3 ∧ (∃ c1 s1 c2 s2 : Nat, c1 + c2 ≤ cb ∧ s1 + s2 ≤ sb ∧ AW E m_Reader_take (K, n, I, F, J) c1 s1 (zAft E m_Reader_readText c2 s2 Q 3 [some (.ref a0), none, none, none] []) 0 [some (.ref a0), some (.ref (E.2.1 (100 + 14))), none, none] [])) :
    AW E m_Reader_readText (K, n, I, F, J) cb sb Q 0 [some (.ref a0), none, none, none] [] := by
  refine aw_aload_n (x := a0) d_Reader_readText_0 rfl ?_
  refine aw_ldcS 14 (by decide) rfl rfl d_Reader_readText_1 ?_
  obtain ⟨hk1, w⟩ := w
  obtain ⟨c1, s1, c2, s2, hq1, hq2, w⟩ := w
  exact aw_room hq1 hq2 (aw_weak (lv' := [some (.ref a0), none, none, none]) ⟨rfl, trivial⟩ (aw_callV (M' := m_Reader_take) (lv0 := [some (.ref a0), some (.ref (E.2.1 (100 + 14))), none, none]) (As := [.ref (E.2.1 (100 + 14))]) (rest := []) 2 408 410 411 rfl (by decide) rfl hk1 tb_408 tb_410 tb_411 (fun U hU => hU.p 9 rfl) rfl rfl 1 0 rfl rfl ⟨by decide, by decide, by decide +kernel, by decide +kernel, by decide, by decide⟩ (Nat.le_of_ble_eq_true rfl) ⟨rfl, rfl, trivial⟩ rfl d_Reader_readText_3 w))
set_option maxRecDepth 20000 in
theorem r_Reader_readText_6 {E : zE} {K n : Nat → Nat} {I : Nat → Nat → Int32} {F : Nat → Nat → Option Nat} {J : Nat → Nat → Int64} {cb sb : Nat} {Q : zO → zH → Prop} {a0 : Nat} {sx0 : Int32}
    (w : K a0 = 3 ∧ AW E m_Reader_readText (K, n, I, F, J) cb sb Q 12 [some (.ref a0), some (.int (I a0 4)), none, none] []) :
    AW E m_Reader_readText (K, n, I, F, J) cb sb Q 6 [some (.ref a0), none, none, none] [.int sx0] := by
  refine aw_pop d_Reader_readText_6 rfl ?_
  refine aw_aload_n (x := a0) d_Reader_readText_7 rfl ?_
  obtain ⟨hk1, w⟩ := w
  refine gf_Reader_22 rfl hk1 d_Reader_readText_8 ?_
  refine aw_istore_n d_Reader_readText_11 (by decide) ?_
  exact aw_weak (lv' := [some (.ref a0), some (.int (I a0 4)), none, none]) ⟨rfl, rfl, trivial⟩ w
set_option maxRecDepth 20000 in
theorem r_Reader_readText_12 {E : zE} {K n : Nat → Nat} {I : Nat → Nat → Int32} {F : Nat → Nat → Option Nat} {J : Nat → Nat → Int64} {cb sb : Nat} {Q : zO → zH → Prop} {a0 : Nat} {x1 : Int32}
    (w : K a0 = 3 ∧ (((I a0 1) ≤ (I a0 4) → (((I a0 4) = x1 → (1 ≤ cb ∧ 6 ≤ sb ∧ Q (.inr "java/lang/IllegalArgumentException") (K, n, I, F, J))) ∧ (¬ (I a0 4) = x1 → (((I a0 1) ≤ (I a0 4) → (1 ≤ cb ∧ 6 ≤ sb ∧ Q (.inr "java/lang/IllegalArgumentException") (K, n, I, F, J))) ∧ (¬ (I a0 1) ≤ (I a0 4) → (∃ b5 : Nat, F a0 0 = some b5 ∧ K b5 = 21 ∧ (∃ j7 : Nat, (I a0 4) = nI j7 ∧ j7 < n b5 ∧ j7 < 2147483648 ∧ (((I b5 j7) = (39 : Int32) → (∃ NN : Nat, ((I a0 4) - x1) = nI NN ∧ NN ≤ 100000 ∧ (∃ cb9 sb9 : Nat, cb9 + 1 ≤ cb ∧ sb9 + NN ≤ sb ∧ ∀ q : Nat, K q = 0 → AW E m_Reader_readText ((va_up K q 20), (va_up n q NN), (va_up I q (fun _ => 0)), F, J) cb9 sb9 Q 113 [some (.ref a0), some (.int x1), none, none] [.ref q]))) ∧ (¬ (I b5 j7) = (39 : Int32) → (1 ≤ cb ∧ 6 ≤ sb ∧ Q (.inr "java/lang/IllegalArgumentException") (K, n, I, F, J))))))))))) ∧ (¬ (I a0 1) ≤ (I a0 4) → (((20 : Int32) ≤ ((I a0 4) - x1) → (((I a0 4) = x1 → (1 ≤ cb ∧ 6 ≤ sb ∧ Q (.inr "java/lang/IllegalArgumentException") (K, n, I, F, J))) ∧ (¬ (I a0 4) = x1 → (((I a0 1) ≤ (I a0 4) → (1 ≤ cb ∧ 6 ≤ sb ∧ Q (.inr "java/lang/IllegalArgumentException") (K, n, I, F, J))) ∧ (¬ (I a0 1) ≤ (I a0 4) → (∃ b12 : Nat, F a0 0 = some b12 ∧ K b12 = 21 ∧ (∃ j14 : Nat, (I a0 4) = nI j14 ∧ j14 < n b12 ∧ j14 < 2147483648 ∧ (((I b12 j14) = (39 : Int32) → (∃ NN : Nat, ((I a0 4) - x1) = nI NN ∧ NN ≤ 100000 ∧ (∃ cb9 sb9 : Nat, cb9 + 1 ≤ cb ∧ sb9 + NN ≤ sb ∧ ∀ q : Nat, K q = 0 → AW E m_Reader_readText ((va_up K q 20), (va_up n q NN), (va_up I q (fun _ => 0)), F, J) cb9 sb9 Q 113 [some (.ref a0), some (.int x1), none, none] [.ref q]))) ∧ (¬ (I b12 j14) = (39 : Int32) → (1 ≤ cb ∧ 6 ≤ sb ∧ Q (.inr "java/lang/IllegalArgumentException") (K, n, I, F, J))))))))))) ∧ (¬ (20 : Int32) ≤ ((I a0 4) - x1) → (∃ b16 : Nat, F a0 0 = some b16 ∧ K b16 = 21 ∧ (∃ j18 : Nat, (I a0 4) = nI j18 ∧ j18 < n b16 ∧ j18 < 2147483648 ∧ AW E m_Reader_isTextSign (K, n, I, F, J) 0 0 (zAft E m_Reader_readText cb sb Q 43 [some (.ref a0), some (.int x1), none, none] []) 0 [some (.int (I b16 j18))] []))))))) :
    AW E m_Reader_readText (K, n, I, F, J) cb sb Q 12 [some (.ref a0), some (.int x1), none, none] [] := by
  refine aw_aload_n (x := a0) d_Reader_readText_12 rfl ?_
  obtain ⟨hk1, w⟩ := w
  refine gf_Reader_22 rfl hk1 d_Reader_readText_13 ?_
  refine aw_aload_n (x := a0) d_Reader_readText_16 rfl ?_
  refine gf_Reader_35 rfl hk1 d_Reader_readText_17 ?_
  refine aw_icmp_ge (tgt := 62) d_Reader_readText_20 (by decide) (fun cc2 => ?_) (fun cc2 => ?_)
  · replace w := w.1 cc2
    refine aw_aload_n (x := a0) d_Reader_readText_62 rfl ?_
    refine gf_Reader_22 rfl hk1 d_Reader_readText_63 ?_
    refine aw_iload_n (x := x1) d_Reader_readText_66 rfl ?_
    refine aw_icmp_eq (tgt := 95) d_Reader_readText_67 (by decide) (fun cc3 => ?_) (fun cc3 => ?_)
    · replace w := w.1 cc3
      exact aw_throwS (cls := "java/lang/IllegalArgumentException") (names := ["java/lang/RuntimeException", "java/lang/Exception"]) 15 313 18 (by decide) rfl rfl (by decide +kernel) (by decide +kernel) tb_313 tb_18 zth_R zth_Rg d_Reader_readText_95 d_Reader_readText_98 d_Reader_readText_99 d_Reader_readText_101 d_Reader_readText_104 rfl (by decide) (by decide) w.1 w.2.1 w.2.2
    · replace w := w.2 cc3
      refine aw_aload_n (x := a0) d_Reader_readText_70 rfl ?_
      refine gf_Reader_22 rfl hk1 d_Reader_readText_71 ?_
      refine aw_aload_n (x := a0) d_Reader_readText_74 rfl ?_
      refine gf_Reader_35 rfl hk1 d_Reader_readText_75 ?_
      refine aw_icmp_ge (tgt := 95) d_Reader_readText_78 (by decide) (fun cc4 => ?_) (fun cc4 => ?_)
      · replace w := w.1 cc4
        exact aw_throwS (cls := "java/lang/IllegalArgumentException") (names := ["java/lang/RuntimeException", "java/lang/Exception"]) 15 313 18 (by decide) rfl rfl (by decide +kernel) (by decide +kernel) tb_313 tb_18 zth_R zth_Rg d_Reader_readText_95 d_Reader_readText_98 d_Reader_readText_99 d_Reader_readText_101 d_Reader_readText_104 rfl (by decide) (by decide) w.1 w.2.1 w.2.2
      · replace w := w.2 cc4
        refine aw_aload_n (x := a0) d_Reader_readText_81 rfl ?_
        obtain ⟨b5, hb5, w⟩ := w
        refine gs_Reader_25 rfl hk1 hb5 d_Reader_readText_82 ?_
        refine aw_aload_n (x := a0) d_Reader_readText_85 rfl ?_
        refine gf_Reader_22 rfl hk1 d_Reader_readText_86 ?_
        obtain ⟨hk6, w⟩ := w
        obtain ⟨j7, hj7a, hj7b, hj7c, w⟩ := w
        refine aw_iaload j7 hk6 hj7a hj7b hj7c d_Reader_readText_89 ?_
        refine aw_bipush (v := (39 : Int32)) d_Reader_readText_90 (by decide) ?_
        refine aw_icmp_eq (tgt := 105) d_Reader_readText_92 (by decide) (fun cc8 => ?_) (fun cc8 => ?_)
        · replace w := w.1 cc8
          refine aw_aload_n (x := a0) d_Reader_readText_105 rfl ?_
          refine gf_Reader_22 rfl hk1 d_Reader_readText_106 ?_
          refine aw_iload_n (x := x1) d_Reader_readText_109 rfl ?_
          refine aw_isub d_Reader_readText_110 ?_
          obtain ⟨NN, hNa, hNb, w⟩ := w
          obtain ⟨cb9, sb9, hq1, hq2, w⟩ := w
          exact aw_room hq1 hq2 (aw_weak (lv' := [some (.ref a0), some (.int x1), none, none]) ⟨rfl, rfl, trivial⟩ (aw_newB NN hNa hNb 155 tb_155 d_Reader_readText_111 w))
        · replace w := w.2 cc8
          exact aw_throwS (cls := "java/lang/IllegalArgumentException") (names := ["java/lang/RuntimeException", "java/lang/Exception"]) 15 313 18 (by decide) rfl rfl (by decide +kernel) (by decide +kernel) tb_313 tb_18 zth_R zth_Rg d_Reader_readText_95 d_Reader_readText_98 d_Reader_readText_99 d_Reader_readText_101 d_Reader_readText_104 rfl (by decide) (by decide) w.1 w.2.1 w.2.2
  · replace w := w.2 cc2
    refine aw_aload_n (x := a0) d_Reader_readText_23 rfl ?_
    refine gf_Reader_22 rfl hk1 d_Reader_readText_24 ?_
    refine aw_iload_n (x := x1) d_Reader_readText_27 rfl ?_
    refine aw_isub d_Reader_readText_28 ?_
    refine aw_bipush (v := (20 : Int32)) d_Reader_readText_29 (by decide) ?_
    refine aw_icmp_ge (tgt := 62) d_Reader_readText_31 (by decide) (fun cc9 => ?_) (fun cc9 => ?_)
    · replace w := w.1 cc9
      refine aw_aload_n (x := a0) d_Reader_readText_62 rfl ?_
      refine gf_Reader_22 rfl hk1 d_Reader_readText_63 ?_
      refine aw_iload_n (x := x1) d_Reader_readText_66 rfl ?_
      refine aw_icmp_eq (tgt := 95) d_Reader_readText_67 (by decide) (fun cc10 => ?_) (fun cc10 => ?_)
      · replace w := w.1 cc10
        exact aw_throwS (cls := "java/lang/IllegalArgumentException") (names := ["java/lang/RuntimeException", "java/lang/Exception"]) 15 313 18 (by decide) rfl rfl (by decide +kernel) (by decide +kernel) tb_313 tb_18 zth_R zth_Rg d_Reader_readText_95 d_Reader_readText_98 d_Reader_readText_99 d_Reader_readText_101 d_Reader_readText_104 rfl (by decide) (by decide) w.1 w.2.1 w.2.2
      · replace w := w.2 cc10
        refine aw_aload_n (x := a0) d_Reader_readText_70 rfl ?_
        refine gf_Reader_22 rfl hk1 d_Reader_readText_71 ?_
        refine aw_aload_n (x := a0) d_Reader_readText_74 rfl ?_
        refine gf_Reader_35 rfl hk1 d_Reader_readText_75 ?_
        refine aw_icmp_ge (tgt := 95) d_Reader_readText_78 (by decide) (fun cc11 => ?_) (fun cc11 => ?_)
        · replace w := w.1 cc11
          exact aw_throwS (cls := "java/lang/IllegalArgumentException") (names := ["java/lang/RuntimeException", "java/lang/Exception"]) 15 313 18 (by decide) rfl rfl (by decide +kernel) (by decide +kernel) tb_313 tb_18 zth_R zth_Rg d_Reader_readText_95 d_Reader_readText_98 d_Reader_readText_99 d_Reader_readText_101 d_Reader_readText_104 rfl (by decide) (by decide) w.1 w.2.1 w.2.2
        · replace w := w.2 cc11
          refine aw_aload_n (x := a0) d_Reader_readText_81 rfl ?_
          obtain ⟨b12, hb12, w⟩ := w
          refine gs_Reader_25 rfl hk1 hb12 d_Reader_readText_82 ?_
          refine aw_aload_n (x := a0) d_Reader_readText_85 rfl ?_
          refine gf_Reader_22 rfl hk1 d_Reader_readText_86 ?_
          obtain ⟨hk13, w⟩ := w
          obtain ⟨j14, hj14a, hj14b, hj14c, w⟩ := w
          refine aw_iaload j14 hk13 hj14a hj14b hj14c d_Reader_readText_89 ?_
          refine aw_bipush (v := (39 : Int32)) d_Reader_readText_90 (by decide) ?_
          refine aw_icmp_eq (tgt := 105) d_Reader_readText_92 (by decide) (fun cc15 => ?_) (fun cc15 => ?_)
          · replace w := w.1 cc15
            refine aw_aload_n (x := a0) d_Reader_readText_105 rfl ?_
            refine gf_Reader_22 rfl hk1 d_Reader_readText_106 ?_
            refine aw_iload_n (x := x1) d_Reader_readText_109 rfl ?_
            refine aw_isub d_Reader_readText_110 ?_
            obtain ⟨NN, hNa, hNb, w⟩ := w
            obtain ⟨cb9, sb9, hq1, hq2, w⟩ := w
            exact aw_room hq1 hq2 (aw_weak (lv' := [some (.ref a0), some (.int x1), none, none]) ⟨rfl, rfl, trivial⟩ (aw_newB NN hNa hNb 155 tb_155 d_Reader_readText_111 w))
          · replace w := w.2 cc15
            exact aw_throwS (cls := "java/lang/IllegalArgumentException") (names := ["java/lang/RuntimeException", "java/lang/Exception"]) 15 313 18 (by decide) rfl rfl (by decide +kernel) (by decide +kernel) tb_313 tb_18 zth_R zth_Rg d_Reader_readText_95 d_Reader_readText_98 d_Reader_readText_99 d_Reader_readText_101 d_Reader_readText_104 rfl (by decide) (by decide) w.1 w.2.1 w.2.2
    · replace w := w.2 cc9
      refine aw_aload_n (x := a0) d_Reader_readText_34 rfl ?_
      obtain ⟨b16, hb16, w⟩ := w
      refine gs_Reader_25 rfl hk1 hb16 d_Reader_readText_35 ?_
      refine aw_aload_n (x := a0) d_Reader_readText_38 rfl ?_
      refine gf_Reader_22 rfl hk1 d_Reader_readText_39 ?_
      obtain ⟨hk17, w⟩ := w
      obtain ⟨j18, hj18a, hj18b, hj18c, w⟩ := w
      refine aw_iaload j18 hk17 hj18a hj18b hj18c d_Reader_readText_42 ?_
      exact aw_room (cb' := 0 + cb) (sb' := 0 + sb) (by omega) (by omega) (aw_weak (lv' := [some (.ref a0), some (.int x1), none, none]) ⟨rfl, rfl, trivial⟩ (aw_callS (M' := m_Reader_isTextSign) (lv0 := [some (.int (I b16 j18))]) (As := [.int (I b16 j18)]) (rest := []) 528 529 530 9 tb_528 tb_529 tb_530 tb_9 rfl rfl 1 0 rfl rfl ⟨by decide, by decide, by decide +kernel, by decide +kernel, by decide, by decide⟩ (Nat.le_of_ble_eq_true rfl) ⟨rfl, trivial⟩ rfl d_Reader_readText_43 w))
set_option maxRecDepth 20000 in
theorem r_Reader_readText_46 {E : zE} {K n : Nat → Nat} {I : Nat → Nat → Int32} {F : Nat → Nat → Option Nat} {J : Nat → Nat → Int64} {cb sb : Nat} {Q : zO → zH → Prop} {a0 : Nat} {x1 : Int32} {sx0 : Int32}
    (w : ((sx0 = 0 → K a0 = 3 ∧ (((I a0 4) = x1 → (1 ≤ cb ∧ 6 ≤ sb ∧ Q (.inr "java/lang/IllegalArgumentException") (K, n, I, F, J))) ∧ (¬ (I a0 4) = x1 → (((I a0 1) ≤ (I a0 4) → (1 ≤ cb ∧ 6 ≤ sb ∧ Q (.inr "java/lang/IllegalArgumentException") (K, n, I, F, J))) ∧ (¬ (I a0 1) ≤ (I a0 4) → (∃ b5 : Nat, F a0 0 = some b5 ∧ K b5 = 21 ∧ (∃ j7 : Nat, (I a0 4) = nI j7 ∧ j7 < n b5 ∧ j7 < 2147483648 ∧ (((I b5 j7) = (39 : Int32) → (∃ NN : Nat, ((I a0 4) - x1) = nI NN ∧ NN ≤ 100000 ∧ (∃ cb9 sb9 : Nat, cb9 + 1 ≤ cb ∧ sb9 + NN ≤ sb ∧ ∀ q : Nat, K q = 0 → AW E m_Reader_readText ((va_up K q 20), (va_up n q NN), (va_up I q (fun _ => 0)), F, J) cb9 sb9 Q 113 [some (.ref a0), some (.int x1), none, none] [.ref q]))) ∧ (¬ (I b5 j7) = (39 : Int32) → (1 ≤ cb ∧ 6 ≤ sb ∧ Q (.inr "java/lang/IllegalArgumentException") (K, n, I, F, J))))))))))) ∧ (¬ sx0 = 0 → K a0 = 3 ∧ AW E m_Reader_readText (K, n, (zup I a0 4 ((I a0 4) + (1 : Int32))), F, J) cb sb Q 12 [some (.ref a0), some (.int x1), none, none] []))) :
    AW E m_Reader_readText (K, n, I, F, J) cb sb Q 46 [some (.ref a0), some (.int x1), none, none] [.int sx0] := by
  refine aw_if_eq (tgt := 62) d_Reader_readText_46 (by decide) (fun cc1 => ?_) (fun cc1 => ?_)
  · replace w := w.1 cc1
    refine aw_aload_n (x := a0) d_Reader_readText_62 rfl ?_
    obtain ⟨hk2, w⟩ := w
    refine gf_Reader_22 rfl hk2 d_Reader_readText_63 ?_
    refine aw_iload_n (x := x1) d_Reader_readText_66 rfl ?_
    refine aw_icmp_eq (tgt := 95) d_Reader_readText_67 (by decide) (fun cc3 => ?_) (fun cc3 => ?_)
    · replace w := w.1 cc3
      exact aw_throwS (cls := "java/lang/IllegalArgumentException") (names := ["java/lang/RuntimeException", "java/lang/Exception"]) 15 313 18 (by decide) rfl rfl (by decide +kernel) (by decide +kernel) tb_313 tb_18 zth_R zth_Rg d_Reader_readText_95 d_Reader_readText_98 d_Reader_readText_99 d_Reader_readText_101 d_Reader_readText_104 rfl (by decide) (by decide) w.1 w.2.1 w.2.2
    · replace w := w.2 cc3
      refine aw_aload_n (x := a0) d_Reader_readText_70 rfl ?_
      refine gf_Reader_22 rfl hk2 d_Reader_readText_71 ?_
      refine aw_aload_n (x := a0) d_Reader_readText_74 rfl ?_
      refine gf_Reader_35 rfl hk2 d_Reader_readText_75 ?_
      refine aw_icmp_ge (tgt := 95) d_Reader_readText_78 (by decide) (fun cc4 => ?_) (fun cc4 => ?_)
      · replace w := w.1 cc4
        exact aw_throwS (cls := "java/lang/IllegalArgumentException") (names := ["java/lang/RuntimeException", "java/lang/Exception"]) 15 313 18 (by decide) rfl rfl (by decide +kernel) (by decide +kernel) tb_313 tb_18 zth_R zth_Rg d_Reader_readText_95 d_Reader_readText_98 d_Reader_readText_99 d_Reader_readText_101 d_Reader_readText_104 rfl (by decide) (by decide) w.1 w.2.1 w.2.2
      · replace w := w.2 cc4
        refine aw_aload_n (x := a0) d_Reader_readText_81 rfl ?_
        obtain ⟨b5, hb5, w⟩ := w
        refine gs_Reader_25 rfl hk2 hb5 d_Reader_readText_82 ?_
        refine aw_aload_n (x := a0) d_Reader_readText_85 rfl ?_
        refine gf_Reader_22 rfl hk2 d_Reader_readText_86 ?_
        obtain ⟨hk6, w⟩ := w
        obtain ⟨j7, hj7a, hj7b, hj7c, w⟩ := w
        refine aw_iaload j7 hk6 hj7a hj7b hj7c d_Reader_readText_89 ?_
        refine aw_bipush (v := (39 : Int32)) d_Reader_readText_90 (by decide) ?_
        refine aw_icmp_eq (tgt := 105) d_Reader_readText_92 (by decide) (fun cc8 => ?_) (fun cc8 => ?_)
        · replace w := w.1 cc8
          refine aw_aload_n (x := a0) d_Reader_readText_105 rfl ?_
          refine gf_Reader_22 rfl hk2 d_Reader_readText_106 ?_
          refine aw_iload_n (x := x1) d_Reader_readText_109 rfl ?_
          refine aw_isub d_Reader_readText_110 ?_
          obtain ⟨NN, hNa, hNb, w⟩ := w
          obtain ⟨cb9, sb9, hq1, hq2, w⟩ := w
          exact aw_room hq1 hq2 (aw_weak (lv' := [some (.ref a0), some (.int x1), none, none]) ⟨rfl, rfl, trivial⟩ (aw_newB NN hNa hNb 155 tb_155 d_Reader_readText_111 w))
        · replace w := w.2 cc8
          exact aw_throwS (cls := "java/lang/IllegalArgumentException") (names := ["java/lang/RuntimeException", "java/lang/Exception"]) 15 313 18 (by decide) rfl rfl (by decide +kernel) (by decide +kernel) tb_313 tb_18 zth_R zth_Rg d_Reader_readText_95 d_Reader_readText_98 d_Reader_readText_99 d_Reader_readText_101 d_Reader_readText_104 rfl (by decide) (by decide) w.1 w.2.1 w.2.2
  · replace w := w.2 cc1
    refine aw_aload_n (x := a0) d_Reader_readText_49 rfl ?_
    refine aw_dup d_Reader_readText_50 rfl ?_
    obtain ⟨hk9, w⟩ := w
    refine gf_Reader_22 rfl hk9 d_Reader_readText_51 ?_
    refine aw_iconst (v := (1 : Int32)) d_Reader_readText_54 (by decide) ?_
    refine aw_iadd d_Reader_readText_55 ?_
    refine pf_Reader_22 rfl hk9 d_Reader_readText_56 ?_
    refine aw_goto (tgt := 12) d_Reader_readText_59 (by decide) ?_
    exact aw_weak (lv' := [some (.ref a0), some (.int x1), none, none]) ⟨rfl, rfl, trivial⟩ w
set_option maxRecDepth 20000 in
theorem r_Reader_readText_113 {E : zE} {K n : Nat → Nat} {I : Nat → Nat → Int32} {F : Nat → Nat → Option Nat} {J : Nat → Nat → Int64} {cb sb : Nat} {Q : zO → zH → Prop} {a0 : Nat} {x1 : Int32} {sa0 : Nat}
    (w : AW E m_Reader_readText (K, n, I, F, J) cb sb Q 116 [some (.ref a0), some (.int x1), some (.ref sa0), some (.int (0 : Int32))] []) :
    AW E m_Reader_readText (K, n, I, F, J) cb sb Q 113 [some (.ref a0), some (.int x1), none, none] [.ref sa0] := by
  refine aw_astore_n d_Reader_readText_113 (by decide) ?_
  refine aw_iconst (v := (0 : Int32)) d_Reader_readText_114 (by decide) ?_
  refine aw_istore_n d_Reader_readText_115 (by decide) ?_
  exact aw_weak (lv' := [some (.ref a0), some (.int x1), some (.ref sa0), some (.int (0 : Int32))]) ⟨rfl, rfl, rfl, rfl, trivial⟩ w
set_option maxRecDepth 20000 in
theorem r_Reader_readText_116 {E : zE} {K n : Nat → Nat} {I : Nat → Nat → Int32} {F : Nat → Nat → Option Nat} {J : Nat → Nat → Int64} {cb sb : Nat} {Q : zO → zH → Prop} {a0 : Nat} {x1 : Int32} {a2 : Nat} {x3 : Int32}
    (w : (20 ≤ K a2 ∧ K a2 ≤ 23) ∧ (((nI (n a2)) ≤ x3 → K a0 = 3 ∧ (∃ c1 s1 c2 s2 : Nat, c1 + c2 ≤ cb ∧ s1 + s2 ≤ sb ∧ AW E m_Part_ofText (K, n, (zup I a0 4 ((I a0 4) + (1 : Int32))), F, J) c1 s1 (zAft E m_Reader_readText c2 s2 Q 151 [none, none, none, none] []) 0 [some (.ref a2)] [])) ∧ (¬ (nI (n a2)) ≤ x3 → K a0 = 3 ∧ (∃ b5 : Nat, F a0 0 = some b5 ∧ K b5 = 21 ∧ (∃ j7 : Nat, (x1 + x3) = nI j7 ∧ j7 < n b5 ∧ j7 < 2147483648 ∧ K a2 = 20 ∧ (∃ j9 : Nat, x3 = nI j9 ∧ j9 < n a2 ∧ j9 < 2147483648 ∧ AW E m_Reader_readText (K, n, (zup I a2 j9 ((I b5 j7).toInt8.toInt32).toInt8.toInt32), F, J) cb sb Q 116 [some (.ref a0), some (.int x1), some (.ref a2), some (.int (x3 + (1 : Int32)))] [])))))) :
    AW E m_Reader_readText (K, n, I, F, J) cb sb Q 116 [some (.ref a0), some (.int x1), some (.ref a2), some (.int x3)] [] := by
  refine aw_iload_n (x := x3) d_Reader_readText_116 rfl ?_
  refine aw_aload_n (x := a2) d_Reader_readText_117 rfl ?_
  obtain ⟨hk1, w⟩ := w
  refine aw_alen hk1.1 hk1.2 d_Reader_readText_118 ?_
  refine aw_icmp_ge (tgt := 140) d_Reader_readText_119 (by decide) (fun cc2 => ?_) (fun cc2 => ?_)
  · replace w := w.1 cc2
    refine aw_aload_n (x := a0) d_Reader_readText_140 rfl ?_
    refine aw_dup d_Reader_readText_141 rfl ?_
    obtain ⟨hk3, w⟩ := w
    refine gf_Reader_22 rfl hk3 d_Reader_readText_142 ?_
    refine aw_iconst (v := (1 : Int32)) d_Reader_readText_145 (by decide) ?_
    refine aw_iadd d_Reader_readText_146 ?_
    refine pf_Reader_22 rfl hk3 d_Reader_readText_147 ?_
    refine aw_aload_n (x := a2) d_Reader_readText_150 rfl ?_
    obtain ⟨c1, s1, c2, s2, hq1, hq2, w⟩ := w
    exact aw_room hq1 hq2 (aw_weak (lv' := [none, none, none, none]) trivial (aw_callS (M' := m_Part_ofText) (lv0 := [some (.ref a2)]) (As := [.ref a2]) (rest := []) 532 533 534 20 tb_532 tb_533 tb_534 tb_20 rfl rfl 1 0 rfl rfl ⟨by decide, by decide, by decide +kernel, by decide +kernel, by decide, by decide⟩ (Nat.le_of_ble_eq_true rfl) ⟨rfl, trivial⟩ rfl d_Reader_readText_151 w))
  · replace w := w.2 cc2
    refine aw_aload_n (x := a2) d_Reader_readText_122 rfl ?_
    refine aw_iload_n (x := x3) d_Reader_readText_123 rfl ?_
    refine aw_aload_n (x := a0) d_Reader_readText_124 rfl ?_
    obtain ⟨hk4, w⟩ := w
    obtain ⟨b5, hb5, w⟩ := w
    refine gs_Reader_25 rfl hk4 hb5 d_Reader_readText_125 ?_
    refine aw_iload_n (x := x1) d_Reader_readText_128 rfl ?_
    refine aw_iload_n (x := x3) d_Reader_readText_129 rfl ?_
    refine aw_iadd d_Reader_readText_130 ?_
    obtain ⟨hk6, w⟩ := w
    obtain ⟨j7, hj7a, hj7b, hj7c, w⟩ := w
    refine aw_iaload j7 hk6 hj7a hj7b hj7c d_Reader_readText_131 ?_
    refine aw_i2b (v := (I b5 j7).toInt8.toInt32) d_Reader_readText_132 rfl ?_
    obtain ⟨hk8, w⟩ := w
    obtain ⟨j9, hj9a, hj9b, hj9c, w⟩ := w
    refine aw_bastore j9 hk8 hj9a hj9b hj9c d_Reader_readText_133 ?_
    refine aw_iinc (v := (x3 + (1 : Int32))) d_Reader_readText_134 rfl (by rfl) (by decide) ?_
    refine aw_goto (tgt := 116) d_Reader_readText_137 (by decide) ?_
    exact aw_weak (lv' := [some (.ref a0), some (.int x1), some (.ref a2), some (.int (x3 + (1 : Int32)))]) ⟨rfl, rfl, rfl, rfl, trivial⟩ w
set_option maxRecDepth 20000 in
theorem r_Reader_readText_154 {E : zE} {K n : Nat → Nat} {I : Nat → Nat → Int32} {F : Nat → Nat → Option Nat} {J : Nat → Nat → Int64} {cb sb : Nat} {Q : zO → zH → Prop} {sa0 : Nat}
    (w : Q (.inl (some (.ref sa0))) (K, n, I, F, J)) :
    AW E m_Reader_readText (K, n, I, F, J) cb sb Q 154 [none, none, none, none] [.ref sa0] := by
  exact aw_areturn (r := (some sa0)) _ rfl rfl d_Reader_readText_154 w
set_option maxRecDepth 20000 in
theorem r_Reader_readBlanks_0 {E : zE} {K n : Nat → Nat} {I : Nat → Nat → Int32} {F : Nat → Nat → Option Nat} {J : Nat → Nat → Int64} {cb sb : Nat} {Q : zO → zH → Prop} {a0 : Nat}
    (w : K a0 = 3 ∧ (∃ c1 s1 c2 s2 : Nat, c1 + c2 ≤ cb ∧ s1 + s2 ≤ sb ∧ AW E m_Reader_take (K, n, I, F, J) c1 s1 (zAft E m_Reader_readBlanks c2 s2 Q 3 [some (.ref a0), none] []) 0 [some (.ref a0), some (.ref (E.2.1 (100 + 18))), none, none] [])) :
    AW E m_Reader_readBlanks (K, n, I, F, J) cb sb Q 0 [some (.ref a0), none] [] := by
  refine aw_aload_n (x := a0) d_Reader_readBlanks_0 rfl ?_
  refine aw_ldcS 18 (by decide) rfl rfl d_Reader_readBlanks_1 ?_
  obtain ⟨hk1, w⟩ := w
  obtain ⟨c1, s1, c2, s2, hq1, hq2, w⟩ := w
  exact aw_room hq1 hq2 (aw_weak (lv' := [some (.ref a0), none]) ⟨rfl, trivial⟩ (aw_callV (M' := m_Reader_take) (lv0 := [some (.ref a0), some (.ref (E.2.1 (100 + 18))), none, none]) (As := [.ref (E.2.1 (100 + 18))]) (rest := []) 2 408 410 411 rfl (by decide) rfl hk1 tb_408 tb_410 tb_411 (fun U hU => hU.p 9 rfl) rfl rfl 1 0 rfl rfl ⟨by decide, by decide, by decide +kernel, by decide +kernel, by decide, by decide⟩ (Nat.le_of_ble_eq_true rfl) ⟨rfl, rfl, trivial⟩ rfl d_Reader_readBlanks_3 w))
set_option maxRecDepth 20000 in
theorem r_Reader_readBlanks_6 {E : zE} {K n : Nat → Nat} {I : Nat → Nat → Int32} {F : Nat → Nat → Option Nat} {J : Nat → Nat → Int64} {cb sb : Nat} {Q : zO → zH → Prop} {a0 : Nat} {sx0 : Int32}
    (w : K a0 = 3 ∧ (∃ c1 s1 c2 s2 : Nat, c1 + c2 ≤ cb ∧ s1 + s2 ≤ sb ∧ AW E m_Reader_readNumber (K, n, I, F, J) c1 s1 (zAft E m_Reader_readBlanks c2 s2 Q 11 [none, none] []) 0 [some (.ref a0), some (.int (1 : Int32)), some (.int (40 : Int32)), none, none, none] [])) :
    AW E m_Reader_readBlanks (K, n, I, F, J) cb sb Q 6 [some (.ref a0), none] [.int sx0] := by
  refine aw_pop d_Reader_readBlanks_6 rfl ?_
  refine aw_aload_n (x := a0) d_Reader_readBlanks_7 rfl ?_
  refine aw_iconst (v := (1 : Int32)) d_Reader_readBlanks_8 (by decide) ?_
  refine aw_bipush (v := (40 : Int32)) d_Reader_readBlanks_9 (by decide) ?_
  obtain ⟨hk1, w⟩ := w
  obtain ⟨c1, s1, c2, s2, hq1, hq2, w⟩ := w
  exact aw_room hq1 hq2 (aw_weak (lv' := [none, none]) trivial (aw_callV (M' := m_Reader_readNumber) (lv0 := [some (.ref a0), some (.int (1 : Int32)), some (.int (40 : Int32)), none, none, none]) (As := [.int (1 : Int32), .int (40 : Int32)]) (rest := []) 2 399 401 402 rfl (by decide) rfl hk1 tb_399 tb_401 tb_402 (fun U hU => hU.p 8 rfl) rfl rfl 2 0 rfl rfl ⟨by decide, by decide, by decide +kernel, by decide +kernel, by decide, by decide⟩ (Nat.le_of_ble_eq_true rfl) ⟨rfl, rfl, rfl, trivial⟩ rfl d_Reader_readBlanks_11 w))
set_option maxRecDepth 20000 in
theorem r_Reader_readBlanks_14 {E : zE} {K n : Nat → Nat} {I : Nat → Nat → Int32} {F : Nat → Nat → Option Nat} {J : Nat → Nat → Int64} {cb sb : Nat} {Q : zO → zH → Prop} {sx0 : Int32}
    (w : (∃ NN : Nat, sx0 = nI NN ∧ NN ≤ 100000 ∧ (∃ cb9 sb9 : Nat, cb9 + 1 ≤ cb ∧ sb9 + NN ≤ sb ∧ ∀ q : Nat, K q = 0 → AW E m_Reader_readBlanks ((va_up K q 20), (va_up n q NN), (va_up I q (fun _ => 0)), F, J) cb9 sb9 Q 16 [none, none] [.ref q]))) :
    AW E m_Reader_readBlanks (K, n, I, F, J) cb sb Q 14 [none, none] [.int sx0] := by
  obtain ⟨NN, hNa, hNb, w⟩ := w
  obtain ⟨cb9, sb9, hq1, hq2, w⟩ := w
  exact aw_room hq1 hq2 (aw_weak (lv' := [none, none]) trivial (aw_newB NN hNa hNb 155 tb_155 d_Reader_readBlanks_14 w))
set_option maxRecDepth 20000 in
theorem r_Reader_readBlanks_16 {E : zE} {K n : Nat → Nat} {I : Nat → Nat → Int32} {F : Nat → Nat → Option Nat} {J : Nat → Nat → Int64} {cb sb : Nat} {Q : zO → zH → Prop} {sa0 : Nat}
    (w : AW E m_Arrays_fill (K, n, I, F, J) 0 0 (zAft E m_Reader_readBlanks cb sb Q 20 [none, some (.ref sa0)] []) 0 [some (.ref sa0), some (.int (32 : Int32)), none, none] []) :
    AW E m_Reader_readBlanks (K, n, I, F, J) cb sb Q 16 [none, none] [.ref sa0] := by
  refine aw_astore_n d_Reader_readBlanks_16 (by decide) ?_
  refine aw_aload_n (x := sa0) d_Reader_readBlanks_17 rfl ?_
  refine aw_bipush (v := (32 : Int32)) d_Reader_readBlanks_18 (by decide) ?_
  exact aw_room (cb' := 0 + cb) (sb' := 0 + sb) (by omega) (by omega) (aw_weak (lv' := [none, some (.ref sa0)]) ⟨rfl, trivial⟩ (aw_callS (M' := m_Arrays_fill) (lv0 := [some (.ref sa0), some (.int (32 : Int32)), none, none]) (As := [.ref sa0, .int (32 : Int32)]) (rest := []) 570 571 572 23 tb_570 tb_571 tb_572 tb_23 rfl rfl 2 0 rfl rfl ⟨by decide, by decide, by decide +kernel, by decide +kernel, by decide, by decide⟩ (Nat.le_of_ble_eq_true rfl) ⟨rfl, rfl, trivial⟩ rfl d_Reader_readBlanks_20 w))
set_option maxRecDepth 20000 in
theorem r_Reader_readBlanks_23 {E : zE} {K n : Nat → Nat} {I : Nat → Nat → Int32} {F : Nat → Nat → Option Nat} {J : Nat → Nat → Int64} {cb sb : Nat} {Q : zO → zH → Prop} {a1 : Nat}
    (w : (∃ c1 s1 c2 s2 : Nat, c1 + c2 ≤ cb ∧ s1 + s2 ≤ sb ∧ AW E m_Part_ofText (K, n, I, F, J) c1 s1 (zAft E m_Reader_readBlanks c2 s2 Q 24 [none, none] []) 0 [some (.ref a1)] [])) :
    AW E m_Reader_readBlanks (K, n, I, F, J) cb sb Q 23 [none, some (.ref a1)] [] := by
  refine aw_aload_n (x := a1) d_Reader_readBlanks_23 rfl ?_
  obtain ⟨c1, s1, c2, s2, hq1, hq2, w⟩ := w
  exact aw_room hq1 hq2 (aw_weak (lv' := [none, none]) trivial (aw_callS (M' := m_Part_ofText) (lv0 := [some (.ref a1)]) (As := [.ref a1]) (rest := []) 532 533 534 20 tb_532 tb_533 tb_534 tb_20 rfl rfl 1 0 rfl rfl ⟨by decide, by decide, by decide +kernel, by decide +kernel, by decide, by decide⟩ (Nat.le_of_ble_eq_true rfl) ⟨rfl, trivial⟩ rfl d_Reader_readBlanks_24 w))
set_option maxRecDepth 20000 in
theorem r_Reader_readBlanks_27 {E : zE} {K n : Nat → Nat} {I : Nat → Nat → Int32} {F : Nat → Nat → Option Nat} {J : Nat → Nat → Int64} {cb sb : Nat} {Q : zO → zH → Prop} {sa0 : Nat}
    (w : Q (.inl (some (.ref sa0))) (K, n, I, F, J)) :
    AW E m_Reader_readBlanks (K, n, I, F, J) cb sb Q 27 [none, none] [.ref sa0] := by
  exact aw_areturn (r := (some sa0)) _ rfl rfl d_Reader_readBlanks_27 w
set_option maxRecDepth 20000 in
theorem r_Reader_readNumber_0 {E : zE} {K n : Nat → Nat} {I : Nat → Nat → Int32} {F : Nat → Nat → Option Nat} {J : Nat → Nat → Int64} {cb sb : Nat} {Q : zO → zH → Prop} {a0 : Nat} {x1 : Int32} {x2 : Int32}
    (w : K a0 = 3 ∧ AW E m_Reader_nextSign (K, n, I, F, J) 0 0 (zAft E m_Reader_readNumber cb sb Q 1 [some (.ref a0), some (.int x1), some (.int x2), none, none, none] []) 0 [some (.ref a0)] []) :
    AW E m_Reader_readNumber (K, n, I, F, J) cb sb Q 0 [some (.ref a0), some (.int x1), some (.int x2), none, none, none] [] := by
  refine aw_aload_n (x := a0) d_Reader_readNumber_0 rfl ?_
  obtain ⟨hk1, w⟩ := w
  exact aw_room (cb' := 0 + cb) (sb' := 0 + sb) (by omega) (by omega) (aw_weak (lv' := [some (.ref a0), some (.int x1), some (.int x2), none, none, none]) ⟨rfl, rfl, rfl, trivial⟩ (aw_callV (M' := m_Reader_nextSign) (lv0 := [some (.ref a0)]) (As := []) (rest := []) 2 248 250 251 rfl (by decide) rfl hk1 tb_248 tb_250 tb_251 (fun U hU => hU.p 1 rfl) rfl rfl 0 0 rfl rfl ⟨by decide, by decide, by decide +kernel, by decide +kernel, by decide, by decide⟩ (Nat.le_of_ble_eq_true rfl) ⟨rfl, trivial⟩ rfl d_Reader_readNumber_1 w))
set_option maxRecDepth 20000 in
theorem r_Reader_readNumber_4 {E : zE} {K n : Nat → Nat} {I : Nat → Nat → Int32} {F : Nat → Nat → Option Nat} {J : Nat → Nat → Int64} {cb sb : Nat} {Q : zO → zH → Prop} {a0 : Nat} {x1 : Int32} {x2 : Int32} {sx0 : Int32}
    (w : K a0 = 3 ∧ AW E m_Reader_readNumber (K, n, I, F, J) cb sb Q 13 [some (.ref a0), some (.int x1), some (.int x2), some (.int (I a0 4)), some (.int (0 : Int32)), none] []) :
    AW E m_Reader_readNumber (K, n, I, F, J) cb sb Q 4 [some (.ref a0), some (.int x1), some (.int x2), none, none, none] [.int sx0] := by
  refine aw_pop d_Reader_readNumber_4 rfl ?_
  refine aw_aload_n (x := a0) d_Reader_readNumber_5 rfl ?_
  obtain ⟨hk1, w⟩ := w
  refine gf_Reader_22 rfl hk1 d_Reader_readNumber_6 ?_
  refine aw_istore_n d_Reader_readNumber_9 (by decide) ?_
  refine aw_iconst (v := (0 : Int32)) d_Reader_readNumber_10 (by decide) ?_
  refine aw_istore d_Reader_readNumber_11 (by decide) ?_
  exact aw_weak (lv' := [some (.ref a0), some (.int x1), some (.int x2), some (.int (I a0 4)), some (.int (0 : Int32)), none]) ⟨rfl, rfl, rfl, rfl, rfl, trivial⟩ w
set_option maxRecDepth 20000 in
theorem r_Reader_readNumber_13 {E : zE} {K n : Nat → Nat} {I : Nat → Nat → Int32} {F : Nat → Nat → Option Nat} {J : Nat → Nat → Int64} {cb sb : Nat} {Q : zO → zH → Prop} {a0 : Nat} {x1 : Int32} {x2 : Int32} {x3 : Int32} {x4 : Int32}
    (w : K a0 = 3 ∧ (((I a0 1) ≤ (I a0 4) → (((I a0 1) ≤ (I a0 4) → (((I a0 4) = x3 → (1 ≤ cb ∧ 6 ≤ sb ∧ Q (.inr "java/lang/IllegalArgumentException") (K, n, I, F, J))) ∧ (¬ (I a0 4) = x3 → ((x4 < x1 → (1 ≤ cb ∧ 6 ≤ sb ∧ Q (.inr "java/lang/IllegalArgumentException") (K, n, I, F, J))) ∧ (¬ x4 < x1 → ((x4 ≤ x2 → Q (.inl (some (.int x4))) (K, n, I, F, J)) ∧ (¬ x4 ≤ x2 → (1 ≤ cb ∧ 6 ≤ sb ∧ Q (.inr "java/lang/IllegalArgumentException") (K, n, I, F, J))))))))) ∧ (¬ (I a0 1) ≤ (I a0 4) → (∃ b7 : Nat, F a0 0 = some b7 ∧ K b7 = 21 ∧ (∃ j9 : Nat, (I a0 4) = nI j9 ∧ j9 < n b7 ∧ j9 < 2147483648 ∧ AW E m_Su_isDigit (K, n, I, F, J) 0 0 (zAft E m_Reader_readNumber cb sb Q 102 [some (.ref a0), some (.int x1), some (.int x2), some (.int x3), some (.int x4), none] []) 0 [some (.int (I b7 j9))] []))))) ∧ (¬ (I a0 1) ≤ (I a0 4) → (((4 : Int32) ≤ ((I a0 4) - x3) → (((I a0 1) ≤ (I a0 4) → (((I a0 4) = x3 → (1 ≤ cb ∧ 6 ≤ sb ∧ Q (.inr "java/lang/IllegalArgumentException") (K, n, I, F, J))) ∧ (¬ (I a0 4) = x3 → ((x4 < x1 → (1 ≤ cb ∧ 6 ≤ sb ∧ Q (.inr "java/lang/IllegalArgumentException") (K, n, I, F, J))) ∧ (¬ x4 < x1 → ((x4 ≤ x2 → Q (.inl (some (.int x4))) (K, n, I, F, J)) ∧ (¬ x4 ≤ x2 → (1 ≤ cb ∧ 6 ≤ sb ∧ Q (.inr "java/lang/IllegalArgumentException") (K, n, I, F, J))))))))) ∧ (¬ (I a0 1) ≤ (I a0 4) → (∃ b15 : Nat, F a0 0 = some b15 ∧ K b15 = 21 ∧ (∃ j17 : Nat, (I a0 4) = nI j17 ∧ j17 < n b15 ∧ j17 < 2147483648 ∧ AW E m_Su_isDigit (K, n, I, F, J) 0 0 (zAft E m_Reader_readNumber cb sb Q 102 [some (.ref a0), some (.int x1), some (.int x2), some (.int x3), some (.int x4), none] []) 0 [some (.int (I b15 j17))] []))))) ∧ (¬ (4 : Int32) ≤ ((I a0 4) - x3) → (∃ b18 : Nat, F a0 0 = some b18 ∧ K b18 = 21 ∧ (∃ j20 : Nat, (I a0 4) = nI j20 ∧ j20 < n b18 ∧ j20 < 2147483648 ∧ AW E m_Su_isDigit (K, n, I, F, J) 0 0 (zAft E m_Reader_readNumber cb sb Q 43 [some (.ref a0), some (.int x1), some (.int x2), some (.int x3), some (.int x4), none] []) 0 [some (.int (I b18 j20))] []))))))) :
    AW E m_Reader_readNumber (K, n, I, F, J) cb sb Q 13 [some (.ref a0), some (.int x1), some (.int x2), some (.int x3), some (.int x4), none] [] := by
  refine aw_aload_n (x := a0) d_Reader_readNumber_13 rfl ?_
  obtain ⟨hk1, w⟩ := w
  refine gf_Reader_22 rfl hk1 d_Reader_readNumber_14 ?_
  refine aw_aload_n (x := a0) d_Reader_readNumber_17 rfl ?_
  refine gf_Reader_35 rfl hk1 d_Reader_readNumber_18 ?_
  refine aw_icmp_ge (tgt := 82) d_Reader_readNumber_21 (by decide) (fun cc2 => ?_) (fun cc2 => ?_)
  · replace w := w.1 cc2
    refine aw_aload_n (x := a0) d_Reader_readNumber_82 rfl ?_
    refine gf_Reader_22 rfl hk1 d_Reader_readNumber_83 ?_
    refine aw_aload_n (x := a0) d_Reader_readNumber_86 rfl ?_
    refine gf_Reader_35 rfl hk1 d_Reader_readNumber_87 ?_
    refine aw_icmp_ge (tgt := 112) d_Reader_readNumber_90 (by decide) (fun cc3 => ?_) (fun cc3 => ?_)
    · replace w := w.1 cc3
      refine aw_iconst (v := (0 : Int32)) d_Reader_readNumber_112 (by decide) ?_
      refine aw_istore d_Reader_readNumber_113 (by decide) ?_
      refine aw_aload_n (x := a0) d_Reader_readNumber_115 rfl ?_
      refine gf_Reader_22 rfl hk1 d_Reader_readNumber_116 ?_
      refine aw_iload_n (x := x3) d_Reader_readNumber_119 rfl ?_
      refine aw_icmp_eq (tgt := 140) d_Reader_readNumber_120 (by decide) (fun cc4 => ?_) (fun cc4 => ?_)
      · replace w := w.1 cc4
        exact aw_throwS (cls := "java/lang/IllegalArgumentException") (names := ["java/lang/RuntimeException", "java/lang/Exception"]) 8 313 18 (by decide) rfl rfl (by decide +kernel) (by decide +kernel) tb_313 tb_18 zth_R zth_Rg d_Reader_readNumber_140 d_Reader_readNumber_143 d_Reader_readNumber_144 d_Reader_readNumber_146 d_Reader_readNumber_149 rfl (by decide) (by decide) w.1 w.2.1 w.2.2
      · replace w := w.2 cc4
        refine aw_iload (x := (0 : Int32)) d_Reader_readNumber_123 rfl ?_
        refine aw_if_ne (tgt := 140) d_Reader_readNumber_125 (by decide) (fun q => absurd q (by decide)) (fun _ => ?_)
        refine aw_iload (x := x4) d_Reader_readNumber_128 rfl ?_
        refine aw_iload_n (x := x1) d_Reader_readNumber_130 rfl ?_
        refine aw_icmp_lt (tgt := 140) d_Reader_readNumber_131 (by decide) (fun cc5 => ?_) (fun cc5 => ?_)
        · replace w := w.1 cc5
          exact aw_throwS (cls := "java/lang/IllegalArgumentException") (names := ["java/lang/RuntimeException", "java/lang/Exception"]) 8 313 18 (by decide) rfl rfl (by decide +kernel) (by decide +kernel) tb_313 tb_18 zth_R zth_Rg d_Reader_readNumber_140 d_Reader_readNumber_143 d_Reader_readNumber_144 d_Reader_readNumber_146 d_Reader_readNumber_149 rfl (by decide) (by decide) w.1 w.2.1 w.2.2
        · replace w := w.2 cc5
          refine aw_iload (x := x4) d_Reader_readNumber_134 rfl ?_
          refine aw_iload_n (x := x2) d_Reader_readNumber_136 rfl ?_
          refine aw_icmp_le (tgt := 150) d_Reader_readNumber_137 (by decide) (fun cc6 => ?_) (fun cc6 => ?_)
          · replace w := w.1 cc6
            refine aw_iload (x := x4) d_Reader_readNumber_150 rfl ?_
            exact aw_ireturn .int rfl rfl d_Reader_readNumber_152 w
          · replace w := w.2 cc6
            exact aw_throwS (cls := "java/lang/IllegalArgumentException") (names := ["java/lang/RuntimeException", "java/lang/Exception"]) 8 313 18 (by decide) rfl rfl (by decide +kernel) (by decide +kernel) tb_313 tb_18 zth_R zth_Rg d_Reader_readNumber_140 d_Reader_readNumber_143 d_Reader_readNumber_144 d_Reader_readNumber_146 d_Reader_readNumber_149 rfl (by decide) (by decide) w.1 w.2.1 w.2.2
    · replace w := w.2 cc3
      refine aw_aload_n (x := a0) d_Reader_readNumber_93 rfl ?_
      obtain ⟨b7, hb7, w⟩ := w
      refine gs_Reader_25 rfl hk1 hb7 d_Reader_readNumber_94 ?_
      refine aw_aload_n (x := a0) d_Reader_readNumber_97 rfl ?_
      refine gf_Reader_22 rfl hk1 d_Reader_readNumber_98 ?_
      obtain ⟨hk8, w⟩ := w
      obtain ⟨j9, hj9a, hj9b, hj9c, w⟩ := w
      refine aw_iaload j9 hk8 hj9a hj9b hj9c d_Reader_readNumber_101 ?_
      exact aw_room (cb' := 0 + cb) (sb' := 0 + sb) (by omega) (by omega) (aw_weak (lv' := [some (.ref a0), some (.int x1), some (.int x2), some (.int x3), some (.int x4), none]) ⟨rfl, rfl, rfl, rfl, rfl, trivial⟩ (aw_callSN (M' := m_Su_isDigit) (lv0 := [some (.int (I b7 j9))]) (As := [.int (I b7 j9)]) (rest := []) 403 404 405 1 "SortUtility" tb_403 tb_404 tb_405 tb_1 rfl rfl 1 0 rfl rfl ⟨by decide, by decide, by decide +kernel, by decide +kernel, by decide, by decide⟩ (Nat.le_of_ble_eq_true rfl) ⟨rfl, trivial⟩ rfl d_Reader_readNumber_102 w))
  · replace w := w.2 cc2
    refine aw_aload_n (x := a0) d_Reader_readNumber_24 rfl ?_
    refine gf_Reader_22 rfl hk1 d_Reader_readNumber_25 ?_
    refine aw_iload_n (x := x3) d_Reader_readNumber_28 rfl ?_
    refine aw_isub d_Reader_readNumber_29 ?_
    refine aw_iconst (v := (4 : Int32)) d_Reader_readNumber_30 (by decide) ?_
    refine aw_icmp_ge (tgt := 82) d_Reader_readNumber_31 (by decide) (fun cc10 => ?_) (fun cc10 => ?_)
    · replace w := w.1 cc10
      refine aw_aload_n (x := a0) d_Reader_readNumber_82 rfl ?_
      refine gf_Reader_22 rfl hk1 d_Reader_readNumber_83 ?_
      refine aw_aload_n (x := a0) d_Reader_readNumber_86 rfl ?_
      refine gf_Reader_35 rfl hk1 d_Reader_readNumber_87 ?_
      refine aw_icmp_ge (tgt := 112) d_Reader_readNumber_90 (by decide) (fun cc11 => ?_) (fun cc11 => ?_)
      · replace w := w.1 cc11
        refine aw_iconst (v := (0 : Int32)) d_Reader_readNumber_112 (by decide) ?_
        refine aw_istore d_Reader_readNumber_113 (by decide) ?_
        refine aw_aload_n (x := a0) d_Reader_readNumber_115 rfl ?_
        refine gf_Reader_22 rfl hk1 d_Reader_readNumber_116 ?_
        refine aw_iload_n (x := x3) d_Reader_readNumber_119 rfl ?_
        refine aw_icmp_eq (tgt := 140) d_Reader_readNumber_120 (by decide) (fun cc12 => ?_) (fun cc12 => ?_)
        · replace w := w.1 cc12
          exact aw_throwS (cls := "java/lang/IllegalArgumentException") (names := ["java/lang/RuntimeException", "java/lang/Exception"]) 8 313 18 (by decide) rfl rfl (by decide +kernel) (by decide +kernel) tb_313 tb_18 zth_R zth_Rg d_Reader_readNumber_140 d_Reader_readNumber_143 d_Reader_readNumber_144 d_Reader_readNumber_146 d_Reader_readNumber_149 rfl (by decide) (by decide) w.1 w.2.1 w.2.2
        · replace w := w.2 cc12
          refine aw_iload (x := (0 : Int32)) d_Reader_readNumber_123 rfl ?_
          refine aw_if_ne (tgt := 140) d_Reader_readNumber_125 (by decide) (fun q => absurd q (by decide)) (fun _ => ?_)
          refine aw_iload (x := x4) d_Reader_readNumber_128 rfl ?_
          refine aw_iload_n (x := x1) d_Reader_readNumber_130 rfl ?_
          refine aw_icmp_lt (tgt := 140) d_Reader_readNumber_131 (by decide) (fun cc13 => ?_) (fun cc13 => ?_)
          · replace w := w.1 cc13
            exact aw_throwS (cls := "java/lang/IllegalArgumentException") (names := ["java/lang/RuntimeException", "java/lang/Exception"]) 8 313 18 (by decide) rfl rfl (by decide +kernel) (by decide +kernel) tb_313 tb_18 zth_R zth_Rg d_Reader_readNumber_140 d_Reader_readNumber_143 d_Reader_readNumber_144 d_Reader_readNumber_146 d_Reader_readNumber_149 rfl (by decide) (by decide) w.1 w.2.1 w.2.2
          · replace w := w.2 cc13
            refine aw_iload (x := x4) d_Reader_readNumber_134 rfl ?_
            refine aw_iload_n (x := x2) d_Reader_readNumber_136 rfl ?_
            refine aw_icmp_le (tgt := 150) d_Reader_readNumber_137 (by decide) (fun cc14 => ?_) (fun cc14 => ?_)
            · replace w := w.1 cc14
              refine aw_iload (x := x4) d_Reader_readNumber_150 rfl ?_
              exact aw_ireturn .int rfl rfl d_Reader_readNumber_152 w
            · replace w := w.2 cc14
              exact aw_throwS (cls := "java/lang/IllegalArgumentException") (names := ["java/lang/RuntimeException", "java/lang/Exception"]) 8 313 18 (by decide) rfl rfl (by decide +kernel) (by decide +kernel) tb_313 tb_18 zth_R zth_Rg d_Reader_readNumber_140 d_Reader_readNumber_143 d_Reader_readNumber_144 d_Reader_readNumber_146 d_Reader_readNumber_149 rfl (by decide) (by decide) w.1 w.2.1 w.2.2
      · replace w := w.2 cc11
        refine aw_aload_n (x := a0) d_Reader_readNumber_93 rfl ?_
        obtain ⟨b15, hb15, w⟩ := w
        refine gs_Reader_25 rfl hk1 hb15 d_Reader_readNumber_94 ?_
        refine aw_aload_n (x := a0) d_Reader_readNumber_97 rfl ?_
        refine gf_Reader_22 rfl hk1 d_Reader_readNumber_98 ?_
        obtain ⟨hk16, w⟩ := w
        obtain ⟨j17, hj17a, hj17b, hj17c, w⟩ := w
        refine aw_iaload j17 hk16 hj17a hj17b hj17c d_Reader_readNumber_101 ?_
        exact aw_room (cb' := 0 + cb) (sb' := 0 + sb) (by omega) (by omega) (aw_weak (lv' := [some (.ref a0), some (.int x1), some (.int x2), some (.int x3), some (.int x4), none]) ⟨rfl, rfl, rfl, rfl, rfl, trivial⟩ (aw_callSN (M' := m_Su_isDigit) (lv0 := [some (.int (I b15 j17))]) (As := [.int (I b15 j17)]) (rest := []) 403 404 405 1 "SortUtility" tb_403 tb_404 tb_405 tb_1 rfl rfl 1 0 rfl rfl ⟨by decide, by decide, by decide +kernel, by decide +kernel, by decide, by decide⟩ (Nat.le_of_ble_eq_true rfl) ⟨rfl, trivial⟩ rfl d_Reader_readNumber_102 w))
    · replace w := w.2 cc10
      refine aw_aload_n (x := a0) d_Reader_readNumber_34 rfl ?_
      obtain ⟨b18, hb18, w⟩ := w
      refine gs_Reader_25 rfl hk1 hb18 d_Reader_readNumber_35 ?_
      refine aw_aload_n (x := a0) d_Reader_readNumber_38 rfl ?_
      refine gf_Reader_22 rfl hk1 d_Reader_readNumber_39 ?_
      obtain ⟨hk19, w⟩ := w
      obtain ⟨j20, hj20a, hj20b, hj20c, w⟩ := w
      refine aw_iaload j20 hk19 hj20a hj20b hj20c d_Reader_readNumber_42 ?_
      exact aw_room (cb' := 0 + cb) (sb' := 0 + sb) (by omega) (by omega) (aw_weak (lv' := [some (.ref a0), some (.int x1), some (.int x2), some (.int x3), some (.int x4), none]) ⟨rfl, rfl, rfl, rfl, rfl, trivial⟩ (aw_callSN (M' := m_Su_isDigit) (lv0 := [some (.int (I b18 j20))]) (As := [.int (I b18 j20)]) (rest := []) 403 404 405 1 "SortUtility" tb_403 tb_404 tb_405 tb_1 rfl rfl 1 0 rfl rfl ⟨by decide, by decide, by decide +kernel, by decide +kernel, by decide, by decide⟩ (Nat.le_of_ble_eq_true rfl) ⟨rfl, trivial⟩ rfl d_Reader_readNumber_43 w))
set_option maxRecDepth 20000 in
theorem r_Reader_readNumber_46 {E : zE} {K n : Nat → Nat} {I : Nat → Nat → Int32} {F : Nat → Nat → Option Nat} {J : Nat → Nat → Int64} {cb sb : Nat} {Q : zO → zH → Prop} {a0 : Nat} {x1 : Int32} {x2 : Int32} {x3 : Int32} {x4 : Int32} {sx0 : Int32}
    (w : ((sx0 = 0 → K a0 = 3 ∧ (((I a0 1) ≤ (I a0 4) → (((I a0 4) = x3 → (1 ≤ cb ∧ 6 ≤ sb ∧ Q (.inr "java/lang/IllegalArgumentException") (K, n, I, F, J))) ∧ (¬ (I a0 4) = x3 → ((x4 < x1 → (1 ≤ cb ∧ 6 ≤ sb ∧ Q (.inr "java/lang/IllegalArgumentException") (K, n, I, F, J))) ∧ (¬ x4 < x1 → ((x4 ≤ x2 → Q (.inl (some (.int x4))) (K, n, I, F, J)) ∧ (¬ x4 ≤ x2 → (1 ≤ cb ∧ 6 ≤ sb ∧ Q (.inr "java/lang/IllegalArgumentException") (K, n, I, F, J))))))))) ∧ (¬ (I a0 1) ≤ (I a0 4) → (∃ b7 : Nat, F a0 0 = some b7 ∧ K b7 = 21 ∧ (∃ j9 : Nat, (I a0 4) = nI j9 ∧ j9 < n b7 ∧ j9 < 2147483648 ∧ AW E m_Su_isDigit (K, n, I, F, J) 0 0 (zAft E m_Reader_readNumber cb sb Q 102 [some (.ref a0), some (.int x1), some (.int x2), some (.int x3), some (.int x4), none] []) 0 [some (.int (I b7 j9))] []))))) ∧ (¬ sx0 = 0 → K a0 = 3 ∧ (∃ b11 : Nat, F a0 0 = some b11 ∧ K b11 = 21 ∧ (∃ j13 : Nat, (I a0 4) = nI j13 ∧ j13 < n b11 ∧ j13 < 2147483648 ∧ AW E m_Reader_readNumber (K, n, (zup I a0 4 ((I a0 4) + (1 : Int32))), F, J) cb sb Q 13 [some (.ref a0), some (.int x1), some (.int x2), some (.int x3), some (.int ((x4 * (10 : Int32)) + ((I b11 j13) - (48 : Int32)))), none] []))))) :
    AW E m_Reader_readNumber (K, n, I, F, J) cb sb Q 46 [some (.ref a0), some (.int x1), some (.int x2), some (.int x3), some (.int x4), none] [.int sx0] := by
  refine aw_if_eq (tgt := 82) d_Reader_readNumber_46 (by decide) (fun cc1 => ?_) (fun cc1 => ?_)
  · replace w := w.1 cc1
    refine aw_aload_n (x := a0) d_Reader_readNumber_82 rfl ?_
    obtain ⟨hk2, w⟩ := w
    refine gf_Reader_22 rfl hk2 d_Reader_readNumber_83 ?_
    refine aw_aload_n (x := a0) d_Reader_readNumber_86 rfl ?_
    refine gf_Reader_35 rfl hk2 d_Reader_readNumber_87 ?_
    refine aw_icmp_ge (tgt := 112) d_Reader_readNumber_90 (by decide) (fun cc3 => ?_) (fun cc3 => ?_)
    · replace w := w.1 cc3
      refine aw_iconst (v := (0 : Int32)) d_Reader_readNumber_112 (by decide) ?_
      refine aw_istore d_Reader_readNumber_113 (by decide) ?_
      refine aw_aload_n (x := a0) d_Reader_readNumber_115 rfl ?_
      refine gf_Reader_22 rfl hk2 d_Reader_readNumber_116 ?_
      refine aw_iload_n (x := x3) d_Reader_readNumber_119 rfl ?_
      refine aw_icmp_eq (tgt := 140) d_Reader_readNumber_120 (by decide) (fun cc4 => ?_) (fun cc4 => ?_)
      · replace w := w.1 cc4
        exact aw_throwS (cls := "java/lang/IllegalArgumentException") (names := ["java/lang/RuntimeException", "java/lang/Exception"]) 8 313 18 (by decide) rfl rfl (by decide +kernel) (by decide +kernel) tb_313 tb_18 zth_R zth_Rg d_Reader_readNumber_140 d_Reader_readNumber_143 d_Reader_readNumber_144 d_Reader_readNumber_146 d_Reader_readNumber_149 rfl (by decide) (by decide) w.1 w.2.1 w.2.2
      · replace w := w.2 cc4
        refine aw_iload (x := (0 : Int32)) d_Reader_readNumber_123 rfl ?_
        refine aw_if_ne (tgt := 140) d_Reader_readNumber_125 (by decide) (fun q => absurd q (by decide)) (fun _ => ?_)
        refine aw_iload (x := x4) d_Reader_readNumber_128 rfl ?_
        refine aw_iload_n (x := x1) d_Reader_readNumber_130 rfl ?_
        refine aw_icmp_lt (tgt := 140) d_Reader_readNumber_131 (by decide) (fun cc5 => ?_) (fun cc5 => ?_)
        · replace w := w.1 cc5
          exact aw_throwS (cls := "java/lang/IllegalArgumentException") (names := ["java/lang/RuntimeException", "java/lang/Exception"]) 8 313 18 (by decide) rfl rfl (by decide +kernel) (by decide +kernel) tb_313 tb_18 zth_R zth_Rg d_Reader_readNumber_140 d_Reader_readNumber_143 d_Reader_readNumber_144 d_Reader_readNumber_146 d_Reader_readNumber_149 rfl (by decide) (by decide) w.1 w.2.1 w.2.2
        · replace w := w.2 cc5
          refine aw_iload (x := x4) d_Reader_readNumber_134 rfl ?_
          refine aw_iload_n (x := x2) d_Reader_readNumber_136 rfl ?_
          refine aw_icmp_le (tgt := 150) d_Reader_readNumber_137 (by decide) (fun cc6 => ?_) (fun cc6 => ?_)
          · replace w := w.1 cc6
            refine aw_iload (x := x4) d_Reader_readNumber_150 rfl ?_
            exact aw_ireturn .int rfl rfl d_Reader_readNumber_152 w
          · replace w := w.2 cc6
            exact aw_throwS (cls := "java/lang/IllegalArgumentException") (names := ["java/lang/RuntimeException", "java/lang/Exception"]) 8 313 18 (by decide) rfl rfl (by decide +kernel) (by decide +kernel) tb_313 tb_18 zth_R zth_Rg d_Reader_readNumber_140 d_Reader_readNumber_143 d_Reader_readNumber_144 d_Reader_readNumber_146 d_Reader_readNumber_149 rfl (by decide) (by decide) w.1 w.2.1 w.2.2
    · replace w := w.2 cc3
      refine aw_aload_n (x := a0) d_Reader_readNumber_93 rfl ?_
      obtain ⟨b7, hb7, w⟩ := w
      refine gs_Reader_25 rfl hk2 hb7 d_Reader_readNumber_94 ?_
      refine aw_aload_n (x := a0) d_Reader_readNumber_97 rfl ?_
      refine gf_Reader_22 rfl hk2 d_Reader_readNumber_98 ?_
      obtain ⟨hk8, w⟩ := w
      obtain ⟨j9, hj9a, hj9b, hj9c, w⟩ := w
      refine aw_iaload j9 hk8 hj9a hj9b hj9c d_Reader_readNumber_101 ?_
      exact aw_room (cb' := 0 + cb) (sb' := 0 + sb) (by omega) (by omega) (aw_weak (lv' := [some (.ref a0), some (.int x1), some (.int x2), some (.int x3), some (.int x4), none]) ⟨rfl, rfl, rfl, rfl, rfl, trivial⟩ (aw_callSN (M' := m_Su_isDigit) (lv0 := [some (.int (I b7 j9))]) (As := [.int (I b7 j9)]) (rest := []) 403 404 405 1 "SortUtility" tb_403 tb_404 tb_405 tb_1 rfl rfl 1 0 rfl rfl ⟨by decide, by decide, by decide +kernel, by decide +kernel, by decide, by decide⟩ (Nat.le_of_ble_eq_true rfl) ⟨rfl, trivial⟩ rfl d_Reader_readNumber_102 w))
  · replace w := w.2 cc1
    refine aw_iload (x := x4) d_Reader_readNumber_49 rfl ?_
    refine aw_bipush (v := (10 : Int32)) d_Reader_readNumber_51 (by decide) ?_
    refine aw_imul d_Reader_readNumber_53 ?_
    refine aw_aload_n (x := a0) d_Reader_readNumber_54 rfl ?_
    obtain ⟨hk10, w⟩ := w
    obtain ⟨b11, hb11, w⟩ := w
    refine gs_Reader_25 rfl hk10 hb11 d_Reader_readNumber_55 ?_
    refine aw_aload_n (x := a0) d_Reader_readNumber_58 rfl ?_
    refine gf_Reader_22 rfl hk10 d_Reader_readNumber_59 ?_
    obtain ⟨hk12, w⟩ := w
    obtain ⟨j13, hj13a, hj13b, hj13c, w⟩ := w
    refine aw_iaload j13 hk12 hj13a hj13b hj13c d_Reader_readNumber_62 ?_
    refine aw_bipush (v := (48 : Int32)) d_Reader_readNumber_63 (by decide) ?_
    refine aw_isub d_Reader_readNumber_65 ?_
    refine aw_iadd d_Reader_readNumber_66 ?_
    refine aw_istore d_Reader_readNumber_67 (by decide) ?_
    refine aw_aload_n (x := a0) d_Reader_readNumber_69 rfl ?_
    refine aw_dup d_Reader_readNumber_70 rfl ?_
    refine gf_Reader_22 rfl hk10 d_Reader_readNumber_71 ?_
    refine aw_iconst (v := (1 : Int32)) d_Reader_readNumber_74 (by decide) ?_
    refine aw_iadd d_Reader_readNumber_75 ?_
    refine pf_Reader_22 rfl hk10 d_Reader_readNumber_76 ?_
    refine aw_goto (tgt := 13) d_Reader_readNumber_79 (by decide) ?_
    exact aw_weak (lv' := [some (.ref a0), some (.int x1), some (.int x2), some (.int x3), some (.int ((x4 * (10 : Int32)) + ((I b11 j13) - (48 : Int32)))), none]) ⟨rfl, rfl, rfl, rfl, rfl, trivial⟩ w
set_option maxRecDepth 20000 in
theorem r_Reader_readNumber_105 {E : zE} {K n : Nat → Nat} {I : Nat → Nat → Int32} {F : Nat → Nat → Option Nat} {J : Nat → Nat → Int64} {cb sb : Nat} {Q : zO → zH → Prop} {a0 : Nat} {x1 : Int32} {x2 : Int32} {x3 : Int32} {x4 : Int32} {sx0 : Int32}
    (w : ((sx0 = 0 → K a0 = 3 ∧ (((I a0 4) = x3 → (1 ≤ cb ∧ 6 ≤ sb ∧ Q (.inr "java/lang/IllegalArgumentException") (K, n, I, F, J))) ∧ (¬ (I a0 4) = x3 → ((x4 < x1 → (1 ≤ cb ∧ 6 ≤ sb ∧ Q (.inr "java/lang/IllegalArgumentException") (K, n, I, F, J))) ∧ (¬ x4 < x1 → ((x4 ≤ x2 → Q (.inl (some (.int x4))) (K, n, I, F, J)) ∧ (¬ x4 ≤ x2 → (1 ≤ cb ∧ 6 ≤ sb ∧ Q (.inr "java/lang/IllegalArgumentException") (K, n, I, F, J))))))))) ∧ (¬ sx0 = 0 → K a0 = 3 ∧ (((I a0 4) = x3 → (1 ≤ cb ∧ 6 ≤ sb ∧ Q (.inr "java/lang/IllegalArgumentException") (K, n, I, F, J))) ∧ (¬ (I a0 4) = x3 → (1 ≤ cb ∧ 6 ≤ sb ∧ Q (.inr "java/lang/IllegalArgumentException") (K, n, I, F, J))))))) :
    AW E m_Reader_readNumber (K, n, I, F, J) cb sb Q 105 [some (.ref a0), some (.int x1), some (.int x2), some (.int x3), some (.int x4), none] [.int sx0] := by
  refine aw_if_eq (tgt := 112) d_Reader_readNumber_105 (by decide) (fun cc1 => ?_) (fun cc1 => ?_)
  · replace w := w.1 cc1
    refine aw_iconst (v := (0 : Int32)) d_Reader_readNumber_112 (by decide) ?_
    refine aw_istore d_Reader_readNumber_113 (by decide) ?_
    refine aw_aload_n (x := a0) d_Reader_readNumber_115 rfl ?_
    obtain ⟨hk2, w⟩ := w
    refine gf_Reader_22 rfl hk2 d_Reader_readNumber_116 ?_
    refine aw_iload_n (x := x3) d_Reader_readNumber_119 rfl ?_
    refine aw_icmp_eq (tgt := 140) d_Reader_readNumber_120 (by decide) (fun cc3 => ?_) (fun cc3 => ?_)
    · replace w := w.1 cc3
      exact aw_throwS (cls := "java/lang/IllegalArgumentException") (names := ["java/lang/RuntimeException", "java/lang/Exception"]) 8 313 18 (by decide) rfl rfl (by decide +kernel) (by decide +kernel) tb_313 tb_18 zth_R zth_Rg d_Reader_readNumber_140 d_Reader_readNumber_143 d_Reader_readNumber_144 d_Reader_readNumber_146 d_Reader_readNumber_149 rfl (by decide) (by decide) w.1 w.2.1 w.2.2
    · replace w := w.2 cc3
      refine aw_iload (x := (0 : Int32)) d_Reader_readNumber_123 rfl ?_
      refine aw_if_ne (tgt := 140) d_Reader_readNumber_125 (by decide) (fun q => absurd q (by decide)) (fun _ => ?_)
      refine aw_iload (x := x4) d_Reader_readNumber_128 rfl ?_
      refine aw_iload_n (x := x1) d_Reader_readNumber_130 rfl ?_
      refine aw_icmp_lt (tgt := 140) d_Reader_readNumber_131 (by decide) (fun cc4 => ?_) (fun cc4 => ?_)
      · replace w := w.1 cc4
        exact aw_throwS (cls := "java/lang/IllegalArgumentException") (names := ["java/lang/RuntimeException", "java/lang/Exception"]) 8 313 18 (by decide) rfl rfl (by decide +kernel) (by decide +kernel) tb_313 tb_18 zth_R zth_Rg d_Reader_readNumber_140 d_Reader_readNumber_143 d_Reader_readNumber_144 d_Reader_readNumber_146 d_Reader_readNumber_149 rfl (by decide) (by decide) w.1 w.2.1 w.2.2
      · replace w := w.2 cc4
        refine aw_iload (x := x4) d_Reader_readNumber_134 rfl ?_
        refine aw_iload_n (x := x2) d_Reader_readNumber_136 rfl ?_
        refine aw_icmp_le (tgt := 150) d_Reader_readNumber_137 (by decide) (fun cc5 => ?_) (fun cc5 => ?_)
        · replace w := w.1 cc5
          refine aw_iload (x := x4) d_Reader_readNumber_150 rfl ?_
          exact aw_ireturn .int rfl rfl d_Reader_readNumber_152 w
        · replace w := w.2 cc5
          exact aw_throwS (cls := "java/lang/IllegalArgumentException") (names := ["java/lang/RuntimeException", "java/lang/Exception"]) 8 313 18 (by decide) rfl rfl (by decide +kernel) (by decide +kernel) tb_313 tb_18 zth_R zth_Rg d_Reader_readNumber_140 d_Reader_readNumber_143 d_Reader_readNumber_144 d_Reader_readNumber_146 d_Reader_readNumber_149 rfl (by decide) (by decide) w.1 w.2.1 w.2.2
  · replace w := w.2 cc1
    refine aw_iconst (v := (1 : Int32)) d_Reader_readNumber_108 (by decide) ?_
    refine aw_goto (tgt := 113) d_Reader_readNumber_109 (by decide) ?_
    refine aw_istore d_Reader_readNumber_113 (by decide) ?_
    refine aw_aload_n (x := a0) d_Reader_readNumber_115 rfl ?_
    obtain ⟨hk6, w⟩ := w
    refine gf_Reader_22 rfl hk6 d_Reader_readNumber_116 ?_
    refine aw_iload_n (x := x3) d_Reader_readNumber_119 rfl ?_
    refine aw_icmp_eq (tgt := 140) d_Reader_readNumber_120 (by decide) (fun cc7 => ?_) (fun cc7 => ?_)
    · replace w := w.1 cc7
      exact aw_throwS (cls := "java/lang/IllegalArgumentException") (names := ["java/lang/RuntimeException", "java/lang/Exception"]) 8 313 18 (by decide) rfl rfl (by decide +kernel) (by decide +kernel) tb_313 tb_18 zth_R zth_Rg d_Reader_readNumber_140 d_Reader_readNumber_143 d_Reader_readNumber_144 d_Reader_readNumber_146 d_Reader_readNumber_149 rfl (by decide) (by decide) w.1 w.2.1 w.2.2
    · replace w := w.2 cc7
      refine aw_iload (x := (1 : Int32)) d_Reader_readNumber_123 rfl ?_
      refine aw_if_ne (tgt := 140) d_Reader_readNumber_125 (by decide) (fun _ => ?_) (fun q => absurd q (by decide))
      exact aw_throwS (cls := "java/lang/IllegalArgumentException") (names := ["java/lang/RuntimeException", "java/lang/Exception"]) 8 313 18 (by decide) rfl rfl (by decide +kernel) (by decide +kernel) tb_313 tb_18 zth_R zth_Rg d_Reader_readNumber_140 d_Reader_readNumber_143 d_Reader_readNumber_144 d_Reader_readNumber_146 d_Reader_readNumber_149 rfl (by decide) (by decide) w.1 w.2.1 w.2.2
set_option maxRecDepth 20000 in
theorem r_Reader_take_0 {E : zE} {K n : Nat → Nat} {I : Nat → Nat → Int32} {F : Nat → Nat → Option Nat} {J : Nat → Nat → Int64} {cb sb : Nat} {Q : zO → zH → Prop} {a0 : Nat} {a1 : Nat}
    (w : K a0 = 3 ∧ AW E m_Reader_nextSign (K, n, I, F, J) 0 0 (zAft E m_Reader_take cb sb Q 1 [some (.ref a0), some (.ref a1), none, none] []) 0 [some (.ref a0)] []) :
    AW E m_Reader_take (K, n, I, F, J) cb sb Q 0 [some (.ref a0), some (.ref a1), none, none] [] := by
  refine aw_aload_n (x := a0) d_Reader_take_0 rfl ?_
  obtain ⟨hk1, w⟩ := w
  exact aw_room (cb' := 0 + cb) (sb' := 0 + sb) (by omega) (by omega) (aw_weak (lv' := [some (.ref a0), some (.ref a1), none, none]) ⟨rfl, rfl, trivial⟩ (aw_callV (M' := m_Reader_nextSign) (lv0 := [some (.ref a0)]) (As := []) (rest := []) 2 248 250 251 rfl (by decide) rfl hk1 tb_248 tb_250 tb_251 (fun U hU => hU.p 1 rfl) rfl rfl 0 0 rfl rfl ⟨by decide, by decide, by decide +kernel, by decide +kernel, by decide, by decide⟩ (Nat.le_of_ble_eq_true rfl) ⟨rfl, trivial⟩ rfl d_Reader_take_1 w))
set_option maxRecDepth 20000 in
theorem r_Reader_take_4 {E : zE} {K n : Nat → Nat} {I : Nat → Nat → Int32} {F : Nat → Nat → Option Nat} {J : Nat → Nat → Int64} {cb sb : Nat} {Q : zO → zH → Prop} {a0 : Nat} {a1 : Nat} {sx0 : Int32}
    (w : AW E m_Reader_take (K, n, I, F, J) cb sb Q 7 [some (.ref a0), some (.ref a1), some (.int sx0), some (.int (0 : Int32))] []) :
    AW E m_Reader_take (K, n, I, F, J) cb sb Q 4 [some (.ref a0), some (.ref a1), none, none] [.int sx0] := by
  refine aw_istore_n d_Reader_take_4 (by decide) ?_
  refine aw_iconst (v := (0 : Int32)) d_Reader_take_5 (by decide) ?_
  refine aw_istore_n d_Reader_take_6 (by decide) ?_
  exact aw_weak (lv' := [some (.ref a0), some (.ref a1), some (.int sx0), some (.int (0 : Int32))]) ⟨rfl, rfl, rfl, rfl, trivial⟩ w
set_option maxRecDepth 20000 in
theorem r_Reader_take_7 {E : zE} {K n : Nat → Nat} {I : Nat → Nat → Int32} {F : Nat → Nat → Option Nat} {J : Nat → Nat → Int64} {cb sb : Nat} {Q : zO → zH → Prop} {a0 : Nat} {a1 : Nat} {x2 : Int32} {x3 : Int32}
    (w : (∃ u1 : Nat, u1 < 21 ∧ a1 = E.2.1 (100 + u1) ∧ (((nI (zslen.getD u1 0)) ≤ x3 → (1 ≤ cb ∧ 6 ≤ sb ∧ Q (.inr "java/lang/IllegalArgumentException") (K, n, I, F, J))) ∧ (¬ (nI (zslen.getD u1 0)) ≤ x3 → (∃ j3 : Nat, x3 = nI j3 ∧ j3 < zslen.getD u1 0 ∧ ((¬ x2 = ((zsbyt.getD u1 []).getD j3 0) → AW E m_Reader_take (K, n, I, F, J) cb sb Q 7 [some (.ref a0), some (.ref (E.2.1 (100 + u1))), some (.int x2), some (.int (x3 + (1 : Int32)))] []) ∧ (x2 = ((zsbyt.getD u1 []).getD j3 0) → K a0 = 3 ∧ Q (.inl (some (.int x2))) (K, n, (zup I a0 4 ((I a0 4) + (1 : Int32))), F, J)))))))) :
    AW E m_Reader_take (K, n, I, F, J) cb sb Q 7 [some (.ref a0), some (.ref a1), some (.int x2), some (.int x3)] [] := by
  refine aw_iload_n (x := x3) d_Reader_take_7 rfl ?_
  refine aw_aload_n (x := a1) d_Reader_take_8 rfl ?_
  obtain ⟨u1, hu1, eu1, w⟩ := w
  subst eu1
  refine aw_strlen hu1 tb_265 rfl ⟨by decide, by decide, by decide +kernel, by decide +kernel, by decide, Nat.le_of_ble_eq_true rfl⟩ d_Reader_take_9 ?_
  refine aw_icmp_ge (tgt := 42) d_Reader_take_12 (by decide) (fun cc2 => ?_) (fun cc2 => ?_)
  · replace w := w.1 cc2
    exact aw_throwS (cls := "java/lang/IllegalArgumentException") (names := ["java/lang/RuntimeException", "java/lang/Exception"]) 10 313 18 (by decide) rfl rfl (by decide +kernel) (by decide +kernel) tb_313 tb_18 zth_R zth_Rg d_Reader_take_42 d_Reader_take_45 d_Reader_take_46 d_Reader_take_48 d_Reader_take_51 rfl (by decide) (by decide) w.1 w.2.1 w.2.2
  · replace w := w.2 cc2
    refine aw_iload_n (x := x2) d_Reader_take_15 rfl ?_
    refine aw_aload_n (x := (E.2.1 (100 + u1))) d_Reader_take_16 rfl ?_
    refine aw_iload_n (x := x3) d_Reader_take_17 rfl ?_
    obtain ⟨j3, hj3a, hj3b, w⟩ := w
    refine aw_strchr hu1 hj3a hj3b tb_275 rfl ⟨by decide, by decide, by decide +kernel, by decide +kernel, by decide, Nat.le_of_ble_eq_true rfl⟩ d_Reader_take_18 ?_
    refine aw_icmp_ne (tgt := 36) d_Reader_take_21 (by decide) (fun cc4 => ?_) (fun cc4 => ?_)
    · replace w := w.1 cc4
      refine aw_iinc (v := (x3 + (1 : Int32))) d_Reader_take_36 rfl (by rfl) (by decide) ?_
      refine aw_goto (tgt := 7) d_Reader_take_39 (by decide) ?_
      exact aw_weak (lv' := [some (.ref a0), some (.ref (E.2.1 (100 + u1))), some (.int x2), some (.int (x3 + (1 : Int32)))]) ⟨rfl, rfl, rfl, rfl, trivial⟩ w
    · replace w := w.2 cc4
      refine aw_aload_n (x := a0) d_Reader_take_24 rfl ?_
      refine aw_dup d_Reader_take_25 rfl ?_
      obtain ⟨hk5, w⟩ := w
      refine gf_Reader_22 rfl hk5 d_Reader_take_26 ?_
      refine aw_iconst (v := (1 : Int32)) d_Reader_take_29 (by decide) ?_
      refine aw_iadd d_Reader_take_30 ?_
      refine pf_Reader_22 rfl hk5 d_Reader_take_31 ?_
      refine aw_iload_n (x := x2) d_Reader_take_34 rfl ?_
      exact aw_ireturn .int rfl rfl d_Reader_take_35 w
set_option maxRecDepth 20000 in
theorem r_Reader_hasMore_0 {E : zE} {K n : Nat → Nat} {I : Nat → Nat → Int32} {F : Nat → Nat → Option Nat} {J : Nat → Nat → Int64} {cb sb : Nat} {Q : zO → zH → Prop} {a0 : Nat}
    (w : K a0 = 3 ∧ AW E m_Reader_nextSign (K, n, I, F, J) 0 0 (zAft E m_Reader_hasMore cb sb Q 1 [some (.ref a0)] []) 0 [some (.ref a0)] []) :
    AW E m_Reader_hasMore (K, n, I, F, J) cb sb Q 0 [some (.ref a0)] [] := by
  refine aw_aload_n (x := a0) d_Reader_hasMore_0 rfl ?_
  obtain ⟨hk1, w⟩ := w
  exact aw_room (cb' := 0 + cb) (sb' := 0 + sb) (by omega) (by omega) (aw_weak (lv' := [some (.ref a0)]) ⟨rfl, trivial⟩ (aw_callV (M' := m_Reader_nextSign) (lv0 := [some (.ref a0)]) (As := []) (rest := []) 2 248 250 251 rfl (by decide) rfl hk1 tb_248 tb_250 tb_251 (fun U hU => hU.p 1 rfl) rfl rfl 0 0 rfl rfl ⟨by decide, by decide, by decide +kernel, by decide +kernel, by decide, by decide⟩ (Nat.le_of_ble_eq_true rfl) ⟨rfl, trivial⟩ rfl d_Reader_hasMore_1 w))
set_option maxRecDepth 20000 in
theorem r_Reader_hasMore_4 {E : zE} {K n : Nat → Nat} {I : Nat → Nat → Int32} {F : Nat → Nat → Option Nat} {J : Nat → Nat → Int64} {cb sb : Nat} {Q : zO → zH → Prop} {a0 : Nat} {sx0 : Int32}
    (w : K a0 = 3 ∧ (((I a0 1) ≤ (I a0 4) → Q (.inl (some (.int (0 : Int32)))) (K, n, I, F, J)) ∧ (¬ (I a0 1) ≤ (I a0 4) → Q (.inl (some (.int (1 : Int32)))) (K, n, I, F, J)))) :
    AW E m_Reader_hasMore (K, n, I, F, J) cb sb Q 4 [some (.ref a0)] [.int sx0] := by
  refine aw_pop d_Reader_hasMore_4 rfl ?_
  refine aw_aload_n (x := a0) d_Reader_hasMore_5 rfl ?_
  obtain ⟨hk1, w⟩ := w
  refine gf_Reader_22 rfl hk1 d_Reader_hasMore_6 ?_
  refine aw_aload_n (x := a0) d_Reader_hasMore_9 rfl ?_
  refine gf_Reader_35 rfl hk1 d_Reader_hasMore_10 ?_
  refine aw_icmp_ge (tgt := 20) d_Reader_hasMore_13 (by decide) (fun cc2 => ?_) (fun cc2 => ?_)
  · replace w := w.1 cc2
    refine aw_iconst (v := (0 : Int32)) d_Reader_hasMore_20 (by decide) ?_
    exact aw_ireturn .boolean rfl rfl d_Reader_hasMore_21 w
  · replace w := w.2 cc2
    refine aw_iconst (v := (1 : Int32)) d_Reader_hasMore_16 (by decide) ?_
    refine aw_goto (tgt := 21) d_Reader_hasMore_17 (by decide) ?_
    exact aw_ireturn .boolean rfl rfl d_Reader_hasMore_21 w
set_option maxRecDepth 20000 in
theorem r_Reader_nextSign_0 {E : zE} {K n : Nat → Nat} {I : Nat → Nat → Int32} {F : Nat → Nat → Option Nat} {J : Nat → Nat → Int64} {cb sb : Nat} {Q : zO → zH → Prop} {a0 : Nat}
    (w : K a0 = 3 ∧ (((I a0 1) ≤ (I a0 4) → (((I a0 1) ≤ (I a0 4) → Q (.inl (some (.int ((-1) : Int32)))) (K, n, I, F, J)) ∧ (¬ (I a0 1) ≤ (I a0 4) → (∃ b4 : Nat, F a0 0 = some b4 ∧ K b4 = 21 ∧ (∃ j6 : Nat, (I a0 4) = nI j6 ∧ j6 < n b4 ∧ j6 < 2147483648 ∧ Q (.inl (some (.int (I b4 j6)))) (K, n, I, F, J)))))) ∧ (¬ (I a0 1) ≤ (I a0 4) → (∃ b7 : Nat, F a0 0 = some b7 ∧ K b7 = 21 ∧ (∃ j9 : Nat, (I a0 4) = nI j9 ∧ j9 < n b7 ∧ j9 < 2147483648 ∧ (((I b7 j9) = (32 : Int32) → AW E m_Reader_nextSign (K, n, (zup I a0 4 ((I a0 4) + (1 : Int32))), F, J) cb sb Q 0 [some (.ref a0)] []) ∧ (¬ (I b7 j9) = (32 : Int32) → ((¬ (I b7 j9) = (10 : Int32) → (((I a0 1) ≤ (I a0 4) → Q (.inl (some (.int ((-1) : Int32)))) (K, n, I, F, J)) ∧ (¬ (I a0 1) ≤ (I a0 4) → Q (.inl (some (.int (I b7 j9)))) (K, n, I, F, J)))) ∧ ((I b7 j9) = (10 : Int32) → AW E m_Reader_nextSign (K, n, (zup I a0 4 ((I a0 4) + (1 : Int32))), F, J) cb sb Q 0 [some (.ref a0)] []))))))))) :
    AW E m_Reader_nextSign (K, n, I, F, J) cb sb Q 0 [some (.ref a0)] [] := by
  refine aw_aload_n (x := a0) d_Reader_nextSign_0 rfl ?_
  obtain ⟨hk1, w⟩ := w
  refine gf_Reader_22 rfl hk1 d_Reader_nextSign_1 ?_
  refine aw_aload_n (x := a0) d_Reader_nextSign_4 rfl ?_
  refine gf_Reader_35 rfl hk1 d_Reader_nextSign_5 ?_
  refine aw_icmp_ge (tgt := 52) d_Reader_nextSign_8 (by decide) (fun cc2 => ?_) (fun cc2 => ?_)
  · replace w := w.1 cc2
    refine aw_aload_n (x := a0) d_Reader_nextSign_52 rfl ?_
    refine gf_Reader_22 rfl hk1 d_Reader_nextSign_53 ?_
    refine aw_aload_n (x := a0) d_Reader_nextSign_56 rfl ?_
    refine gf_Reader_35 rfl hk1 d_Reader_nextSign_57 ?_
    refine aw_icmp_ge (tgt := 75) d_Reader_nextSign_60 (by decide) (fun cc3 => ?_) (fun cc3 => ?_)
    · replace w := w.1 cc3
      refine aw_iconst (v := ((-1) : Int32)) d_Reader_nextSign_75 (by decide) ?_
      exact aw_ireturn .int rfl rfl d_Reader_nextSign_76 w
    · replace w := w.2 cc3
      refine aw_aload_n (x := a0) d_Reader_nextSign_63 rfl ?_
      obtain ⟨b4, hb4, w⟩ := w
      refine gs_Reader_25 rfl hk1 hb4 d_Reader_nextSign_64 ?_
      refine aw_aload_n (x := a0) d_Reader_nextSign_67 rfl ?_
      refine gf_Reader_22 rfl hk1 d_Reader_nextSign_68 ?_
      obtain ⟨hk5, w⟩ := w
      obtain ⟨j6, hj6a, hj6b, hj6c, w⟩ := w
      refine aw_iaload j6 hk5 hj6a hj6b hj6c d_Reader_nextSign_71 ?_
      refine aw_goto (tgt := 76) d_Reader_nextSign_72 (by decide) ?_
      exact aw_ireturn .int rfl rfl d_Reader_nextSign_76 w
  · replace w := w.2 cc2
    refine aw_aload_n (x := a0) d_Reader_nextSign_11 rfl ?_
    obtain ⟨b7, hb7, w⟩ := w
    refine gs_Reader_25 rfl hk1 hb7 d_Reader_nextSign_12 ?_
    refine aw_aload_n (x := a0) d_Reader_nextSign_15 rfl ?_
    refine gf_Reader_22 rfl hk1 d_Reader_nextSign_16 ?_
    obtain ⟨hk8, w⟩ := w
    obtain ⟨j9, hj9a, hj9b, hj9c, w⟩ := w
    refine aw_iaload j9 hk8 hj9a hj9b hj9c d_Reader_nextSign_19 ?_
    refine aw_bipush (v := (32 : Int32)) d_Reader_nextSign_20 (by decide) ?_
    refine aw_icmp_eq (tgt := 39) d_Reader_nextSign_22 (by decide) (fun cc10 => ?_) (fun cc10 => ?_)
    · replace w := w.1 cc10
      refine aw_aload_n (x := a0) d_Reader_nextSign_39 rfl ?_
      refine aw_dup d_Reader_nextSign_40 rfl ?_
      refine gf_Reader_22 rfl hk1 d_Reader_nextSign_41 ?_
      refine aw_iconst (v := (1 : Int32)) d_Reader_nextSign_44 (by decide) ?_
      refine aw_iadd d_Reader_nextSign_45 ?_
      refine pf_Reader_22 rfl hk1 d_Reader_nextSign_46 ?_
      refine aw_goto (tgt := 0) d_Reader_nextSign_49 (by decide) ?_
      exact aw_weak (lv' := [some (.ref a0)]) ⟨rfl, trivial⟩ w
    · replace w := w.2 cc10
      refine aw_aload_n (x := a0) d_Reader_nextSign_25 rfl ?_
      refine gs_Reader_25 rfl hk1 hb7 d_Reader_nextSign_26 ?_
      refine aw_aload_n (x := a0) d_Reader_nextSign_29 rfl ?_
      refine gf_Reader_22 rfl hk1 d_Reader_nextSign_30 ?_
      refine aw_iaload j9 hk8 hj9a hj9b hj9c d_Reader_nextSign_33 ?_
      refine aw_bipush (v := (10 : Int32)) d_Reader_nextSign_34 (by decide) ?_
      refine aw_icmp_ne (tgt := 52) d_Reader_nextSign_36 (by decide) (fun cc11 => ?_) (fun cc11 => ?_)
      · replace w := w.1 cc11
        refine aw_aload_n (x := a0) d_Reader_nextSign_52 rfl ?_
        refine gf_Reader_22 rfl hk1 d_Reader_nextSign_53 ?_
        refine aw_aload_n (x := a0) d_Reader_nextSign_56 rfl ?_
        refine gf_Reader_35 rfl hk1 d_Reader_nextSign_57 ?_
        refine aw_icmp_ge (tgt := 75) d_Reader_nextSign_60 (by decide) (fun cc12 => ?_) (fun cc12 => ?_)
        · replace w := w.1 cc12
          refine aw_iconst (v := ((-1) : Int32)) d_Reader_nextSign_75 (by decide) ?_
          exact aw_ireturn .int rfl rfl d_Reader_nextSign_76 w
        · replace w := w.2 cc12
          refine aw_aload_n (x := a0) d_Reader_nextSign_63 rfl ?_
          refine gs_Reader_25 rfl hk1 hb7 d_Reader_nextSign_64 ?_
          refine aw_aload_n (x := a0) d_Reader_nextSign_67 rfl ?_
          refine gf_Reader_22 rfl hk1 d_Reader_nextSign_68 ?_
          refine aw_iaload j9 hk8 hj9a hj9b hj9c d_Reader_nextSign_71 ?_
          refine aw_goto (tgt := 76) d_Reader_nextSign_72 (by decide) ?_
          exact aw_ireturn .int rfl rfl d_Reader_nextSign_76 w
      · replace w := w.2 cc11
        refine aw_aload_n (x := a0) d_Reader_nextSign_39 rfl ?_
        refine aw_dup d_Reader_nextSign_40 rfl ?_
        refine gf_Reader_22 rfl hk1 d_Reader_nextSign_41 ?_
        refine aw_iconst (v := (1 : Int32)) d_Reader_nextSign_44 (by decide) ?_
        refine aw_iadd d_Reader_nextSign_45 ?_
        refine pf_Reader_22 rfl hk1 d_Reader_nextSign_46 ?_
        refine aw_goto (tgt := 0) d_Reader_nextSign_49 (by decide) ?_
        exact aw_weak (lv' := [some (.ref a0)]) ⟨rfl, trivial⟩ w
set_option maxRecDepth 20000 in
theorem r_Reader_isLetter_0 {E : zE} {K n : Nat → Nat} {I : Nat → Nat → Int32} {F : Nat → Nat → Option Nat} {J : Nat → Nat → Int64} {cb sb : Nat} {Q : zO → zH → Prop} {x0 : Int32}
    (w : ((x0 < (97 : Int32) → Q (.inl (some (.int (0 : Int32)))) (K, n, I, F, J)) ∧ (¬ x0 < (97 : Int32) → (((122 : Int32) < x0 → Q (.inl (some (.int (0 : Int32)))) (K, n, I, F, J)) ∧ (¬ (122 : Int32) < x0 → Q (.inl (some (.int (1 : Int32)))) (K, n, I, F, J)))))) :
    AW E m_Reader_isLetter (K, n, I, F, J) cb sb Q 0 [some (.int x0)] [] := by
  refine aw_iload_n (x := x0) d_Reader_isLetter_0 rfl ?_
  refine aw_bipush (v := (97 : Int32)) d_Reader_isLetter_1 (by decide) ?_
  refine aw_icmp_lt (tgt := 16) d_Reader_isLetter_3 (by decide) (fun cc1 => ?_) (fun cc1 => ?_)
  · replace w := w.1 cc1
    refine aw_iconst (v := (0 : Int32)) d_Reader_isLetter_16 (by decide) ?_
    exact aw_ireturn .boolean rfl rfl d_Reader_isLetter_17 w
  · replace w := w.2 cc1
    refine aw_iload_n (x := x0) d_Reader_isLetter_6 rfl ?_
    refine aw_bipush (v := (122 : Int32)) d_Reader_isLetter_7 (by decide) ?_
    refine aw_icmp_gt (tgt := 16) d_Reader_isLetter_9 (by decide) (fun cc2 => ?_) (fun cc2 => ?_)
    · replace w := w.1 cc2
      refine aw_iconst (v := (0 : Int32)) d_Reader_isLetter_16 (by decide) ?_
      exact aw_ireturn .boolean rfl rfl d_Reader_isLetter_17 w
    · replace w := w.2 cc2
      refine aw_iconst (v := (1 : Int32)) d_Reader_isLetter_12 (by decide) ?_
      refine aw_goto (tgt := 17) d_Reader_isLetter_13 (by decide) ?_
      exact aw_ireturn .boolean rfl rfl d_Reader_isLetter_17 w
set_option maxRecDepth 20000 in
theorem r_Reader_isTextSign_0 {E : zE} {K n : Nat → Nat} {I : Nat → Nat → Int32} {F : Nat → Nat → Option Nat} {J : Nat → Nat → Int64} {cb sb : Nat} {Q : zO → zH → Prop} {x0 : Int32}
    (w : ((x0 < (32 : Int32) → Q (.inl (some (.int (0 : Int32)))) (K, n, I, F, J)) ∧ (¬ x0 < (32 : Int32) → (((126 : Int32) < x0 → Q (.inl (some (.int (0 : Int32)))) (K, n, I, F, J)) ∧ (¬ (126 : Int32) < x0 → ((x0 = (39 : Int32) → Q (.inl (some (.int (0 : Int32)))) (K, n, I, F, J)) ∧ (¬ x0 = (39 : Int32) → Q (.inl (some (.int (1 : Int32)))) (K, n, I, F, J)))))))) :
    AW E m_Reader_isTextSign (K, n, I, F, J) cb sb Q 0 [some (.int x0)] [] := by
  refine aw_iload_n (x := x0) d_Reader_isTextSign_0 rfl ?_
  refine aw_bipush (v := (32 : Int32)) d_Reader_isTextSign_1 (by decide) ?_
  refine aw_icmp_lt (tgt := 22) d_Reader_isTextSign_3 (by decide) (fun cc1 => ?_) (fun cc1 => ?_)
  · replace w := w.1 cc1
    refine aw_iconst (v := (0 : Int32)) d_Reader_isTextSign_22 (by decide) ?_
    exact aw_ireturn .boolean rfl rfl d_Reader_isTextSign_23 w
  · replace w := w.2 cc1
    refine aw_iload_n (x := x0) d_Reader_isTextSign_6 rfl ?_
    refine aw_bipush (v := (126 : Int32)) d_Reader_isTextSign_7 (by decide) ?_
    refine aw_icmp_gt (tgt := 22) d_Reader_isTextSign_9 (by decide) (fun cc2 => ?_) (fun cc2 => ?_)
    · replace w := w.1 cc2
      refine aw_iconst (v := (0 : Int32)) d_Reader_isTextSign_22 (by decide) ?_
      exact aw_ireturn .boolean rfl rfl d_Reader_isTextSign_23 w
    · replace w := w.2 cc2
      refine aw_iload_n (x := x0) d_Reader_isTextSign_12 rfl ?_
      refine aw_bipush (v := (39 : Int32)) d_Reader_isTextSign_13 (by decide) ?_
      refine aw_icmp_eq (tgt := 22) d_Reader_isTextSign_15 (by decide) (fun cc3 => ?_) (fun cc3 => ?_)
      · replace w := w.1 cc3
        refine aw_iconst (v := (0 : Int32)) d_Reader_isTextSign_22 (by decide) ?_
        exact aw_ireturn .boolean rfl rfl d_Reader_isTextSign_23 w
      · replace w := w.2 cc3
        refine aw_iconst (v := (1 : Int32)) d_Reader_isTextSign_18 (by decide) ?_
        refine aw_goto (tgt := 23) d_Reader_isTextSign_19 (by decide) ?_
        exact aw_ireturn .boolean rfl rfl d_Reader_isTextSign_23 w
