-- ===== strings, the enum's number, the class of an array, calls outside a handler's stretch =====
section
variable {E : zE} {M : zM} {h : zH} {cb sb : Nat} {Q : zO → zH → Prop} {pc : Nat} {lv : List (Option Value)} {st : List Value} {a : Nat}
theorem aw_getsQ {idx : Nat} (i : Nat) (hL9 : tables_1[i]? = some (.fieldLink M.1.cls idx "jdk/internal/util/Preconditions" "SIOOBE_FORMATTER" "Ljava/util/function/BiFunction;")) (hd : decode M.2.1 pc = .ok (.getstatic idx, 3)) (k1 : AW E M h cb sb Q (pc + 3) lv (.null :: st)) (k2 : ∀ t : Nat, AW E M h cb sb Q (pc + 3) lv (.ref t :: st)) : AW E M h cb sb Q pc lv st := by
  intro p l e R s m args below meth c H locs cells slots ls ok hR hL hc hs hl
  obtain ⟨hx, hb, -, -, -, hown, hmn, -, -, -, hT, hK, hC, -⟩ := id ok
  rcases hC 15 with z | ⟨t, z⟩
  · obtain ⟨cf, kf, fi, f, a, cell, h1, h2, h3, h4, h5, h6, h7, h8⟩ := z
    exact W.gets hx hb hown (hT.t i hL9 rfl) h1 h2 h3 h4 (by rw [hR.1 a (Nat.lt_of_not_le h8)]; exact h5) (fun e => by rw [e] at h6; cases h6) h7 rfl hd (k1 p l e R s m args below meth c H locs cells slots ls ok hR hL hc hs hl)
  · obtain ⟨cf, kf, fi, f, a, cell, h1, h2, h3, h4, h5, h6, h7, h8⟩ := z
    exact W.gets hx hb hown (hT.t i hL9 rfl) h1 h2 h3 h4 (by rw [hR.1 a (Nat.lt_of_not_le h8)]; exact h5) (fun e => by rw [e] at h6; cases h6) h7 rfl hd (k2 t p l e R s m args below meth c H locs cells slots ls ok hR hL hc hs hl)
theorem zs_shr : ∀ si : Nat, si < 21 → nI (zslen.getD si 0) >>> ((0 : Int32) &&& 31) = nI (zslen.getD si 0) := by decide +kernel
theorem zs_ch : ∀ si : Nat, si < 21 → ∀ k : Nat, k < zslen.getD si 0 → ((((zsbyt.getD si []).getD k 0) &&& 255).toUInt32 % 65536).toInt32 = (zsbyt.getD si []).getD k 0 := by decide +kernel
theorem zs_nar : ∀ si : Nat, si < 21 → ∀ k : Nat, k < zslen.getD si 0 → narrow .char (.int ((zsbyt.getD si []).getD k 0)) = .int ((zsbyt.getD si []).getD k 0) := by decide +kernel
theorem zs_len : ∀ si : Nat, si < 21 → zslen.getD si 0 < 100 := by decide +kernel
/-- String.length() of a constant -/
theorem aw_strlen {si : Nat} (hsi : si < 21) (hL9 : tables_1[265]? = some (.methodLink M.1.cls 178 m_String_length.1)) (hMh : M.2.2.2.2.2.2 = []) (hf : zFit M m_String_length 0 st.length) (hd : decode M.2.1 pc = .ok (.invokevirtual 178, 3)) (kk : AW E M h cb sb Q (pc + 3) lv (.int (nI (zslen.getD si 0)) :: st)) : AW E M h cb sb Q pc lv (.ref (E.2.1 (100 + si)) :: st) := by
  refine aw_room (cb' := 0 + cb) (sb' := 0 + sb) (by omega) (by omega) (aw_callVC (M' := m_String_length) (lv0 := [some (.ref (E.2.1 (100 + si)))]) (As := []) (rest := st) 265 266 268 (fun U q => ((q 3).1 si hsi).1) hL9 tb_266 tb_268 (fun U hU => hU.t 267 tb_267 rfl) rfl hMh 0 _ rfl rfl hf (Nat.le_of_ble_eq_true rfl) ⟨rfl, trivial⟩ rfl hd ?_)
  refine aw_aload_n (x := E.2.1 (100 + si)) d_String_length_0 rfl ?_
  refine aw_getC (ref := "") 1169 (fun U q => ((q 3).1 si hsi).2.2.1) tb_1169 d_String_length_1 ?_
  refine aw_alenC (fun U q => ((q 3).1 si hsi).2.2.2) d_String_length_4 ?_
  refine aw_aload_n (x := E.2.1 (100 + si)) d_String_length_5 rfl ?_
  refine aw_room (cb' := 0 + 0) (sb' := 0 + 0) (by omega) (by omega) (aw_callVC (M' := m_String_coder) (lv0 := [some (.ref (E.2.1 (100 + si)))]) (As := []) (rest := [.int (nI (zslen.getD si 0))]) 269 270 272 (fun U q => ((q 3).1 si hsi).1) tb_269 tb_270 tb_272 (fun U hU => hU.t 271 tb_271 rfl) rfl rfl 0 1 rfl rfl ⟨by decide, by decide, by decide +kernel, by decide +kernel, by decide, by decide⟩ (Nat.le_of_ble_eq_true rfl) ⟨rfl, trivial⟩ rfl d_String_length_6 ?_)
  refine aw_getsZ 5 273 (fun _ q => q) tb_273 d_String_coder_0 ?_
  refine aw_if_eq (tgt := 13) d_String_coder_3 (by decide) (fun q => absurd q (by decide)) (fun _ => ?_)
  refine aw_aload_n (x := E.2.1 (100 + si)) d_String_coder_6 rfl ?_
  refine aw_getC (ref := "") 1170 (fun U q => ((q 3).1 si hsi).2.1) tb_1170 d_String_coder_7 ?_
  refine aw_goto (tgt := 14) d_String_coder_10 (by decide) ?_
  refine aw_ireturn .byte rfl rfl d_String_coder_14 ?_
  show AW E m_String_length h 0 0 _ (6 + 3) _ [.int 0, .int (nI (zslen.getD si 0))]
  refine aw_ishr d_String_length_9 ?_
  rw [zs_shr si hsi]
  exact aw_ireturn .int rfl rfl d_String_length_10 kk
theorem aw_preck {k len : Nat} (hk : k < len) (hl : len < 1000000) {r : List (Option Value)} (hr : r = [none] ∨ True) (kk : Q (.inl (some (.int (nI k)))) h) : AW E m_Preconditions_checkIndex h cb sb Q 0 [some (.int (nI k)), some (.int (nI len)), none] [] := by
  refine aw_iload_n (x := nI k) d_Preconditions_checkIndex_0 rfl ?_
  refine aw_if_lt (tgt := 9) d_Preconditions_checkIndex_1 (by decide) (fun q => absurd q (nI_pos (by omega))) (fun _ => ?_)
  refine aw_iload_n (x := nI k) d_Preconditions_checkIndex_4 rfl ?_
  refine aw_iload_n (x := nI len) d_Preconditions_checkIndex_5 rfl ?_
  refine aw_icmp_lt (tgt := 16) d_Preconditions_checkIndex_6 (by decide) (fun _ => ?_) (fun q => absurd (nI_lt hk (by omega)) q)
  refine aw_iload_n (x := nI k) d_Preconditions_checkIndex_16 rfl ?_
  exact aw_ireturn .int rfl rfl d_Preconditions_checkIndex_17 kk
/-- String.charAt(k) of a constant -/
theorem aw_strchr {si k : Nat} {x : Int32} (hsi : si < 21) (hx0 : x = nI k) (hk : k < zslen.getD si 0) (hL9 : tables_1[275]? = some (.methodLink M.1.cls 183 m_String_charAt.1)) (hMh : M.2.2.2.2.2.2 = []) (hf : zFit M m_String_charAt 1 st.length) (hd : decode M.2.1 pc = .ok (.invokevirtual 183, 3)) (kk : AW E M h cb sb Q (pc + 3) lv (.int ((zsbyt.getD si []).getD k 0) :: st)) : AW E M h cb sb Q pc lv (.int x :: .ref (E.2.1 (100 + si)) :: st) := by
  subst hx0
  have hlt := zs_len si hsi
  refine aw_room (cb' := 0 + cb) (sb' := 0 + sb) (by omega) (by omega) (aw_callVC (M' := m_String_charAt) (lv0 := [some (.ref (E.2.1 (100 + si))), some (.int (nI k))]) (As := [.int (nI k)]) (rest := st) 275 276 278 (fun U q => ((q 3).1 si hsi).1) hL9 tb_276 tb_278 (fun U hU => hU.t 277 tb_277 rfl) rfl hMh 1 _ rfl rfl hf (Nat.le_of_ble_eq_true rfl) ⟨rfl, rfl, trivial⟩ rfl hd ?_)
  refine aw_aload_n (x := E.2.1 (100 + si)) d_String_charAt_0 rfl ?_
  refine aw_room (cb' := 0 + 0) (sb' := 0 + 0) (by omega) (by omega) (aw_callVC (M' := m_String_isLatin1) (lv0 := [some (.ref (E.2.1 (100 + si)))]) (As := []) (rest := []) 279 280 282 (fun U q => ((q 3).1 si hsi).1) tb_279 tb_280 tb_282 (fun U hU => hU.t 281 tb_281 rfl) rfl rfl 0 0 rfl rfl ⟨by decide, by decide, by decide +kernel, by decide +kernel, by decide, by decide⟩ (Nat.le_of_ble_eq_true rfl) ⟨rfl, trivial⟩ rfl d_String_charAt_1 ?_)
  refine aw_getsZ 5 273 (fun _ q => q) tb_273 d_String_isLatin1_0 ?_
  refine aw_if_eq (tgt := 17) d_String_isLatin1_3 (by decide) (fun q => absurd q (by decide)) (fun _ => ?_)
  refine aw_aload_n (x := E.2.1 (100 + si)) d_String_isLatin1_6 rfl ?_
  refine aw_getC (ref := "") 1170 (fun U q => ((q 3).1 si hsi).2.1) tb_1170 d_String_isLatin1_7 ?_
  refine aw_if_ne (tgt := 17) d_String_isLatin1_10 (by decide) (fun q => absurd rfl q) (fun _ => ?_)
  refine aw_iconst (v := (1 : Int32)) d_String_isLatin1_13 (by decide) ?_
  refine aw_goto (tgt := 18) d_String_isLatin1_14 (by decide) ?_
  refine aw_ireturn .boolean rfl rfl d_String_isLatin1_18 ?_
  show AW E m_String_charAt h 0 0 _ (1 + 3) _ [.int 1]
  refine aw_if_eq (tgt := 16) d_String_charAt_4 (by decide) (fun q => absurd q (by decide)) (fun _ => ?_)
  refine aw_aload_n (x := E.2.1 (100 + si)) d_String_charAt_7 rfl ?_
  refine aw_getC (ref := "") 1169 (fun U q => ((q 3).1 si hsi).2.2.1) tb_1169 d_String_charAt_8 ?_
  refine aw_iload_n (x := nI k) d_String_charAt_11 rfl ?_
  refine aw_room (cb' := 0 + 0) (sb' := 0 + 0) (by omega) (by omega) (aw_callS (M' := m_StringLatin1_charAt) (lv0 := [some (.ref (E.2.1 (130 + si))), some (.int (nI k))]) (As := [.ref (E.2.1 (130 + si)), .int (nI k)]) (rest := []) 283 284 285 12 tb_283 tb_284 tb_285 tb_12 rfl rfl 2 0 rfl rfl ⟨by decide, by decide, by decide +kernel, by decide +kernel, by decide, by decide⟩ (Nat.le_of_ble_eq_true rfl) ⟨rfl, rfl, trivial⟩ rfl d_String_charAt_12 ?_)
  refine aw_iload_n (x := nI k) d_StringLatin1_charAt_0 rfl ?_
  refine aw_aload_n (x := E.2.1 (130 + si)) d_StringLatin1_charAt_1 rfl ?_
  refine aw_alenC (fun U q => ((q 3).1 si hsi).2.2.2) d_StringLatin1_charAt_2 ?_
  refine aw_room (cb' := 0 + 0) (sb' := 0 + 0) (by omega) (by omega) (aw_callS (M' := m_String_checkIndex) (lv0 := [some (.int (nI k)), some (.int (nI (zslen.getD si 0)))]) (As := [.int (nI k), .int (nI (zslen.getD si 0))]) (rest := []) 286 287 288 11 tb_286 tb_287 tb_288 tb_11 rfl rfl 2 0 rfl rfl ⟨by decide, by decide, by decide +kernel, by decide +kernel, by decide, by decide⟩ (Nat.le_of_ble_eq_true rfl) ⟨rfl, rfl, trivial⟩ rfl d_StringLatin1_charAt_3 ?_)
  have tail : AW E m_String_checkIndex h 0 0 (zAft E m_StringLatin1_charAt 0 0 (zAft E m_String_charAt 0 0 (zAft E M cb sb Q pc lv st) 12 [some (.ref (E.2.1 (100 + si))), some (.int (nI k))] []) 3 [some (.ref (E.2.1 (130 + si))), some (.int (nI k))] []) 8 [some (.int (nI k)), some (.int (nI (zslen.getD si 0)))] [.int (nI k)] := by
    refine aw_pop d_String_checkIndex_8 rfl ?_
    refine aw_return rfl d_String_checkIndex_9 ?_
    show AW E m_StringLatin1_charAt h 0 0 _ (3 + 3) _ []
    refine aw_aload_n (x := E.2.1 (130 + si)) d_StringLatin1_charAt_6 rfl ?_
    refine aw_iload_n (x := nI k) d_StringLatin1_charAt_7 rfl ?_
    refine aw_baldC (f := fun j => .int ((zsbyt.getD si []).getD j 0)) k (fun U q => ((q 3).1 si hsi).2.2.2) rfl hk (by omega) d_StringLatin1_charAt_8 ?_
    refine aw_sipush (v := (255 : Int32)) d_StringLatin1_charAt_9 (by decide) ?_
    refine aw_iand d_StringLatin1_charAt_12 ?_
    refine aw_i2c (v := (zsbyt.getD si []).getD k 0) d_StringLatin1_charAt_13 (zs_ch si hsi k hk) ?_
    refine aw_ireturn .char rfl (zs_nar si hsi k hk) d_StringLatin1_charAt_14 ?_
    show AW E m_String_charAt h 0 0 _ (12 + 3) _ [.int ((zsbyt.getD si []).getD k 0)]
    exact aw_ireturn .char rfl (zs_nar si hsi k hk) d_String_charAt_15 kk
  refine aw_iload_n (x := nI k) d_String_checkIndex_0 rfl ?_
  refine aw_iload_n (x := nI (zslen.getD si 0)) d_String_checkIndex_1 rfl ?_
  refine aw_getsQ 289 tb_289 d_String_checkIndex_2 ?_ (fun t => ?_)
  · refine aw_room (cb' := 0 + 0) (sb' := 0 + 0) (by omega) (by omega) (aw_callS (M' := m_Preconditions_checkIndex) (lv0 := [some (.int (nI k)), some (.int (nI (zslen.getD si 0))), none]) (As := [.int (nI k), .int (nI (zslen.getD si 0)), .null]) (rest := []) 291 292 293 13 tb_291 tb_292 tb_293 tb_13 rfl rfl 3 0 rfl rfl ⟨by decide, by decide, by decide +kernel, by decide +kernel, by decide, by decide⟩ (Nat.le_of_ble_eq_true rfl) ⟨rfl, rfl, trivial⟩ rfl d_String_checkIndex_5 (aw_preck (r := []) hk (by omega) (Or.inr trivial) tail))
  · refine aw_room (cb' := 0 + 0) (sb' := 0 + 0) (by omega) (by omega) (aw_callS (M' := m_Preconditions_checkIndex) (lv0 := [some (.int (nI k)), some (.int (nI (zslen.getD si 0))), none]) (As := [.int (nI k), .int (nI (zslen.getD si 0)), .ref t]) (rest := []) 291 292 293 13 tb_291 tb_292 tb_293 tb_13 rfl rfl 3 0 rfl rfl ⟨by decide, by decide, by decide +kernel, by decide +kernel, by decide, by decide⟩ (Nat.le_of_ble_eq_true rfl) ⟨rfl, rfl, trivial⟩ rfl d_String_checkIndex_5 (aw_preck (r := []) hk (by omega) (Or.inr trivial) tail))
/-- a class constant: the array class's own object -/
theorem aw_ldcM {idx : Nat} (i : Nat) (hL9 : tables_1[i]? = some (.classLink M.1.cls idx "[Ljava/lang/Object;")) (hd : decode M.2.1 pc = .ok (.ldc idx, 2)) (kk : AW E M h cb sb Q (pc + 2) lv (.ref (E.2.1 13) :: st)) : AW E M h cb sb Q pc lv st := by
  intro p l e R s m args below meth c H locs cells slots ls ok hR hL hc hs hl
  obtain ⟨hx, hb, -, -, -, hown, hmn, -, -, -, hT, hK, hC, -⟩ := id ok
  exact va_ldcM hx hb hown (hT.t i hL9 rfl) (hC 11) hd (kk p l e R s m args below meth c H locs cells slots ls ok hR hL hc hs hl)
end
section
variable {E : zE} {M : zM} {K n : Nat → Nat} {I : Nat → Nat → Int32} {F : Nat → Nat → Option Nat} {J : Nat → Nat → Int64} {cb sb : Nat} {Q : zO → zH → Prop} {pc : Nat} {lv : List (Option Value)} {st : List Value} {a : Nat}
theorem aw_getClass {idx : Nat} (i : Nat) (hL9 : tables_1[i]? = some (.methodLink M.1.cls idx ⟨"java/lang/Object", "getClass", "()Ljava/lang/Class;"⟩)) (hk : K a = 23) (hfr : 1 ≤ M.2.2.2.2.1) (hlo : 2 * st.length + 14 ≤ M.2.2.2.2.2.1) (hd : decode M.2.1 pc = .ok (.invokevirtual idx, 3)) (kk : AW E M (K, n, I, F, J) cb sb Q (pc + 3) lv (.ref (E.2.1 13) :: st)) : AW E M (K, n, I, F, J) cb sb Q pc lv (.ref a :: st) := by
  intro p l e R s m args below meth c H locs cells slots ls ok hR hL hc hs hl
  obtain ⟨hx, hb, hml, -, -, hown, hmn, hf1, hf2, -, hT, hK, hC, -⟩ := id ok
  have hP := hR.at (a := a) (by show K a ≠ 0; omega)
  rw [zcell_r (h := (K, n, I, F, J)) hk] at hP
  have hz := zcats st
  have hr : ∃ cell : Cell, H[a]? = some cell ∧ cell.vm.isStatics = false ∧ s.vm.findClass "[Ljava/lang/Object;" = some cell.cls := by
    exact ⟨_, hP 0 _ rfl, rfl, va_nmO (hK.2 3 _ rfl).2 rfl⟩
  exact va_getC hx hb (by rw [hml]; exact hl.1.symm) hown (hT.t i hL9 rfl) (hT.t 1155 tb_1155 rfl) (hT.t 1154 tb_1154 rfl) (hT.t 486 tb_486 rfl) (hT.t 501 tb_501 rfl) (hC 11) hr (by omega) (by omega) hd (kk p l e R s m args below meth c H locs cells slots ls ok hR hL hc hs hl)
end
section
variable {E : zE} {h : zH} {cb sb : Nat} {Q : zO → zH → Prop} {pc : Nat} {lv : List (Option Value)} {st : List Value} {a : Nat}
/-- Word.ordinal(), a method of Enum -/
theorem aw_ord {j : Nat} (hj : j < 7) (kk : AW E m_Reader_readSaid h cb sb Q 7 lv (.int (nI j) :: st)) (hf : 2 * st.length + 12 ≤ 142) : AW E m_Reader_readSaid h cb sb Q 4 lv (.ref (E.2.1 (20 + j)) :: st) := by
  intro p l e R s m args below meth c H locs cells slots ls ok hR hL hc hs hl T hT X
  subst hT
  obtain ⟨hx, hb, hml, -, -, hown, -, hfr, hlo, -, hS⟩ := id ok
  obtain ⟨cellB, hcell0, hobj, hcls, hnA⟩ := ((hS.2.2.1 10) j hj).1
  have hcell : T.heap[E.2.1 (20 + j)]? = some cellB := by rw [hR.1 _ (Nat.lt_of_not_le hnA)]; exact hcell0
  have hcode := hS.1.t 390 tb_390 rfl (a := args)
  obtain ⟨r0, r, hn, hrm, hstR, hsigR⟩ := va_Decl.of (hS.1.t 389 tb_389 rfl (a := args)) hcode
  obtain ⟨cn, ck, r1, hcn, hck, hni, hff, hn1⟩ := Cond.sameMethod_found (hS.1.t 386 tb_386 rfl (a := args))
  cases hn.symm.trans hn1
  obtain ⟨mk, methM, hnamed, hmethM, -, habM⟩ := Cond.instanceMethod_spec (hS.1.t 389 tb_389 rfl (a := args))
  obtain ⟨c2, r2, m2, q1, q2, q3, q4, kP, hkP, hkPi⟩ := Cond.selects_spec (hS.1.t 388 tb_388 rfl (a := args))
  cases hcls.symm.trans q1
  cases hff.symm.trans q2
  cases hnamed.symm.trans q3
  have hselP : selectMethod e.platform s.vm cellB.cls r0 = .method mk := by rw [Launch.admits_selectMethod X.admits]; exact q4
  have hcd : zCd m_Enum_ordinal s mk := zCd.of hnamed hcode rfl
  have hz := zcats st
  obtain ⟨vm₁, X₁, hstep₁⟩ := X.invokevirtualUp hx hown (hS.1.t 385 tb_385 rfl) (hS.1.t 386 tb_386 rfl) ⟨by decide, by decide⟩ hn hrm hstR (a := E.2.1 (20 + j)) (cell := cellB) hcell
    (fun z h => by rw [h] at hobj; cases hobj) hselP hmethM habM hkP hkPi (g := F0 m 4 ls (.ref (E.2.1 (20 + j)) :: st)) rfl (argsL := []) (rest := st) (by
      have h9 : parseMethodDescriptor "()I" = some r.sig := hsigR
      have : (parseMethodDescriptor "()I").map (fun d => d.parameters.length) = some 0 := by decide +kernel
      rw [h9] at this
      exact (Option.some.inj this).symm) rfl (by rw [hb]; exact d_Reader_readSaid_4)
  have hfr' : 9 ≤ R.frames := hfr
  have hlo' : 142 ≤ R.locals := hlo
  refine z_back (T := T.setVm vm₁) (h := h) ok rfl hL (c1 := 0) (s1 := 0) (c2 := cb) (s2 := sb) (by omega) (by omega) hl (z_call (M := m_Enum_ordinal) (lv0 := [some (.ref (E.2.1 (20 + j)))]) (Q := zAft E m_Reader_readSaid cb sb Q 4 lv st) X₁ hx hS hR (g := F0 m 4 ls st) rfl (by rw [hml]; exact hl.1) (by rw [hb]; exact d_Reader_readSaid_4) [.ref (E.2.1 (20 + j))] hcd (by decide +kernel) (Nat.le_of_ble_eq_true rfl) ⟨rfl, trivial⟩ (by show 0 + 1 ≤ _; omega) (by show 2 * 0 + (st.map fun v => v.category).sum + (1 + 11) + 0 ≤ _; omega) (by omega) (by omega) ?_) (fun target hq => hstep₁ target fun acts => by rw [doInvoke_state]; exact hq) (fun r h' hq => hq)
  refine aw_aload_n (x := E.2.1 (20 + j)) d_Enum_ordinal_0 rfl ?_
  refine aw_getC (ref := "") 1171 (fun U q => ((q 10) j hj).2.1) tb_1171 d_Enum_ordinal_1 ?_
  exact aw_ireturn .int rfl rfl d_Enum_ordinal_4 kk
end
section
variable {p : Program} {l : Launch} {e : Env} {R : Room} {s : State} {m : MethodId} {args : Array Value} {below : List Frame} {meth : Method} {c : Code} {T : State} {locs : List Loc} {cells slots : Nat}
/-- behind a call that no row of the table covers -/
theorem z_backO {E : zE} {M : zM} {h : zH} {c1 s1 c2 s2 : Nat} {Q Q' : zO → zH → Prop} {pc : Nat} {lv : List (Option Value)} {rest : List Value} {ls : Array Slot} {mk : MethodId} {a : Array Value} {T0 : State}
    (ok : zOk E M p l R s m meth c) (hMh : ∀ q ∈ M.2.2.2.2.2.2, pc < q.1) (hL : ∀ q ∈ locs, E.2.2.size ≤ q.base) (hc : cells + (c1 + c2) ≤ R.cells) (hs : slots + (s1 + s2) ≤ R.slots) (hl : zL ls M.2.2.1 lv)
    (hcall : ∃ (T' : State) (L : List Loc) (r : zO) (h' : zH), Stand p l e R s m args below meth c T' (locs ++ L) (cells + c1) (slots + s1) ∧ (∀ q ∈ L, E.2.2.size ≤ q.base) ∧ zRep E h' T'.heap ∧ Q' r h' ∧
      (match r with
        | .inl v => Steps p.tables e below (doInvoke e (T.setTop (F0 m pc ls rest)) [] mk a).1 (T'.setTop { F0 m pc ls rest with pc := (F0 m pc ls rest).pc + 3, stack := v.toList ++ (F0 m pc ls rest).stack })
        | .inr Y => ∃ (q : Nat) (ce : Cell), T'.heap[q]? = some ce ∧ ce.vm = .none ∧ s.vm.findClass Y = some ce.cls ∧ Steps p.tables e below (doInvoke e (T.setTop (F0 m pc ls rest)) [] mk a).1 ((T'.setTop (F0 m pc ls rest)).pushFrame (.throwing q))))
    (hstep : ∀ target, Steps p.tables e below (doInvoke e (T.setTop (F0 m pc ls rest)) [] mk a).1 target → Steps p.tables e below T0 target)
    (hQ : ∀ r h', Q' r h' → match r with | .inl v => AW E M h' c2 s2 Q (pc + 3) lv (v.toList ++ rest) | .inr Y => Q (.inr Y) h') : ∃ t, Steps p.tables e below T0 t ∧ zEnd E R s below Q t := by
  obtain ⟨T', L, r, h', X', hL', hR', hq, hst⟩ := hcall
  have hLL : ∀ q ∈ locs ++ L, E.2.2.size ≤ q.base := fun q hq9 => (List.mem_append.mp hq9).elim (hL q) (hL' q)
  cases r with
  | inl v =>
    have k := hQ _ _ hq
    obtain ⟨t, a1, b1⟩ := k p l e R s m args below meth c T'.heap _ _ _ ls ok hR' hLL (by omega) (by omega) hl T' rfl X'
    exact ⟨t, hstep t (hst.trans a1), b1⟩
  | inr Y =>
    obtain ⟨q, ce, hce, hcv, hcl, hst⟩ := hst
    have k := hQ _ _ hq
    have X2 := stand_widen X' (k := R.cells) (n := R.slots) (by omega) (by omega)
    obtain ⟨-, -, -, -, hlocks, -, -, -, -, hh, -⟩ := ok
    obtain ⟨b1, b2, b3, b4, b5⟩ := X2.leaveThrown q (g := F0 m pc ls rest) rfl rfl rfl (fun x hx => by
      have hmem : (x.startPc, x.endPc, x.handlerPc, x.catchType) ∈ M.2.2.2.2.2.2 := by
        rw [← hh]
        exact List.mem_map.mpr ⟨x, hx, rfl⟩
      have hlt := hMh _ hmem
      unfold covers
      show (decide (x.startPc ≤ pc) && decide (pc < x.endPc)) = false
      have : ¬ x.startPc ≤ pc := by
        have h9 : pc < x.startPc := hlt
        omega
      simp [this]) hlocks
    exact ⟨_, hstep _ (hst.trans b1), .threw q, _, .inr Y, h', b2, b3, b4, b5, hLL, hR', ⟨q, ce, rfl, hce, hcv, hcl⟩, k⟩
end
section
variable {E : zE} {M M' : zM} {h : zH} {c1 s1 c2 s2 : Nat} {Q : zO → zH → Prop} {pc idx : Nat} {lv lv0 : List (Option Value)} {st As rest : List Value}
theorem aw_callIO {b : Nat} (iL iS iC : Nat) (hL9 : tables_1[iL]? = some (.methodLink M.1.cls idx M'.1)) (hS9 : tables_1[iS]? = some (.instanceMethod M'.1)) (hC9 : tables_1[iC]? = some (.code M'.1 M'.2.1 M'.2.2.1 none)) (hr9 : M'.2.2.2.1 = none) (hnm : M'.1.name = "<init>") (hh : M'.2.2.2.2.2.2 = []) (hMh : ∀ q ∈ M.2.2.2.2.2.2, pc < q.1) (na nr : Nat) (hna : As.length = na) (hnr : rest.length = nr) (hf : zFit M M' na nr) (hlen9 : (lg_sl (.ref b :: As)).length ≤ M'.2.2.1) (hlv : zle lv0 (zar (.ref b :: As))) (hst : st = As.reverse ++ .ref b :: rest) (hd : decode M.2.1 pc = .ok (.invokespecial idx, 3))
    (kk : AW E M' h c1 s1 (zAft E M c2 s2 Q pc lv rest) 0 lv0 []) : AW E M h (c1 + c2) (s1 + s2) Q pc lv st := by
  subst hst
  intro p l e R s m args below meth c H locs cells slots ls ok hR hL hc hs hl T hT X
  subst hT
  obtain ⟨hx, hb, hml, -, -, hown, -, hfr, hlo, -, hS⟩ := id ok
  subst hna; subst hnr
  obtain ⟨hy1, hy2, hna, hpl, hf1, hf2⟩ := hf
  have hcode := hS.1.t iC hC9 rfl (a := args)
  have hlen : ∀ sig, parseMethodDescriptor M'.1.desc = some sig → As.length = sig.parameters.length := fun sig h9 => by rw [h9] at hna; exact (Option.some.inj hna).symm
  have hpl9 : e.platform.magicAccessors = ({} : Platform).magicAccessors := by rw [X.admits.platform]
  obtain ⟨mk, methM, cM, kP, vm₁, hnamed, hmethM, hcodeM, -, hlocalsM, -, hkP, -, hW₁, hstep₁⟩ := Steps.initColdArgs (e := e) X.here hx X.warmed hpl9 hown hnm ⟨hy1, hy2⟩ (hS.1.t iL hL9 rfl) (hS.1.t iS hS9 rfl) hcode (f := F0 m pc ls (As.reverse ++ .ref b :: rest)) rfl hlen rfl (by rw [hb]; exact hd)
  have X₁ := X.noted hW₁
  have hcd : zCd M' s mk := zCd.of hnamed (a := args) (by rw [hr9]; exact hcode) hh
  have hz := zcats rest
  refine z_backO (T := T.setVm vm₁) (h := h) ok hMh hL (c1 := c1) (s1 := s1) hc hs hl (z_call X₁ hx hS hR (g := F0 m pc ls rest) rfl (by rw [hml]; exact hl.1) (by rw [hb]; exact hd) (.ref b :: As) hcd hpl hlen9 hlv (by omega) (by show 2 * 0 + (rest.map fun v => v.category).sum + _ + _ ≤ _; omega) (by omega) (by omega) kk) (fun target hq => hstep₁ target fun acts => by rw [doInvoke_state]; exact hq) (fun r h' hq => hq)
end
