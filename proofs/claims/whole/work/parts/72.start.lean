-- ===== the constants' numbers at the start =====
theorem zgd_any {s : State} {w : Cond} {A : Array Value} (hg : zgd w = true) (h : w.before A s = true) (a : Array Value) : w.before a s = true := by
  by_cases hq : goodWord w = true
  · exact word_at (State.WarmedH.refl s) (good_of_word hq) h
  · cases w with
    | methodLinkNest _ _ _ _ => exact va_any rfl h
    | fieldLinkNest _ _ _ _ _ _ => exact va_any rfl h
    | castable _ _ => exact va_any rfl h
    | declares _ => exact va_any rfl h
    | arrayOver t =>
      cases t with
      | object C => exact va_AO.use (va_AO.of h)
      | _ => exact absurd hg hq
    | _ => exact absurd hg hq
theorem z_prim {s : State} {A : Array Value} {ty : FieldType} (hty : ∀ C, ty ≠ .object C) (h : (Cond.arrayClass ty).before A s = true) : ∃ cA, ArrOfT s cA ty ∧ va_RA s cA ty := by
  obtain ⟨c, k, comp, h1, h2, h3⟩ := Cond.arrayClass_spec h
  refine ⟨c, fun n z => ⟨fun k h => (by cases h), k, h2, comp, h3⟩, ?_⟩
  cases ty with
  | object C => exact absurd rfl (hty C)
  | _ => exact h1
theorem z_objA {s : State} {A : Array Value} {C : String} (h : (Cond.arrayOver (.object C)).before A s = true) : ∃ cA, ArrOfT s cA (.object C) ∧ va_RA s cA (.object C) := by
  obtain ⟨comp, c, k, h1, h2, h3, h4, h5⟩ := Cond.arrayOver_spec h
  exact ⟨c, fun n z => ⟨fun k h => (by cases h), k, h3, comp, h4⟩, k, comp, h3, h4, h1, h5⟩
theorem z_int (x : Int32) : Int32.ofNat x.toBitVec.toNat = x := by
  cases x with
  | ofUInt32 u => cases u with
    | ofBitVec v => exact congrArg (fun q => Int32.ofUInt32 (UInt32.ofBitVec q)) (BitVec.ofNat_toNat 32 v |>.trans (BitVec.setWidth_eq v))
set_option maxRecDepth 4000 in
theorem start_E {s : State} {b L : Nat} {xs : Nat → Int32} {l : Launch} (hfl : l.stackTraces = false) (hts : ∀ w ∈ lw_tbl, w.before #[Value.ref b] s = true) (hX : va_X b L xs s s.heap) (hbl : b < s.heap.size) (hgv : (Jvm.Cond.and given_1 narrow_1).before #[Value.ref b] s = true) : ∃ E : zE, E.2.2 = s.heap ∧ E.2.1 14 = b ∧ E.2.1 15 = L ∧ zS E l s := by
  have hf : ∀ c ∈ zfl, c.before #[Value.ref b] s = true := flat_of_before _ hgv
  have ht : ∀ {i : Nat} {w : Cond}, tables_1[i]? = some w → w.before #[Value.ref b] s = true := fun {i w} h => hts w (List.mem_append_right _ (List.mem_of_getElem? h))
  have hti : ∀ w ∈ tables_1, w.before #[Value.ref b] s = true := fun w hw => hts w (List.mem_append_right _ hw)
  have hA : ∀ a : Nat, a < s.heap.size → ¬ (fun q : Nat => s.heap.size ≤ q) a := fun a h => Nat.not_le.mpr h
  -- the classes
  obtain ⟨c0, i0, k0⟩ := u_known (C := "SortUtility$Key") (T := zt_Key) (N := 3) (n := 3) hti zin_Key (ht tb_436)
  obtain ⟨c1, i1, k1⟩ := u_known (C := "SortUtility$Part") (T := zt_Part) (N := 3) (n := 3) hti zin_Part (ht tb_417)
  obtain ⟨c2, i2, k2⟩ := u_known (C := "SortUtility$Reader") (T := zt_Reader) (N := 5) (n := 5) hti zin_Reader (ht tb_213)
  obtain ⟨c3, i3, k3⟩ := u_known (C := "SortUtility$Row") (T := zt_Row) (N := 5) (n := 5) hti zin_Row (ht tb_129)
  obtain ⟨c4, i4, k4⟩ := u_known (C := "SortUtility$Rows") (T := zt_Rows) (N := 2) (n := 2) hti zin_Rows (ht tb_111)
  obtain ⟨c5, i5, k5⟩ := u_known (C := "SortUtility$Statements") (T := zt_Statements) (N := 8) (n := 8) hti zin_Statements (ht tb_38)
  obtain ⟨c6, i6, k6⟩ := u_known (C := "SortUtility$Test") (T := zt_Test) (N := 4) (n := 4) hti zin_Test (ht tb_536)
  obtain ⟨c7, i7, k7⟩ := u_known (C := "SortUtility") (T := zt_SortUtility) (N := 15) (n := 15) hti zin_SortUtility (ht tb_30)
  obtain ⟨c8, i8, k8⟩ := u_known (C := "SortUtilityModel") (T := zt_Model) (N := 42) (n := 42) hti zin_Model (ht tb_825)
  obtain ⟨c9, i9, k9⟩ := u_known (C := "java/util/ArrayList") (T := zt_ArrayList) (N := 3) (n := 3) hti zin_ArrayList (ht tb_44)
  obtain ⟨G, hG⟩ : ∃ G : va_G, ∀ (c : Nat) (q : vw_C), zcl[c]? = some q → u_Kn s q.1 q.2.1 q.2.2 (G.1 c) (G.2 c) := by
    refine ⟨(fun k => [c0, c1, c2, c3, c4, c5, c6, c7, c8, c9].getD k 0, fun k => [i0, i1, i2, i3, i4, i5, i6, i7, i8, i9].getD k (fun _ => 0)), ?_⟩
    intro k q hq
    match k, hq with
    | 0, hq => cases hq; exact k0
    | 1, hq => cases hq; exact k1
    | 2, hq => cases hq; exact k2
    | 3, hq => cases hq; exact k3
    | 4, hq => cases hq; exact k4
    | 5, hq => cases hq; exact k5
    | 6, hq => cases hq; exact k6
    | 7, hq => cases hq; exact k7
    | 8, hq => cases hq; exact k8
    | 9, hq => cases hq; exact k9
    | k + 10, hq => simp [zcl] at hq
  obtain ⟨tB, hB⟩ := z_prim (fun C => by intro h; cases h) (ht tb_155)
  obtain ⟨tI, hI⟩ := z_prim (fun C => by intro h; cases h) (ht tb_69)
  obtain ⟨tJ, hJ⟩ := z_prim (fun C => by intro h; cases h) (ht tb_202)
  obtain ⟨tO, hO⟩ := z_objA (ht tb_506)
  -- the strings
  obtain ⟨adK, adV, hS, hSe⟩ := vk_Sof (s := s) (args := #[Value.ref b]) (N := 21) (tm := zstm) (len := zslen) (byt := zsbyt) (A := fun q => s.heap.size ≤ q) zf_len (fun i hi => hf _ (zf_ex i hi)) (fun i hi => hf _ (zf_co i hi)) (fun i hi => hf _ (zf_ar i hi)) (fun i hi => hf _ (zf_le i hi)) (fun i hi j hj => hf _ (zf_el i hi j hj)) (fun i j hi hj hij => (zf_ne i hi j hj hij).imp (fun h => hf _ h) (fun h => hf _ h)) hA
  -- the words
  have hw : ∀ j : Nat, ∃ a : Nat, j < 7 → (zwt j).eval #[Value.ref b] s none [] s = some (.ref a) := fun j => by
    by_cases hj : j < 7
    · obtain ⟨a, c, cA, kA, q1, -⟩ := Cond.exactly_spec (args := #[Value.ref b]) (first := s) (o := none) (s := s) (idx := []) (t := zwt j) (cls := "SortUtility$Word") (hf _ (zf_w0 j hj))
      exact ⟨a, fun _ => q1⟩
    · exact ⟨0, fun h => absurd h hj⟩
  obtain ⟨wd, hwd⟩ := Classical.axiomOfChoice hw
  -- the arrays
  obtain ⟨aE, eE, tE⟩ := va_Tof (s := s) (args := #[Value.ref b]) (N := 0) (f := fun _ => .null) (A := fun q => s.heap.size ≤ q) (by decide) (hf _ zf_a1) (va_eqt (hf _ zf_a3)) (fun j hj => absurd hj (Nat.not_lt_zero _)) hA
  obtain ⟨aW, eW, tW⟩ := va_Tof (s := s) (args := #[Value.ref b]) (N := 7) (f := fun j => .ref (wd j)) (A := fun q => s.heap.size ≤ q) (by decide) (hf _ zf_b1) (va_eqt (hf _ zf_b2)) (fun j hj => va_eqv (hf _ (zf_w4 j hj)) (hwd j hj)) hA
  obtain ⟨aM, eM, tM⟩ := va_Tof (s := s) (args := #[Value.ref b]) (N := 7) (f := fun j => .int (if j = 6 then 0 else nI (j + 1))) (A := fun q => s.heap.size ≤ q) (by decide) (hf _ zf_c1) (va_eqt (hf _ zf_c2)) (fun j hj => va_eqt (hf _ (zf_w5 j hj))) hA
  obtain ⟨mi, hmi⟩ := va_Mi.of (hf _ zf_d5)
  let Nn : Nat → Nat := fun i => if i = 0 then tB else if i = 1 then tI else if i = 2 then tJ else if i = 3 then tO else if i = 10 then aE else if i = 11 then aW else if i = 12 then aM else if i = 13 then mi else if i = 14 then b else if i = 15 then L else if i < 100 then wd (i - 20) else if i < 130 then adK (i - 100) else if i < 1000 then adV (i - 130) else (xs (i - 1000)).toBitVec.toNat
  have eN : ∀ i : Nat, Nn i = if i = 0 then tB else if i = 1 then tI else if i = 2 then tJ else if i = 3 then tO else if i = 10 then aE else if i = 11 then aW else if i = 12 then aM else if i = 13 then mi else if i = 14 then b else if i = 15 then L else if i < 100 then wd (i - 20) else if i < 130 then adK (i - 100) else if i < 1000 then adV (i - 130) else (xs (i - 1000)).toBitVec.toNat := fun i => rfl
  have eK : ∀ i, i < 21 → Nn (100 + i) = adK i := fun i hi => by
    rw [eN, if_neg (by omega), if_neg (by omega), if_neg (by omega), if_neg (by omega), if_neg (by omega), if_neg (by omega), if_neg (by omega), if_neg (by omega), if_neg (by omega), if_neg (by omega), if_neg (by omega), if_pos (by omega), Nat.add_sub_cancel_left]
  have eV : ∀ i, i < 21 → Nn (130 + i) = adV i := fun i hi => by
    rw [eN, if_neg (by omega), if_neg (by omega), if_neg (by omega), if_neg (by omega), if_neg (by omega), if_neg (by omega), if_neg (by omega), if_neg (by omega), if_neg (by omega), if_neg (by omega), if_neg (by omega), if_neg (by omega), if_pos (by omega), Nat.add_sub_cancel_left]
  have eD : ∀ j, j < 7 → Nn (20 + j) = wd j := fun j hj => by
    rw [eN, if_neg (by omega), if_neg (by omega), if_neg (by omega), if_neg (by omega), if_neg (by omega), if_neg (by omega), if_neg (by omega), if_neg (by omega), if_neg (by omega), if_neg (by omega), if_pos (by omega), Nat.add_sub_cancel_left]
  have eX : ∀ j, Nn (1000 + j) = (xs j).toBitVec.toNat := fun j => by
    rw [eN, if_neg (by omega), if_neg (by omega), if_neg (by omega), if_neg (by omega), if_neg (by omega), if_neg (by omega), if_neg (by omega), if_neg (by omega), if_neg (by omega), if_neg (by omega), if_neg (by omega), if_neg (by omega), if_neg (by omega), Nat.add_sub_cancel_left]
  have e10 : Nn 10 = aE := rfl
  have e11 : Nn 11 = aW := rfl
  have e12 : Nn 12 = aM := rfl
  have e13 : Nn 13 = mi := rfl
  have e14 : Nn 14 = b := rfl
  have e15 : Nn 15 = L := rfl
  have y0 : Nn 0 = tB := rfl
  have y1 : Nn 1 = tI := rfl
  have y2 : Nn 2 = tJ := rfl
  have y3 : Nn 3 = tO := rfl
  clear_value Nn
  refine ⟨(G, Nn, s.heap), rfl, e14, e15, fun w hw hg a => zgd_any hg (hts w hw) a, ⟨hG, fun k q hq => ?_⟩, fun i => ?_, hfl⟩
  · match k, hq with
    | 0, hq => cases hq; show ArrOfT s (Nn 0) _ ∧ va_RA s (Nn 0) _; rw [y0]; exact hB
    | 1, hq => cases hq; show ArrOfT s (Nn 1) _ ∧ va_RA s (Nn 1) _; rw [y1]; exact hI
    | 2, hq => cases hq; show ArrOfT s (Nn 2) _ ∧ va_RA s (Nn 2) _; rw [y2]; exact hJ
    | 3, hq => cases hq; show ArrOfT s (Nn 3) _ ∧ va_RA s (Nn 3) _; rw [y3]; exact hO
    | k + 4, hq => simp [zty] at hq
  · match i with
    | 0 => show va_Z _ _ _ (.ref (Nn 10)) _ s s.heap; rw [e10]; exact va_Zof (ht tb_56) (ht tb_5) eE hA
    | 1 => show va_T _ (Nn 10) _ _ _ s s.heap; rw [e10]; exact tE
    | 2 => show va_O _ (Nn 10) _ s s.heap; rw [e10]; exact va_Oof (hf _ zf_a2) eE hA
    | 3 =>
      refine ⟨fun i hi => ?_, fun i j hi hj e => ?_⟩
      · show va_O _ (Nn (100 + i)) _ s s.heap ∧ va_OF _ _ _ _ (Nn (100 + i)) _ s s.heap ∧ va_OF _ _ _ (.ref (Nn (130 + i))) (Nn (100 + i)) _ s s.heap ∧ va_T _ (Nn (130 + i)) _ _ _ s s.heap
        rw [eK i hi, eV i hi]; exact hS.1 i hi
      · have e' : Nn (100 + i) = Nn (100 + j) := e
        rw [eK i hi, eK j hj] at e'; exact hS.2 i j hi hj e'
    | 4 =>
      intro i hi
      show vk_R _ _ _ (Nn (100 + i)) s
      rw [eK i hi]; exact vk_R.of (hti _ (zf_sr i hi)) (hSe i hi)
    | 5 => exact va_Zof (ht tb_274) (ht tb_11) (va_eqi (hf _ zf_d1)) hA
    | 6 => show va_Z _ _ _ (.ref (Nn 11)) _ s s.heap; rw [e11]; exact va_Zof (ht tb_260) (ht tb_1) eW hA
    | 7 =>
      show va_T _ (Nn 11) 7 (fun j => .ref (Nn (20 + j))) _ s s.heap
      rw [e11]
      obtain ⟨cell, a1, a2, a3, a4, a5, a6, a7⟩ := tW
      exact ⟨cell, a1, a2, a3, a4, a5, fun j hj => by show cell.slots[j]? = some (.ref (Nn (20 + j))); rw [eD j hj]; exact a6 j hj, a7⟩
    | 8 => show va_Z _ _ _ (.ref (Nn 12)) _ s s.heap; rw [e12]; exact va_Zof (ht tb_384) (ht tb_19) eM hA
    | 9 => show va_T _ (Nn 12) _ _ _ s s.heap; rw [e12]; exact tM
    | 10 =>
      intro j hj
      show va_O _ (Nn (20 + j)) _ s s.heap ∧ va_OF _ _ _ _ (Nn (20 + j)) _ s s.heap ∧ va_OF _ _ _ (.ref (Nn (100 + j))) (Nn (20 + j)) _ s s.heap ∧ va_OF _ _ _ _ (Nn (20 + j)) _ s s.heap
      rw [eD j hj, eK j (by omega)]
      exact ⟨va_Oof (hf _ (zf_w0 j hj)) (hwd j hj) hA, vk_OFof (hwd j hj) (va_eqt (hf _ (zf_w1 j hj))) hA, vk_OFof (hwd j hj) (va_eqv (hf _ (zf_w2 j hj)) (hSe j (by omega))) hA, vk_OFof (hwd j hj) (va_eqt (hf _ (zf_w3 j hj))) hA⟩
    | 11 => show va_Mi _ (Nn 13) s; rw [e13]; exact hmi
    | 12 => exact vx_Zqof (ht tb_340) (ht tb_15) (hf _ zf_d3) hA
    | 13 => exact vx_Zqof (ht tb_342) (ht tb_15) (hf _ zf_d4) hA
    | 14 =>
      show va_X (Nn 14) (Nn 15) (fun j => Int32.ofNat (Nn (1000 + j))) s s.heap ∧ Nn 14 < s.heap.size
      rw [e14, e15]
      obtain ⟨scr, a1, a2, a3, a4, a5⟩ := hX
      exact ⟨⟨scr, a1, a2, a3, a4, fun j hj => by show scr.slots[j]? = some (.int (Int32.ofNat (Nn (1000 + j)))); rw [eX, z_int]; exact a5 j hj⟩, hbl⟩
    | 15 => exact va_Zqof (ht tb_290) (ht tb_13) (hf _ zf_d2) hA
    | _ + 16 => trivial
