-- ===== throw, arraycopy, string constants =====
theorem zth_R : (∀ w ∈ vx_atS "SortUtility$Reader" 145 "java/lang/IllegalArgumentException" ["java/lang/RuntimeException", "java/lang/Exception"], w ∈ lw_tbl ∧ zgd w = true) := by
  have h : ((vx_atS "SortUtility$Reader" 145 "java/lang/IllegalArgumentException" ["java/lang/RuntimeException", "java/lang/Exception"]).all (fun w => decide (w ∈ lw_tbl) && zgd w)) = true := by decide +kernel
  intro w hw
  have h1 := List.all_eq_true.mp h w hw
  simp only [Bool.and_eq_true, decide_eq_true_eq] at h1
  exact h1
theorem zth_U : (∀ w ∈ vx_atS "SortUtility" 113 "java/lang/ArrayIndexOutOfBoundsException" ["java/lang/IndexOutOfBoundsException", "java/lang/RuntimeException", "java/lang/Exception"], w ∈ lw_tbl ∧ zgd w = true) := by
  have h : ((vx_atS "SortUtility" 113 "java/lang/ArrayIndexOutOfBoundsException" ["java/lang/IndexOutOfBoundsException", "java/lang/RuntimeException", "java/lang/Exception"]).all (fun w => decide (w ∈ lw_tbl) && zgd w)) = true := by decide +kernel
  intro w hw
  have h1 := List.all_eq_true.mp h w hw
  simp only [Bool.and_eq_true, decide_eq_true_eq] at h1
  exact h1
theorem zth_Rg : ∀ w ∈ Cond.classLink "SortUtility$Reader" 141 "java/lang/IllegalArgumentException" :: Cond.initialized "java/lang/IllegalArgumentException" :: vx_atS "SortUtility$Reader" 145 "java/lang/IllegalArgumentException" ["java/lang/RuntimeException", "java/lang/Exception"], vx_ot w = true := by
  intro w hw
  have h : ((Cond.classLink "SortUtility$Reader" 141 "java/lang/IllegalArgumentException" :: Cond.initialized "java/lang/IllegalArgumentException" :: vx_atS "SortUtility$Reader" 145 "java/lang/IllegalArgumentException" ["java/lang/RuntimeException", "java/lang/Exception"]).all vx_ot) = true := by decide +kernel
  exact List.all_eq_true.mp h w hw
theorem zth_Ug : ∀ w ∈ Cond.classLink "SortUtility" 109 "java/lang/ArrayIndexOutOfBoundsException" :: Cond.initialized "java/lang/ArrayIndexOutOfBoundsException" :: vx_atS "SortUtility" 113 "java/lang/ArrayIndexOutOfBoundsException" ["java/lang/IndexOutOfBoundsException", "java/lang/RuntimeException", "java/lang/Exception"], vx_ot w = true := by
  intro w hw
  have h : ((Cond.classLink "SortUtility" 109 "java/lang/ArrayIndexOutOfBoundsException" :: Cond.initialized "java/lang/ArrayIndexOutOfBoundsException" :: vx_atS "SortUtility" 113 "java/lang/ArrayIndexOutOfBoundsException" ["java/lang/IndexOutOfBoundsException", "java/lang/RuntimeException", "java/lang/Exception"]).all vx_ot) = true := by decide +kernel
  exact List.all_eq_true.mp h w hw
theorem zRep.more {E : zE} {h : zH} {H H' : Heap} (hR : zRep E h H) (h1 : H.size ≤ H'.size) (h2 : ∀ q : Nat, q < H.size → H'[q]? = H[q]?) : zRep E h H' :=
  ⟨fun q hq => by rw [h2 q (Nat.lt_of_lt_of_le hq hR.2.1)]; exact hR.1 q hq, Nat.le_trans hR.2.1 h1, fun a ha => ⟨(hR.2.2 a ha).1, (hR.2.2 a ha).2.kept (h2 a (hR.2.2 a ha).2.lt)⟩⟩
section
variable {E : zE} {M : zM} {K n : Nat → Nat} {I : Nat → Nat → Int32} {F : Nat → Nat → Option Nat} {J : Nat → Nat → Int64} {h : zH} {cb sb : Nat} {Q : zO → zH → Prop} {pc : Nat} {lv : List (Option Value)} {st : List Value} {a : Nat}
/-- 'throw new E("text")' where nothing here catches it -/
theorem aw_throwS {cls : String} {names : List String} {ik is ic : Nat} (si i1 i2 : Nat) (hsi : si < 21) (hso : (zstr.getD si ("", 0, "")).1 = M.1.cls) (hsx : (zstr.getD si ("", 0, "")).2.1 = is) (hcls : Bundle.fit cls = true) (hnames : ∀ n ∈ names, Bundle.fit n = true)
    (hk9 : tables_1[i1]? = some (.classLink M.1.cls ik cls)) (hi9 : tables_1[i2]? = some (.initialized cls)) (hat : ∀ w ∈ vx_atS M.1.cls ic cls names, w ∈ lw_tbl ∧ zgd w = true) (hgood : ∀ w ∈ Cond.classLink M.1.cls ik cls :: Cond.initialized cls :: vx_atS M.1.cls ic cls names, vx_ot w = true)
    (d0 : decode M.2.1 pc = .ok (.new ik, 3)) (d3 : decode M.2.1 (pc + 3) = .ok (.dup, 1)) (d4 : decode M.2.1 (pc + 4) = .ok (.ldc is, 2)) (d6 : decode M.2.1 (pc + 6) = .ok (.invokespecial ic, 3)) (d9 : decode M.2.1 (pc + 9) = .ok (.athrow, 1))
    (hMh : M.2.2.2.2.2.2 = []) (hf : names.length + 3 < M.2.2.2.2.1) (hlo : 2 * st.length + (13 * (names.length + 1) + 43) ≤ M.2.2.2.2.2.1) (hcb : 1 ≤ cb) (hsb : 6 ≤ sb) (hq : Q (.inr cls) h) : AW E M h cb sb Q pc lv st := by
  intro p l e R s m args below meth c H locs cells slots ls ok hR hL hc hs hl T hT X
  obtain ⟨hexec, hb, hml, -, hlocks, hown, -, hfr, hlo9, hh, hS⟩ := id ok
  have htr : e.platform.stackTraces = false := (show e.platform.stackTraces = l.stackTraces by rw [X.admits.platform]).trans hS.2.2.2
  have Y := vx_rebase X (R' := { frames := R.frames, locals := R.locals, cells := 1, slots := 6 }) (Nat.le_refl _) (Nat.le_refl _) (by show cells + 1 ≤ _; omega) (by show slots + 6 ≤ _; omega)
  obtain ⟨s', hA⟩ : ∃ z, z = (T.setVm s.vm).setFrames (.invoking m args :: below) := ⟨_, rfl⟩
  rw [← hA] at Y
  have hvm : s'.vm = s.vm := by rw [hA]; rfl
  have hhp : s'.heap = H := by rw [hA]; exact hT
  have hW0 : s.WarmedH s'.vm := by rw [hvm]; exact State.WarmedH.refl s
  have hS' := hS.warm hW0
  have hat' : ∀ w ∈ vx_atS M.1.cls ic cls names, w.before args s' = true := fun w hw => hS'.1 w (hat w hw).1 (hat w hw).2 args
  have hk' : (Cond.classLink M.1.cls ik cls).before args s' = true := hS'.1.t i1 hk9 rfl
  have hini' : (Cond.initialized cls).before args s' = true := hS'.1.t i2 hi9 rfl
  have hkp : ∀ a : Nat, a < E.2.2.size → ¬ (fun q => E.2.2.size ≤ q) a → H[a]? = E.2.2[a]? := fun a h1 _ => hR.1 a h1
  have hU' : vx_Zq Bundle.tN "UNASSIGNED_STACK" Bundle.steD (fun q => E.2.2.size ≤ q) s' s'.heap := by rw [hhp]; exact vx_Zq.kept (hS'.2.2.1 12) hkp
  have hN' : vx_Zq Bundle.tN "SUPPRESSED_SENTINEL" Bundle.listD (fun q => E.2.2.size ≤ q) s' s'.heap := by rw [hhp]; exact vx_Zq.kept (hS'.2.2.1 13) hkp
  have h9 : ∀ w ∈ Bundle.ownAtoms M.1.cls ic cls names, w.before args s' = true := vx_own hat' (vx_isRefq hU'.1) (vx_isRefq hN'.1) hU'.2.word hN'.2.word
  have hown' : s'.vm.findClass M.1.cls = some m.cls := by rw [hvm]; exact hown
  have hins : (Cond.instantiable cls 6).before args s' = true := h9 _ (by simp [Bundle.ownAtoms])
  obtain ⟨vm₁, cX, kX, hfX, hkX, -, -, X₁, st1⟩ := Y.newCold hexec (own := M.1.cls) (C := cls) (index := ik) (n := 6) hown' hk' hins hini'
    (g := F0 m pc ls st) rfl (by rw [hb]; exact d0) (Nat.le_refl _) (Nat.le_refl _)
  generalize hT1 : (T.setVm vm₁).pushCell { cls := cX, slots := kX.instanceTypes.map defaultValue, vm := .none } = T1 at X₁ st1
  have hcat : (Value.ref T.heap.size).category = 1 := rfl
  have hcellA : T1.heap[T.heap.size]? = some (freshCell cX kX) := by rw [← hT1]; exact State.heap_pushCell_size _ _
  have d3' : decode c.code (pc + 3) = .ok (.dup, 1) := by rw [hb]; exact d3
  have d4' : decode c.code (pc + 4) = .ok (.ldc is, 2) := by rw [hb]; exact d4
  have hstr' := hS'.2.2.1 4 si hsi
  rw [hso, hsx] at hstr'
  have hz := zcats st
  obtain ⟨U, hsteps, hrun, hend, hW, hsame, ce, hce, hO⟩ := X₁.ctorThrowS hexec htr (own := M.1.cls) (cls := cls) (names := names) (ic := ic) hown' hcls hnames h9 (fun x hx => nomatch hx) hfX hkX hcellA (by rw [hhp, hT]; exact Nat.le_refl _) (msg := .ref (E.2.1 (100 + si))) rfl
    (g := { method := m, pc := pc + 6, locals := ls, stack := .ref (E.2.1 (100 + si)) :: .ref T.heap.size :: .ref T.heap.size :: st, locked := none }) rfl (by rw [hml]; exact hl.1) rfl rfl (rest := st) rfl
    (by rw [hb]; exact d6) (by rw [hb]; exact d9) (fun x hx => by
      rw [hMh] at hh
      rw [List.map_eq_nil_iff.mp hh] at hx
      cases hx) (by show names.length + 3 < R.frames; omega) (by simp only [List.map_cons, List.sum_cons, hcat]; show 2 * 0 + _ + _ ≤ R.locals; omega) hlocks
  obtain ⟨f1, f2⟩ := vx_frame hsame
  rw [hhp] at f1 f2
  have hWs : s.WarmedH U.vm := State.WarmedH.trans hW0 hW
  have hcl : s.vm.findClass cls = some ce.cls := by
    have h9 := hO.cls
    rw [hvm] at h9
    exact h9
  have hall : s.sameButNew ({ U with vm := s.vm } : State) locs R.cells R.slots := by
    subst hA
    obtain ⟨e1, e2⟩ := hsame
    rw [State.setFrames_setFrames] at e1
    have h2 : (T.setVm s.vm).sameButNew ({ U with vm := s.vm } : State) [] (0 + 1) (0 + 6) := ⟨e1, e2⟩
    have h3 := X.same.trans h2
    rw [List.append_nil] at h3
    exact h3.mono (by omega) (by omega)
  refine ⟨U, ?_, .threw T.heap.size, locs, .inr cls, h, hrun, hend, hWs, hall, hL, hR.more f1 (fun q hq9 => f2 q hq9 (fun z hz => nomatch hz)), ⟨T.heap.size, ce, rfl, hce, hO.vm, hcl⟩, hq⟩
  refine st1 _ ?_
  show Steps p.tables e below (T1.setTop { method := m, pc := pc + 3, locals := ls, stack := .ref T.heap.size :: st, locked := none }) _
  jvm_step X₁.here [X₁.here.top, hexec, d3', Value.category]
  exact X₁.ldcString hexec (own := M.1.cls) (text := (zstr.getD si ("", 0, "")).2.2) (index := is) (a := E.2.1 (100 + si)) hown' hstr'.1 hstr'.2
    (g := { method := m, pc := pc + 4, locals := ls, stack := .ref T.heap.size :: .ref T.heap.size :: st, locked := none }) rfl d4' _ hsteps
theorem aw_ldcS {is : Nat} (si : Nat) (hsi : si < 21) (hso : (zstr.getD si ("", 0, "")).1 = M.1.cls) (hsx : (zstr.getD si ("", 0, "")).2.1 = is) (hd : decode M.2.1 pc = .ok (.ldc is, 2)) (kk : AW E M h cb sb Q (pc + 2) lv (.ref (E.2.1 (100 + si)) :: st)) : AW E M h cb sb Q pc lv st := by
  intro p l e R s m args below meth c H locs cells slots ls ok hR hL hc hs hl
  obtain ⟨hx, hb, -, -, -, hown, -, -, -, -, hS⟩ := id ok
  have hstr' := hS.2.2.1 4 si hsi
  rw [hso, hsx] at hstr'
  exact va_ldcS hx hb hown hstr' hd (kk p l e R s m args below meth c H locs cells slots ls ok hR hL hc hs hl)
/-- System.arraycopy of bytes -/
theorem aw_copyB {b idx : Nat} {x y z : Int32} (sp dp N : Nat) (iL : Nat) (hL9 : tables_1[iL]? = some (.methodLink M.1.cls idx arraycopyName)) (hka : K a = 20) (hkb : K b = 20) (hx0 : x = nI sp) (hy0 : y = nI dp) (hz0 : z = nI N) (h1 : sp + N ≤ n a) (h2 : dp + N ≤ n b) (h31 : n a ≤ 100000) (h32 : n b ≤ 100000) (hfit : ∀ i, i < N → fits .byte (.int (I a (sp + i))) = true)
    (hfr : 1 ≤ M.2.2.2.2.1) (hlo : 2 * st.length + 18 ≤ M.2.2.2.2.2.1) (hd : decode M.2.1 pc = .ok (.invokestatic idx, 3)) (kk : AW E M (K, n, va_up I b (va_cpy (I a) (I b) sp dp N), F, J) cb sb Q (pc + 3) lv st) : AW E M (K, n, I, F, J) cb sb Q pc lv (.int z :: .int y :: .ref b :: .int x :: .ref a :: st) := by
  subst hx0; subst hy0; subst hz0
  intro p l e R s m args below meth c H locs cells slots ls ok hR hL hc hs hl T hT X
  obtain ⟨hx, hb, hml, -, -, hown, hmn, hfr9, hlo9, -, hTb, hK, -⟩ := id ok
  have ha : (K, n, I, F, J).1 a ≠ 0 := by show K a ≠ 0; omega
  have hbb : (K, n, I, F, J).1 b ≠ 0 := by show K b ≠ 0; omega
  have hP := hR.at ha
  rw [zcell_b (h := (K, n, I, F, J)) hka] at hP
  have hPb := hR.at hbb
  rw [zcell_b (h := (K, n, I, F, J)) hkb] at hPb
  have hc0 : H[a]? = some (vp_cell (E.2.1 0) (n a, .inl (I a))) := hP 0 _ rfl
  have hc1 : H[b]? = some (vp_cell (E.2.1 0) (n b, .inl (I b))) := hPb 0 _ rfl
  have q1 := nI_clamp (n := sp) (by omega)
  have q2 := nI_clamp (n := dp) (by omega)
  have q3 := nI_clamp (n := N) (by omega)
  have q4 := nI_toInt (n := sp) (by omega)
  have q5 := nI_toInt (n := dp) (by omega)
  have q6 := nI_toInt (n := N) (by omega)
  obtain ⟨-, k0, hk0, cm0, hkk0⟩ := (hK.2 0 _ rfl).1 (n a) (fun j => .int (I a j))
  have hz := zcats st
  obtain ⟨vm', X', step⟩ := X.arraycopy hx hown (hTb.t iL hL9 rfl) (hTb.t 511 tb_511 rfl) (hTb.t 510 tb_510 rfl) (hTb.t 24 tb_24 rfl) (src := a) (dst := b) (cs := vp_cell (E.2.1 0) (n a, .inl (I a))) (cd := vp_cell (E.2.1 0) (n b, .inl (I b))) (srcPos := nI sp) (destPos := nI dp) (n := nI N) (by rw [hT]; exact hc0) (by rw [hT]; exact hc1)
    (fun _ h => by cases h) (fun _ h => by cases h) (fun h => by cases h) (fun h => by cases h) hk0 hk0 hkk0 hkk0 rfl (nI_pos (by omega)) (nI_pos (by omega)) (nI_pos (by omega))
    (by rw [q4, q6]; show ¬ _ > ((arrV (E.2.1 0) (n a) (fun j => .int (I a j))).slots.size : Int); rw [arrV_size]; omega)
    (by rw [q5, q6]; show ¬ _ > ((arrV (E.2.1 0) (n b) (fun j => .int (I b j))).slots.size : Int); rw [arrV_size]; omega)
    (fun vm₁ _ i hi => by
      rw [q1]
      rw [q3] at hi
      have e9 : (vp_cell (E.2.1 0) (n a, .inl (I a))).slots.getD (sp + i) .null = .int (I a (sp + i)) := by
        show (arrV (E.2.1 0) (n a) (fun j => .int (I a j))).slots.getD _ _ = _
        rw [Array.getD_eq_getD_getElem?, arrV_read _ _ (by omega)]
        rfl
      rw [e9]
      exact ⟨hfit i hi, trivial⟩)
    (g := F0 m pc ls (.int (nI N) :: .int (nI dp) :: .ref b :: .int (nI sp) :: .ref a :: st)) rfl (by rw [hml]; exact hl.1) (rest := st) rfl (by rw [hb]; exact hd) (by omega) (by show 2 * 0 + (st.map fun v => v.category).sum + (7 + 11) ≤ _; omega)
  have e1 : copied (vp_cell (E.2.1 0) (n a, .inl (I a))) (vp_cell (E.2.1 0) (n b, .inl (I b))) (nI sp) (nI dp) (nI N) = vp_cell (E.2.1 0) (n b, .inl (va_cpy (I a) (I b) sp dp N)) := by
    have := va_copied (fun z => .int z) (E.2.1 0) (E.2.1 0) (n0 := n a) (n1 := n b) (sp := sp) (dp := dp) (n := N) (I a) (I b) h1
    unfold copied
    rw [q1, q2, q3]
    exact this
  rw [e1] at X' step
  have hlt : b < H.size := (Array.getElem?_eq_some_iff.mp hc1).1
  have hheap : ((T.setVm vm').setCell b (vp_cell (E.2.1 0) (n b, .inl (va_cpy (I a) (I b) sp dp N)))).heap = H.setIfInBounds b (vp_cell (E.2.1 0) (n b, .inl (va_cpy (I a) (I b) sp dp N))) := by rw [← hT]; rfl
  obtain ⟨t, a1, b1⟩ := kk p l e R s m args below meth c (H.setIfInBounds b (vp_cell (E.2.1 0) (n b, .inl (va_cpy (I a) (I b) sp dp N)))) _ cells slots ls ok (hR.put hbb rfl (by simp) (fun q hq => by simp [Array.getElem?_setIfInBounds, Ne.symm hq]) (by
      rw [zcell_b (h := (K, n, va_up I b (va_cpy (I a) (I b) sp dp N), F, J)) hkb]
      show (H.setIfInBounds b _)[b]? = some (vp_cell (E.2.1 0) (n b, .inl (va_up I b (va_cpy (I a) (I b) sp dp N) b)))
      rw [va_up_self]
      simp [Array.getElem?_setIfInBounds, hlt]) (fun q hq => by
      unfold zcell
      show _ = _
      simp only [va_up_ne I (va_cpy (I a) (I b) sp dp N) hq])) (fun q hq => by
      rcases List.mem_append.mp hq with h9 | h9
      · exact hL q h9
      · obtain ⟨z, -, hz9⟩ := List.mem_map.mp h9
        rw [← hz9]
        exact (hR.2.2 b hbb).1) hc hs hl _ hheap X'
  exact ⟨t, step t a1, b1⟩
/-- System.arraycopy of references -/
theorem aw_copyR {b idx : Nat} {x y z : Int32} (sp dp N : Nat) (iL : Nat) (hL9 : tables_1[iL]? = some (.methodLink M.1.cls idx arraycopyName)) (hka : K a = 23) (hkb : K b = 23) (hx0 : x = nI sp) (hy0 : y = nI dp) (hz0 : z = nI N) (h1 : sp + N ≤ n a) (h2 : dp + N ≤ n b) (h31 : n a ≤ 100000) (h32 : n b ≤ 100000) (hel : ∀ i, i < N → ∀ v, F a (sp + i) = some v → zEl (K v))
    (hfr : 1 ≤ M.2.2.2.2.1) (hlo : 2 * st.length + 18 ≤ M.2.2.2.2.2.1) (hd : decode M.2.1 pc = .ok (.invokestatic idx, 3)) (kk : AW E M (K, n, I, va_up F b (va_cpy (F a) (F b) sp dp N), J) cb sb Q (pc + 3) lv st) : AW E M (K, n, I, F, J) cb sb Q pc lv (.int z :: .int y :: .ref b :: .int x :: .ref a :: st) := by
  subst hx0; subst hy0; subst hz0
  intro p l e R s m args below meth c H locs cells slots ls ok hR hL hc hs hl T hT X
  obtain ⟨hx, hb, hml, -, -, hown, hmn, hfr9, hlo9, -, hTb, hK, -⟩ := id ok
  have ha : (K, n, I, F, J).1 a ≠ 0 := by show K a ≠ 0; omega
  have hbb : (K, n, I, F, J).1 b ≠ 0 := by show K b ≠ 0; omega
  have hP := hR.at ha
  rw [zcell_r (h := (K, n, I, F, J)) hka] at hP
  have hPb := hR.at hbb
  rw [zcell_r (h := (K, n, I, F, J)) hkb] at hPb
  have hc0 : H[a]? = some (vp_cell (E.2.1 3) (n a, .inr (.inr (.inr (.inr (F a)))))) := hP 0 _ rfl
  have hc1 : H[b]? = some (vp_cell (E.2.1 3) (n b, .inr (.inr (.inr (.inr (F b)))))) := hPb 0 _ rfl
  have q1 := nI_clamp (n := sp) (by omega)
  have q2 := nI_clamp (n := dp) (by omega)
  have q3 := nI_clamp (n := N) (by omega)
  have q4 := nI_toInt (n := sp) (by omega)
  have q5 := nI_toInt (n := dp) (by omega)
  have q6 := nI_toInt (n := N) (by omega)
  obtain ⟨-, k0, hk0, cm0, hkk0⟩ := (hK.2 3 _ rfl).1 (n a) (fun j => va_rf (F a j))
  have hz := zcats st
  obtain ⟨vm', X', step⟩ := X.arraycopy hx hown (hTb.t iL hL9 rfl) (hTb.t 511 tb_511 rfl) (hTb.t 510 tb_510 rfl) (hTb.t 24 tb_24 rfl) (src := a) (dst := b) (cs := vp_cell (E.2.1 3) (n a, .inr (.inr (.inr (.inr (F a)))))) (cd := vp_cell (E.2.1 3) (n b, .inr (.inr (.inr (.inr (F b)))))) (srcPos := nI sp) (destPos := nI dp) (n := nI N) (by rw [hT]; exact hc0) (by rw [hT]; exact hc1)
    (fun _ h => by cases h) (fun _ h => by cases h) (fun h => by cases h) (fun h => by cases h) hk0 hk0 hkk0 hkk0 rfl (nI_pos (by omega)) (nI_pos (by omega)) (nI_pos (by omega))
    (by rw [q4, q6]; show ¬ _ > ((arrV (E.2.1 3) (n a) (fun j => va_rf (F a j))).slots.size : Int); rw [arrV_size]; omega)
    (by rw [q5, q6]; show ¬ _ > ((arrV (E.2.1 3) (n b) (fun j => va_rf (F b j))).slots.size : Int); rw [arrV_size]; omega)
    (fun vm₁ hal i hi => by
      rw [q1]
      rw [q3] at hi
      have e9 : (vp_cell (E.2.1 3) (n a, .inr (.inr (.inr (.inr (F a)))))).slots.getD (sp + i) .null = va_rf (F a (sp + i)) := by
        show (arrV (E.2.1 3) (n a) (fun j => va_rf (F a j))).slots.getD _ _ = _
        rw [Array.getD_eq_getD_getElem?, arrV_read _ _ (by omega)]
        rfl
      rw [e9]
      cases hy : F a (sp + i) with
      | none => exact ⟨rfl, trivial⟩
      | some v =>
        obtain ⟨ci, q, hkv, hci, hcl, hasg⟩ := zas_el hTb (hel i hi v hy)
        obtain ⟨cellV, g1, g2, g3⟩ := z_recv hR hK hcl hci (b := v) hkv
        obtain ⟨kA, comp, r1, r2, r3, -⟩ := (hK.2 3 _ rfl).2
        cases hk0.symm.trans r1
        cases hkk0.symm.trans r2
        obtain ⟨kC, hkC, -⟩ := Vm.findClass_spec g3
        obtain ⟨kE, hkE, -⟩ := Vm.findClass_spec r3
        obtain ⟨kC', hkC', -⟩ := hal.2.2 _ _ hkC
        obtain ⟨kE', hkE', -⟩ := hal.2.2 _ _ hkE
        refine ⟨rfl, cellV, (show T.heap[v]? = some cellV by rw [hT]; exact g1), (fun q h => by rw [h] at g2; cases g2), ⟨kC', hkC'⟩, ?_, ?_⟩
        · exact ⟨kE', hkE'⟩
        · show vm₁.assignable cellV.cls _ = true
          rw [hal.assignable]
          exact hasg _ _ r3 g3)
    (g := F0 m pc ls (.int (nI N) :: .int (nI dp) :: .ref b :: .int (nI sp) :: .ref a :: st)) rfl (by rw [hml]; exact hl.1) (rest := st) rfl (by rw [hb]; exact hd) (by omega) (by show 2 * 0 + (st.map fun v => v.category).sum + (7 + 11) ≤ _; omega)
  have e1 : copied (vp_cell (E.2.1 3) (n a, .inr (.inr (.inr (.inr (F a)))))) (vp_cell (E.2.1 3) (n b, .inr (.inr (.inr (.inr (F b)))))) (nI sp) (nI dp) (nI N) = vp_cell (E.2.1 3) (n b, .inr (.inr (.inr (.inr (va_cpy (F a) (F b) sp dp N))))) := by
    have := va_copied (fun z => va_rf z) (E.2.1 3) (E.2.1 3) (n0 := n a) (n1 := n b) (sp := sp) (dp := dp) (n := N) (F a) (F b) h1
    unfold copied
    rw [q1, q2, q3]
    exact this
  rw [e1] at X' step
  have hlt : b < H.size := (Array.getElem?_eq_some_iff.mp hc1).1
  have hheap : ((T.setVm vm').setCell b (vp_cell (E.2.1 3) (n b, .inr (.inr (.inr (.inr (va_cpy (F a) (F b) sp dp N))))))).heap = H.setIfInBounds b (vp_cell (E.2.1 3) (n b, .inr (.inr (.inr (.inr (va_cpy (F a) (F b) sp dp N)))))) := by rw [← hT]; rfl
  obtain ⟨t, a1, b1⟩ := kk p l e R s m args below meth c (H.setIfInBounds b (vp_cell (E.2.1 3) (n b, .inr (.inr (.inr (.inr (va_cpy (F a) (F b) sp dp N))))))) _ cells slots ls ok (hR.put hbb rfl (by simp) (fun q hq => by simp [Array.getElem?_setIfInBounds, Ne.symm hq]) (by
      rw [zcell_r (h := (K, n, I, va_up F b (va_cpy (F a) (F b) sp dp N), J)) hkb]
      show (H.setIfInBounds b _)[b]? = some (vp_cell (E.2.1 3) (n b, .inr (.inr (.inr (.inr (va_up F b (va_cpy (F a) (F b) sp dp N) b))))))
      rw [va_up_self]
      simp [Array.getElem?_setIfInBounds, hlt]) (fun q hq => by
      unfold zcell
      show _ = _
      simp only [va_up_ne F (va_cpy (F a) (F b) sp dp N) hq])) (fun q hq => by
      rcases List.mem_append.mp hq with h9 | h9
      · exact hL q h9
      · obtain ⟨z, -, hz9⟩ := List.mem_map.mp h9
        rw [← hz9]
        exact (hR.2.2 b hbb).1) hc hs hl _ hheap X'
  exact ⟨t, step t a1, b1⟩
/-- a field of a constant object -/
theorem aw_getC {o nm d ref : String} {v : Value} {idx : Nat} (i : Nat) (hO : ∀ U, (∀ i, zkon E U i) → va_OF o nm d v a (fun q => E.2.2.size ≤ q) U E.2.2) (hL9 : tables_1[i]? = some (.fieldLink M.1.cls idx o nm d)) (hd : decode M.2.1 pc = .ok (.getfield idx, 3)) (kk : AW E M h cb sb Q (pc + 3) lv (v :: st)) : AW E M h cb sb Q pc lv (.ref a :: st) := by
  intro p l e R s m args below meth c H locs cells slots ls ok hR hL hc hs hl
  obtain ⟨hx, hb, -, -, -, hown, hmn, -, -, -, hT, hK, hC, -⟩ := id ok
  obtain ⟨cf, k, fi, f, cell, h1, h2, h3, h4, h5, h6⟩ := hO s hC
  exact W.getf hx hb hown (hT.t i hL9 rfl) h1 h2 (by rw [hR.1 a (Nat.lt_of_not_le h6)]; exact h3) h4 h5 rfl rfl hd (kk p l e R s m args below meth c H locs cells slots ls ok hR hL hc hs hl)
/-- an element of a constant array, its length -/
theorem aw_baldC {f : Nat → Value} {N : Nat} {x : Int32} (j : Nat) (hA : ∀ U, (∀ i, zkon E U i) → va_T .byte a N f (fun q => E.2.2.size ≤ q) U E.2.2) (hj : x = nI j) (hlt : j < N) (h31 : N < 2147483648) (hd : decode M.2.1 pc = .ok (.baload, 1)) (kk : AW E M h cb sb Q (pc + 1) lv (f j :: st)) : AW E M h cb sb Q pc lv (.int x :: .ref a :: st) := by
  intro p l e R s m args below meth c H locs cells slots ls ok hR hL hc hs hl
  obtain ⟨hx, hb, -, -, -, hown, hmn, -, -, -, hT, hK, hC, -⟩ := id ok
  obtain ⟨cell, g1, g2, g3, g4, g5, g6⟩ := zT_at (hA s hC) hR
  obtain ⟨h1, h2⟩ := zin_ix hj hlt (by omega)
  exact W.bald (v := f j) hx hb g1 g2 g3 (fun q => by rw [h2] at q; rcases q with q | q; exact h1 (Or.inl q); omega) (by rw [h2]; exact g6 j hlt) rfl rfl hd (kk p l e R s m args below meth c H locs cells slots ls ok hR hL hc hs hl)
theorem aw_ialdC {f : Nat → Value} {N : Nat} {x : Int32} (j : Nat) (hA : ∀ U, (∀ i, zkon E U i) → va_T .int a N f (fun q => E.2.2.size ≤ q) U E.2.2) (hj : x = nI j) (hlt : j < N) (h31 : N < 2147483648) (hd : decode M.2.1 pc = .ok (.iaload, 1)) (kk : AW E M h cb sb Q (pc + 1) lv (f j :: st)) : AW E M h cb sb Q pc lv (.int x :: .ref a :: st) := by
  intro p l e R s m args below meth c H locs cells slots ls ok hR hL hc hs hl
  obtain ⟨hx, hb, -, -, -, hown, hmn, -, -, -, hT, hK, hC, -⟩ := id ok
  obtain ⟨cell, g1, g2, g3, g4, g5, g6⟩ := zT_at (hA s hC) hR
  obtain ⟨h1, h2⟩ := zin_ix hj hlt (by omega)
  exact W.iald (v := f j) hx hb g1 g2 g3 (fun q => by rw [h2] at q; rcases q with q | q; exact h1 (Or.inl q); omega) (by rw [h2]; exact g6 j hlt) rfl rfl hd (kk p l e R s m args below meth c H locs cells slots ls ok hR hL hc hs hl)
theorem aw_aaldC {f : Nat → Value} {N : Nat} {x : Int32} {C : String} (j : Nat) (hA : ∀ U, (∀ i, zkon E U i) → va_T (.object C) a N f (fun q => E.2.2.size ≤ q) U E.2.2) (hj : x = nI j) (hlt : j < N) (h31 : N < 2147483648) (hd : decode M.2.1 pc = .ok (.aaload, 1)) (kk : AW E M h cb sb Q (pc + 1) lv (f j :: st)) : AW E M h cb sb Q pc lv (.int x :: .ref a :: st) := by
  intro p l e R s m args below meth c H locs cells slots ls ok hR hL hc hs hl
  obtain ⟨hx, hb, -, -, -, hown, hmn, -, -, -, hT, hK, hC, -⟩ := id ok
  obtain ⟨cell, g1, g2, g3, g4, g5, g6⟩ := zT_at (hA s hC) hR
  obtain ⟨h1, h2⟩ := zin_ix hj hlt (by omega)
  exact W.aald (v := f j) (ty := .object C) hx hb g1 g2 rfl g3 (fun q => by rw [h2] at q; rcases q with q | q; exact h1 (Or.inl q); omega) (by rw [h2]; exact g6 j hlt) rfl rfl hd (kk p l e R s m args below meth c H locs cells slots ls ok hR hL hc hs hl)
theorem aw_alenC {f : Nat → Value} {N : Nat} {ty : FieldType} (hA : ∀ U, (∀ i, zkon E U i) → va_T ty a N f (fun q => E.2.2.size ≤ q) U E.2.2) (hd : decode M.2.1 pc = .ok (.arraylength, 1)) (kk : AW E M h cb sb Q (pc + 1) lv (.int (nI N) :: st)) : AW E M h cb sb Q pc lv (.ref a :: st) := by
  intro p l e R s m args below meth c H locs cells slots ls ok hR hL hc hs hl
  obtain ⟨hx, hb, -, -, -, hown, hmn, -, -, -, hT, hK, hC, -⟩ := id ok
  obtain ⟨cell, g1, g2, g3, g4, g5, g6⟩ := zT_at (hA s hC) hR
  exact W.alen (n := nI N) hx hb g1 g2 g5 rfl rfl hd (kk p l e R s m args below meth c H locs cells slots ls ok hR hL hc hs hl)
/-- the script -/
theorem aw_sld {x : Int32} (j : Nat) (ha : a = E.2.1 14) (hj : x = nI j) (hlt : j < E.2.1 15) (h31 : j < 2147483648) (hd : decode M.2.1 pc = .ok (.iaload, 1)) (kk : AW E M h cb sb Q (pc + 1) lv (.int (Int32.ofNat (E.2.1 (1000 + j))) :: st)) : AW E M h cb sb Q pc lv (.int x :: .ref a :: st) := by
  intro p l e R s m args below meth c H locs cells slots ls ok hR hL hc hs hl
  obtain ⟨hx, hb, -, -, -, hown, hmn, -, -, -, hT, hK, hC, -⟩ := id ok
  subst ha
  obtain ⟨⟨scr, g1, g2, g3, g4, g5⟩, g6⟩ := hC 14
  obtain ⟨h1, h2⟩ := zin_ix hj hlt h31
  exact W.iald (v := .int (Int32.ofNat (E.2.1 (1000 + j)))) hx hb (by rw [hR.1 _ g6]; exact g1) g2 g3 (by rw [g4]; exact h1) (by rw [h2]; exact g5 j hlt) rfl rfl hd (kk p l e R s m args below meth c H locs cells slots ls ok hR hL hc hs hl)
theorem aw_slen (ha : a = E.2.1 14) (hd : decode M.2.1 pc = .ok (.arraylength, 1)) (kk : AW E M h cb sb Q (pc + 1) lv (.int (nI (E.2.1 15)) :: st)) : AW E M h cb sb Q pc lv (.ref a :: st) := by
  intro p l e R s m args below meth c H locs cells slots ls ok hR hL hc hs hl
  obtain ⟨hx, hb, -, -, -, hown, hmn, -, -, -, hT, hK, hC, -⟩ := id ok
  subst ha
  obtain ⟨⟨scr, g1, g2, g3, g4, g5⟩, g6⟩ := hC 14
  exact W.alen (n := nI (E.2.1 15)) hx hb (by rw [hR.1 _ g6]; exact g1) g2 (by rw [g4]; rfl) rfl rfl hd (kk p l e R s m args below meth c H locs cells slots ls ok hR hL hc hs hl)
/-- a static field of a nest mate -/
theorem aw_getsNZ {idx : Nat} {C fn fd host : String} {v : Value} (k i : Nat) (hZ : ∀ U, zkon E U k → va_Z C fn fd v (fun q => E.2.2.size ≤ q) U E.2.2) (hL9 : tables_1[i]? = some (.fieldLinkNest M.1.cls idx C fn fd host)) (hd : decode M.2.1 pc = .ok (.getstatic idx, 3)) (kk : AW E M h cb sb Q (pc + 3) lv (v :: st)) : AW E M h cb sb Q pc lv st := by
  intro p l e R s m args below meth c H locs cells slots ls ok hR hL hc hs hl
  obtain ⟨hx, hb, -, -, -, hown, hmn, -, -, -, hT, hK, hC, -⟩ := id ok
  obtain ⟨cf, kf, fi, f, a, cell, h1, h2, h3, h4, h5, h6, h7, h8⟩ := hZ s (hC k)
  exact va_WgetsN hx hb hown (hT.t i hL9 rfl) h1 h2 h3 h4 (by rw [hR.1 a (Nat.lt_of_not_le h8)]; exact h5) (fun e => by rw [e] at h6; cases h6) h7 rfl hd (kk p l e R s m args below meth c H locs cells slots ls ok hR hL hc hs hl)
end
