-- ===== calls =====
theorem zSteps_weaken {tb : Tables} {e : Env} {mid below : List Frame} {a b : State} (h : Steps tb e (mid ++ below) a b) : Steps tb e below a b := by
  obtain ⟨n, hn, w⟩ := h
  exact ⟨n, hn, fun k hk => (w k hk).weaken⟩
def zar (vs : List Value) : List (Option Value) := (lg_sl vs).map (fun s => match s with | .val v => some v | _ => none)
theorem zar_L (vs : List Value) {n : Nat} (h : (lg_sl vs).length ≤ n) : zL ((lg_sl vs ++ List.replicate (n - (lg_sl vs).length) Slot.unset).toArray) n (zar vs) := by
  obtain ⟨h1, h2, -⟩ := lv_entry vs h
  refine ⟨h1, h2, fun i v hv => ?_⟩
  unfold zar at hv
  rw [List.getElem?_map] at hv
  cases hq : (lg_sl vs)[i]? with
  | none => simp [hq] at hv
  | some y =>
    rw [hq] at hv
    have hi : i < (lg_sl vs).length := (List.getElem?_eq_some_iff.mp hq).1
    rw [List.getElem?_toArray, List.getElem?_append_left hi, hq]
    cases y with
    | val w => simp at hv; rw [hv]
    | unset => simp at hv
    | second => simp at hv
/-- what the tables say of the code of M -/
def zCd (M : zM) (s : State) (mk : MethodId) : Prop := ∃ (methk : Method) (ck : Code), s.methodNamed? M.1 = some mk ∧ s.vm.method? mk = some methk ∧ methk.code = some ck ∧ ck.code = M.2.1 ∧ ck.maxLocals = M.2.2.1 ∧ methk.sig.returnType = M.2.2.2.1 ∧ methk.locks = false ∧
  ck.exceptionTable.toList.map (fun h => (h.startPc, h.endPc, h.handlerPc, h.catchType)) = M.2.2.2.2.2.2 ∧ parseMethodDescriptor M.1.desc = some methk.sig
theorem zCd.of {M : zM} {s : State} {mk : MethodId} {a : Array Value} (hn : s.methodNamed? M.1 = some mk) (h : (Cond.code M.1 M.2.1 M.2.2.1 M.2.2.2.1).before a s = true) (hh : M.2.2.2.2.2.2 = []) : zCd M s mk := by
  obtain ⟨meth, c, h1, h2, h3, h4, h5, h6, h7, h8⟩ := Cond.code_spec hn h
  refine ⟨meth, c, hn, h1, h2, h3, h4, h5, h6, ?_, h8⟩
  rw [hh]
  have : c.exceptionTable = #[] := by simpa using h7
  rw [this]
  rfl
theorem zCd.ofW {M : zM} {s : State} {mk : MethodId} {a : Array Value} (hn : s.methodNamed? M.1 = some mk) (h : (Cond.codeWith M.1 M.2.1 M.2.2.1 M.2.2.2.1 M.2.2.2.2.2.2).before a s = true) : zCd M s mk := by
  obtain ⟨m8, meth, c, hn8, h1, h2, h3, h4, h5, h6, h7, h8⟩ := Cond.codeWith_spec h
  cases Option.some.inj (hn8.symm.trans hn)
  exact ⟨meth, c, hn, h1, h2, h3, h4, h6, h7, h5, h8⟩
section
variable {p : Program} {l : Launch} {e : Env} {R : Room} {s : State} {m : MethodId} {args : Array Value} {below : List Frame} {meth : Method} {c : Code} {T : State} {locs : List Loc} {cells slots : Nat}
/-- into a method and out of it again -/
theorem z_call {E : zE} {M : zM} {h : zH} {c1 s1 : Nat} {Q : zO → zH → Prop} {lv0 : List (Option Value)} (X : Stand p l e R s m args below meth c T locs cells slots) (hx : p.tables.exec = Jvm.exec) (hS : zS E l s) (hR : zRep E h T.heap) {g : JFrame} (hg : g.method = m) (hsize : g.locals.size = c.maxLocals) {ig : Instr} {len : Nat} (hdg : decode c.code g.pc = .ok (ig, len))
    {mk : MethodId} (a : List Value) (hcd : zCd M s mk) (hpl : plainFor M.1 = true) (hlen9 : (lg_sl a).length ≤ M.2.2.1) (hlv : zle lv0 (zar a)) (hfr : M.2.2.2.2.1 + 1 ≤ R.frames) (hlo : 2 * g.monitorRoom + (g.stack.map fun v => v.category).sum + (M.2.2.1 + 11) + M.2.2.2.2.2.1 ≤ R.locals) (hcells : cells + c1 ≤ R.cells) (hslots : slots + s1 ≤ R.slots)
    (kk : AW E M h c1 s1 Q 0 lv0 []) :
    ∃ (T' : State) (L : List Loc) (r : zO) (h' : zH), Stand p l e R s m args below meth c T' (locs ++ L) (cells + c1) (slots + s1) ∧ (∀ q ∈ L, E.2.2.size ≤ q.base) ∧ zRep E h' T'.heap ∧ Q r h' ∧
      (match r with
        | .inl v => Steps p.tables e below (doInvoke e (T.setTop g) [] mk a.toArray).1 (T'.setTop { g with pc := g.pc + len, stack := v.toList ++ g.stack })
        | .inr Y => ∃ (q : Nat) (ce : Cell), T'.heap[q]? = some ce ∧ ce.vm = .none ∧ s.vm.findClass Y = some ce.cls ∧ Steps p.tables e below (doInvoke e (T.setTop g) [] mk a.toArray).1 ((T'.setTop g).pushFrame (.throwing q))) := by
  obtain ⟨methk, ck, hn, hm, hck, h1, h2, h3, h4, h5, -⟩ := hcd
  have hnT := X.named hn
  have hmT : T.vm.method? mk = some methk := by rw [X.warmed.alike.method?]; exact hm
  obtain ⟨Y, hin⟩ := X.into hg hsize hdg a.toArray (R' := { frames := M.2.2.2.2.1, cells := c1, slots := s1, locals := M.2.2.2.2.2.1 }) hmT hck h4 (State.plainMethod.of_named hpl hnT hmT) hfr (by rw [h2]; exact hlo) hcells hslots
  have hUn : (T.calling g mk a.toArray).methodNamed? M.1 = some mk := hnT
  have hok : zOk E M p l { frames := M.2.2.2.2.1, cells := c1, slots := s1, locals := M.2.2.2.2.2.1 } (T.calling g mk a.toArray) mk methk ck :=
    ⟨hx, h1, h2, h3, h4, findClass_of_methodNamed hUn, (name_of_methodNamed hUn hmT).1, Nat.le_refl _, Nat.le_refl _, h5, hS.warm (U := T.calling g mk a.toArray) X.warmed⟩
  rw [h2, lg_entry_eq] at hin Y
  have hT2 : ((T.setTop g).pushFrame (.java (F0 mk 0 (lg_sl a ++ List.replicate (M.2.2.1 - (lg_sl a).length) Slot.unset).toArray []))).heap = T.heap := rfl
  generalize (T.setTop g).pushFrame (.java (F0 mk 0 (lg_sl a ++ List.replicate (M.2.2.1 - (lg_sl a).length) Slot.unset).toArray [])) = T2 at hin Y hT2
  obtain ⟨t, st, o, L, r, h', hrun, hend, hW, hsame, hL, hR', hout, hq⟩ := aw_weak hlv kk p l e _ _ mk a.toArray (.java g :: below) methk ck T.heap [] 0 0 _ hok hR (fun q hq => by cases hq) (by simp) (by simp) (zar_L a hlen9) T2 hT2 Y
  cases r with
  | inl v =>
    have ho : o = .returned v := hout
    subst ho
    obtain ⟨T', X', hW', -, ht⟩ := X.outOf hg hdg hend hW hsame
    refine ⟨T', L, .inl v, h', X', hL, ?_, hq, ?_⟩
    · rw [ht] at hR'; exact hR'
    · show Steps p.tables e below _ (T'.setTop { g with pc := g.pc + len, stack := v.toList ++ g.stack })
      rw [← ht, hin]
      exact zSteps_weaken (mid := [.java g]) st
  | inr Z =>
    obtain ⟨q, ce, ho, hce, hcv, hcl⟩ := hout
    subst ho
    obtain ⟨T', X', hW', -, ht⟩ := X.outOfThrown hg hend hW hsame
    have hhp : T'.heap = t.heap := by rw [ht, Stand.throwing_heap]
    refine ⟨T', L, .inr Z, h', X', hL, by rw [hhp]; exact hR', hq, q, ce, by rw [hhp]; exact hce, hcv, ?_, ?_⟩
    · have hcl' : T.vm.findClass Z = some ce.cls := hcl
      rw [X.warmed.alike.findClass] at hcl'
      exact hcl'
    · rw [← ht, hin]
      exact zSteps_weaken (mid := [.java g]) st

/-- behind the call: the caller goes on, or the exception goes on to its caller -/
theorem z_back {E : zE} {M : zM} {h : zH} {c1 s1 c2 s2 : Nat} {Q Q' : zO → zH → Prop} {pc : Nat} {lv : List (Option Value)} {rest : List Value} {ls : Array Slot} {mk : MethodId} {a : Array Value} {T0 : State}
    (ok : zOk E M p l R s m meth c) (hMh : M.2.2.2.2.2.2 = []) (hL : ∀ q ∈ locs, E.2.2.size ≤ q.base) (hc : cells + (c1 + c2) ≤ R.cells) (hs : slots + (s1 + s2) ≤ R.slots) (hl : zL ls M.2.2.1 lv)
    (hcall : ∃ (T' : State) (L : List Loc) (r : zO) (h' : zH), Stand p l e R s m args below meth c T' (locs ++ L) (cells + c1) (slots + s1) ∧ (∀ q ∈ L, E.2.2.size ≤ q.base) ∧ zRep E h' T'.heap ∧ Q' r h' ∧
      (match r with
        | .inl v => Steps p.tables e below (doInvoke e (T.setTop (F0 m pc ls rest)) [] mk a).1 (T'.setTop { F0 m pc ls rest with pc := (F0 m pc ls rest).pc + 3, stack := v.toList ++ (F0 m pc ls rest).stack })
        | .inr Y => ∃ (q : Nat) (ce : Cell), T'.heap[q]? = some ce ∧ ce.vm = .none ∧ s.vm.findClass Y = some ce.cls ∧ Steps p.tables e below (doInvoke e (T.setTop (F0 m pc ls rest)) [] mk a).1 ((T'.setTop (F0 m pc ls rest)).pushFrame (.throwing q))))
    (hstep : ∀ target, Steps p.tables e below (doInvoke e (T.setTop (F0 m pc ls rest)) [] mk a).1 target → Steps p.tables e below T0 target)
    (hQ : ∀ r h', Q' r h' → match r with | .inl v => AW E M h' c2 s2 Q (pc + 3) lv (v.toList ++ rest) | .inr Y => Q (.inr Y) h') : ∃ t, Steps p.tables e below T0 t ∧ zEnd E R s below Q t := by
  obtain ⟨T', L, r, h', X', hL', hR', hq, hst⟩ := hcall
  have hLL : ∀ q ∈ locs ++ L, E.2.2.size ≤ q.base := fun q hq9 => (List.mem_append.mp hq9).elim (hL q) (hL' q)
  cases r with
  | inl v =>
    have k := hQ _ _ hq
    obtain ⟨t, a1, b1⟩ := k p l e R s m args below meth c T'.heap _ _ _ ls ok hR' hLL (by omega) (by omega) hl T' rfl X'
    exact ⟨t, hstep t (hst.trans a1), b1⟩
  | inr Y =>
    obtain ⟨q, ce, hce, hcv, hcl, hst⟩ := hst
    have k := hQ _ _ hq
    have X2 := stand_widen X' (k := R.cells) (n := R.slots) (by omega) (by omega)
    obtain ⟨-, -, -, -, hlocks, -, -, -, -, hh, -⟩ := ok
    obtain ⟨b1, b2, b3, b4, b5⟩ := X2.leaveThrown q (g := F0 m pc ls rest) rfl rfl rfl (fun x hx => by
      rw [hMh] at hh
      have : x ∈ ([] : List ClassFile.ExceptionTableEntry) := by
        rw [List.map_eq_nil_iff.mp hh] at hx
        exact hx
      cases this) hlocks
    exact ⟨_, hstep _ (hst.trans b1), .threw q, _, .inr Y, h', b2, b3, b4, b5, hLL, hR', ⟨q, ce, rfl, hce, hcv, hcl⟩, k⟩
end
theorem zcat (v : Value) : v.category ≤ 2 := by cases v <;> simp [Value.category]
theorem zcats : ∀ st : List Value, (st.map fun v => v.category).sum ≤ 2 * st.length
  | [] => by simp
  | v :: st => by
    have := zcats st
    have := zcat v
    simp only [List.map_cons, List.sum_cons, List.length_cons]
    omega
def zAft (E : zE) (M : zM) (c2 s2 : Nat) (Q : zO → zH → Prop) (pc : Nat) (lv : List (Option Value)) (rest : List Value) : zO → zH → Prop := fun r h' => match r with
  | .inl v => AW E M h' c2 s2 Q (pc + 3) lv (v.toList ++ rest)
  | .inr Y => Q (.inr Y) h'
/-- numbers and words of a call -/
def zFit (M M' : zM) (na nr : Nat) : Prop := M'.1.cls ≠ "java/lang/invoke/MethodHandle" ∧ M'.1.cls ≠ "java/lang/invoke/VarHandle" ∧ (parseMethodDescriptor M'.1.desc).map (fun d => d.parameters.length) = some na ∧ plainFor M'.1 = true ∧ M'.2.2.2.2.1 + 1 ≤ M.2.2.2.2.1 ∧ 2 * nr + (M'.2.2.1 + 11) + M'.2.2.2.2.2.1 ≤ M.2.2.2.2.2.1
section
variable {E : zE} {M M' : zM} {h : zH} {c1 s1 c2 s2 : Nat} {Q : zO → zH → Prop} {pc idx : Nat} {lv lv0 : List (Option Value)} {st As rest : List Value}
theorem aw_callS (iL iS iC iI : Nat) (hL9 : tables_1[iL]? = some (.methodLink M.1.cls idx M'.1)) (hS9 : tables_1[iS]? = some (.static M'.1)) (hC9 : tables_1[iC]? = some (.code M'.1 M'.2.1 M'.2.2.1 M'.2.2.2.1)) (hI9 : tables_1[iI]? = some (.initialized M'.1.cls)) (hh : M'.2.2.2.2.2.2 = []) (hMh : M.2.2.2.2.2.2 = []) (na nr : Nat) (hna : As.length = na) (hnr : rest.length = nr) (hf : zFit M M' na nr) (hlen9 : (lg_sl As).length ≤ M'.2.2.1) (hlv : zle lv0 (zar As)) (hst : st = As.reverse ++ rest) (hd : decode M.2.1 pc = .ok (.invokestatic idx, 3))
    (kk : AW E M' h c1 s1 (zAft E M c2 s2 Q pc lv rest) 0 lv0 []) : AW E M h (c1 + c2) (s1 + s2) Q pc lv st := by
  subst hst
  intro p l e R s m args below meth c H locs cells slots ls ok hR hL hc hs hl T hT X
  subst hT
  obtain ⟨hx, hb, hml, -, -, hown, -, hfr, hlo, -, hS⟩ := id ok
  subst hna; subst hnr
  obtain ⟨hy1, hy2, hna, hpl, hf1, hf2⟩ := hf
  have hcode := hS.1.t iC hC9 rfl (a := args)
  obtain ⟨mk, hnamed⟩ := Cond.code_named hcode
  have hcd := zCd.of hnamed hcode hh
  obtain ⟨methM, cM, -, hmethM, -, -, -, -, -, -, hsigM⟩ := id hcd
  have hstatic : methM.isStatic = true := Cond.static_spec hnamed hmethM (hS.1.t iS hS9 rfl (a := args))
  obtain ⟨kP, hkP, -⟩ := className_of_methodNamed hnamed
  have hinitP : kP.init = .initialized := Cond.initialized_spec (findClass_of_methodNamed hnamed) hkP (hS.1.t iI hI9 rfl (a := args))
  have hlen : As.length = methM.sig.parameters.length := by rw [hsigM] at hna; exact (Option.some.inj hna).symm
  obtain ⟨vm₁, X₁, hstep₁⟩ := X.invokestatic hx hown (hS.1.t iL hL9 rfl) hnamed hmethM hstatic hkP hinitP ⟨hy1, hy2⟩ (g := F0 m pc ls (As.reverse ++ rest)) rfl (argsL := As) (rest := rest) hlen rfl (by rw [hb]; exact hd)
  have hz := zcats rest
  refine z_back (T := T.setVm vm₁) (h := h) ok hMh hL (c1 := c1) (s1 := s1) hc hs hl (z_call X₁ hx hS hR (g := F0 m pc ls rest) rfl (by rw [hml]; exact hl.1) (by rw [hb]; exact hd) As hcd hpl hlen9 hlv (by omega) (by show 2 * 0 + (rest.map fun v => v.category).sum + _ + _ ≤ _; omega) (by omega) (by omega) kk) (fun target hq => hstep₁ target fun acts => by rw [doInvoke_state]; exact hq) (fun r h' hq => hq)
theorem aw_callSN (iL iS iC iI : Nat) (host : String) (hL9 : tables_1[iL]? = some (.methodLinkNest M.1.cls idx M'.1 host)) (hS9 : tables_1[iS]? = some (.static M'.1)) (hC9 : tables_1[iC]? = some (.code M'.1 M'.2.1 M'.2.2.1 M'.2.2.2.1)) (hI9 : tables_1[iI]? = some (.initialized M'.1.cls)) (hh : M'.2.2.2.2.2.2 = []) (hMh : M.2.2.2.2.2.2 = []) (na nr : Nat) (hna : As.length = na) (hnr : rest.length = nr) (hf : zFit M M' na nr) (hlen9 : (lg_sl As).length ≤ M'.2.2.1) (hlv : zle lv0 (zar As)) (hst : st = As.reverse ++ rest) (hd : decode M.2.1 pc = .ok (.invokestatic idx, 3))
    (kk : AW E M' h c1 s1 (zAft E M c2 s2 Q pc lv rest) 0 lv0 []) : AW E M h (c1 + c2) (s1 + s2) Q pc lv st := by
  subst hst
  intro p l e R s m args below meth c H locs cells slots ls ok hR hL hc hs hl T hT X
  subst hT
  obtain ⟨hx, hb, hml, -, -, hown, -, hfr, hlo, -, hS⟩ := id ok
  subst hna; subst hnr
  obtain ⟨hy1, hy2, hna, hpl, hf1, hf2⟩ := hf
  have hcode := hS.1.t iC hC9 rfl (a := args)
  obtain ⟨mk, hnamed⟩ := Cond.code_named hcode
  have hcd := zCd.of hnamed hcode hh
  obtain ⟨methM, cM, -, hmethM, -, -, -, -, -, -, hsigM⟩ := id hcd
  have hstatic : methM.isStatic = true := Cond.static_spec hnamed hmethM (hS.1.t iS hS9 rfl (a := args))
  obtain ⟨kP, hkP, -⟩ := className_of_methodNamed hnamed
  have hinitP : kP.init = .initialized := Cond.initialized_spec (findClass_of_methodNamed hnamed) hkP (hS.1.t iI hI9 rfl (a := args))
  have hlen : As.length = methM.sig.parameters.length := by rw [hsigM] at hna; exact (Option.some.inj hna).symm
  obtain ⟨vm₁, X₁, hstep₁⟩ := X.invokestaticNest hx hown (hS.1.t iL hL9 rfl) hnamed hmethM hstatic hkP hinitP ⟨hy1, hy2⟩ (g := F0 m pc ls (As.reverse ++ rest)) rfl (argsL := As) (rest := rest) hlen rfl (by rw [hb]; exact hd)
  have hz := zcats rest
  refine z_back (T := T.setVm vm₁) (h := h) ok hMh hL (c1 := c1) (s1 := s1) hc hs hl (z_call X₁ hx hS hR (g := F0 m pc ls rest) rfl (by rw [hml]; exact hl.1) (by rw [hb]; exact hd) As hcd hpl hlen9 hlv (by omega) (by show 2 * 0 + (rest.map fun v => v.category).sum + _ + _ ≤ _; omega) (by omega) (by omega) kk) (fun target hq => hstep₁ target fun acts => by rw [doInvoke_state]; exact hq) (fun r h' hq => hq)
/-- a receiver of the ci-th class -/
theorem z_recv {E : zE} {h : zH} {H : Heap} {s : State} {b ci : Nat} {q : vw_C} (hR : zRep E h H) (hK : va_K E.1 zcl (zty E) s) (hcl : zcl[ci]? = some q) (hci : ci < 10) (hk : h.1 b = ci + 1) : ∃ cell : Cell, H[b]? = some cell ∧ cell.vm.isStatics = false ∧ s.vm.findClass q.1 = some cell.cls := by
  have hP := hR.at (a := b) (by omega)
  rw [zcell_o hk (by omega)] at hP
  exact va_recv hK hP (ci := ci) (q0 := 0) hcl rfl
theorem aw_callV {b : Nat} {q : vw_C} (ci : Nat) (iL iS iC : Nat) (hcl : zcl[ci]? = some q) (hci : ci < 10) (hq : q.1 = M'.1.cls) (hk : h.1 b = ci + 1) (hL9 : tables_1[iL]? = some (.methodLink M.1.cls idx M'.1)) (hS9 : tables_1[iS]? = some (.instanceMethod M'.1)) (hC9 : tables_1[iC]? = some (.code M'.1 M'.2.1 M'.2.2.1 M'.2.2.2.1)) (hsel9 : ∀ U, zT U → (Cond.selects M'.1.cls M'.1 M'.1).before #[] U = true) (hh : M'.2.2.2.2.2.2 = []) (hMh : M.2.2.2.2.2.2 = []) (na nr : Nat) (hna : As.length = na) (hnr : rest.length = nr) (hf : zFit M M' na nr) (hlen9 : (lg_sl (.ref b :: As)).length ≤ M'.2.2.1) (hlv : zle lv0 (zar (.ref b :: As))) (hst : st = As.reverse ++ .ref b :: rest) (hd : decode M.2.1 pc = .ok (.invokevirtual idx, 3))
    (kk : AW E M' h c1 s1 (zAft E M c2 s2 Q pc lv rest) 0 lv0 []) : AW E M h (c1 + c2) (s1 + s2) Q pc lv st := by
  subst hst
  intro p l e R s m args below meth c H locs cells slots ls ok hR hL hc hs hl T hT X
  subst hT
  obtain ⟨hx, hb, hml, -, -, hown, -, hfr, hlo, -, hS⟩ := id ok
  subst hna; subst hnr
  obtain ⟨hy1, hy2, hna, hpl, hf1, hf2⟩ := hf
  obtain ⟨cellB, hcell, hobj, hcls⟩ := z_recv hR hS.2.1 hcl hci hk
  rw [hq] at hcls
  have hcode := hS.1.t iC hC9 rfl (a := args)
  obtain ⟨mk, methM, hnamed, hmethM, hstM, habM⟩ := Cond.instanceMethod_spec (hS.1.t iS hS9 rfl (a := args))
  have hcd := zCd.of hnamed hcode hh
  obtain ⟨methM', cM, -, hmethM', -, -, -, -, -, -, hsigM⟩ := id hcd
  cases hmethM.symm.trans hmethM'
  obtain ⟨c2', r2, m2, q1, q2, q3, q4, kP, hkP, hkPi⟩ := Cond.selects_spec (hsel9 s hS.1)
  cases hcls.symm.trans q1
  cases (State.methodFound?_of_named hnamed ⟨hy1, hy2⟩).symm.trans q2
  cases hnamed.symm.trans q3
  have hselP : selectMethod e.platform s.vm cellB.cls mk = .method mk := by rw [Launch.admits_selectMethod X.admits]; exact q4
  have hlen : As.length = methM.sig.parameters.length := by rw [hsigM] at hna; exact (Option.some.inj hna).symm
  obtain ⟨vm₁, X₁, hstep₁⟩ := X.invokevirtual hx hown (hS.1.t iL hL9 rfl) hnamed hmethM hstM hkP hkPi ⟨hy1, hy2⟩ (a := b) (cell := cellB) hcell
    (fun z h => by rw [h] at hobj; cases hobj) hselP hmethM habM hkP hkPi (g := F0 m pc ls (As.reverse ++ .ref b :: rest)) rfl (argsL := As) (rest := rest) hlen rfl (by rw [hb]; exact hd)
  have hz := zcats rest
  refine z_back (T := T.setVm vm₁) (h := h) ok hMh hL (c1 := c1) (s1 := s1) hc hs hl (z_call X₁ hx hS hR (g := F0 m pc ls rest) rfl (by rw [hml]; exact hl.1) (by rw [hb]; exact hd) (.ref b :: As) hcd hpl hlen9 hlv (by omega) (by show 2 * 0 + (rest.map fun v => v.category).sum + _ + _ ≤ _; omega) (by omega) (by omega) kk) (fun target hq => hstep₁ target fun acts => by rw [doInvoke_state]; exact hq) (fun r h' hq => hq)
theorem aw_callI {b : Nat} (iL iS iC : Nat) (hL9 : tables_1[iL]? = some (.methodLink M.1.cls idx M'.1)) (hS9 : tables_1[iS]? = some (.instanceMethod M'.1)) (hC9 : tables_1[iC]? = some (.code M'.1 M'.2.1 M'.2.2.1 none)) (hr9 : M'.2.2.2.1 = none) (hnm : M'.1.name = "<init>") (hh : M'.2.2.2.2.2.2 = []) (hMh : M.2.2.2.2.2.2 = []) (na nr : Nat) (hna : As.length = na) (hnr : rest.length = nr) (hf : zFit M M' na nr) (hlen9 : (lg_sl (.ref b :: As)).length ≤ M'.2.2.1) (hlv : zle lv0 (zar (.ref b :: As))) (hst : st = As.reverse ++ .ref b :: rest) (hd : decode M.2.1 pc = .ok (.invokespecial idx, 3))
    (kk : AW E M' h c1 s1 (zAft E M c2 s2 Q pc lv rest) 0 lv0 []) : AW E M h (c1 + c2) (s1 + s2) Q pc lv st := by
  subst hst
  intro p l e R s m args below meth c H locs cells slots ls ok hR hL hc hs hl T hT X
  subst hT
  obtain ⟨hx, hb, hml, -, -, hown, -, hfr, hlo, -, hS⟩ := id ok
  subst hna; subst hnr
  obtain ⟨hy1, hy2, hna, hpl, hf1, hf2⟩ := hf
  have hcode := hS.1.t iC hC9 rfl (a := args)
  have hlen : ∀ sig, parseMethodDescriptor M'.1.desc = some sig → As.length = sig.parameters.length := fun sig h9 => by rw [h9] at hna; exact (Option.some.inj hna).symm
  have hpl9 : e.platform.magicAccessors = ({} : Platform).magicAccessors := by rw [X.admits.platform]
  obtain ⟨mk, methM, cM, kP, vm₁, hnamed, hmethM, hcodeM, -, hlocalsM, -, hkP, -, hW₁, hstep₁⟩ := Steps.initColdArgs (e := e) X.here hx X.warmed hpl9 hown hnm ⟨hy1, hy2⟩ (hS.1.t iL hL9 rfl) (hS.1.t iS hS9 rfl) hcode (f := F0 m pc ls (As.reverse ++ .ref b :: rest)) rfl hlen rfl (by rw [hb]; exact hd)
  have X₁ := X.noted hW₁
  have hcd : zCd M' s mk := zCd.of hnamed (a := args) (by rw [hr9]; exact hcode) hh
  have hz := zcats rest
  refine z_back (T := T.setVm vm₁) (h := h) ok hMh hL (c1 := c1) (s1 := s1) hc hs hl (z_call X₁ hx hS hR (g := F0 m pc ls rest) rfl (by rw [hml]; exact hl.1) (by rw [hb]; exact hd) (.ref b :: As) hcd hpl hlen9 hlv (by omega) (by show 2 * 0 + (rest.map fun v => v.category).sum + _ + _ ≤ _; omega) (by omega) (by omega) kk) (fun target hq => hstep₁ target fun acts => by rw [doInvoke_state]; exact hq) (fun r h' hq => hq)
theorem aw_callIN {b : Nat} (iL iS iC : Nat) (host : String) (hL9 : tables_1[iL]? = some (.methodLinkNest M.1.cls idx M'.1 host)) (hS9 : tables_1[iS]? = some (.instanceMethod M'.1)) (hC9 : tables_1[iC]? = some (.code M'.1 M'.2.1 M'.2.2.1 none)) (hr9 : M'.2.2.2.1 = none) (hnm : M'.1.name = "<init>") (hh : M'.2.2.2.2.2.2 = []) (hMh : M.2.2.2.2.2.2 = []) (na nr : Nat) (hna : As.length = na) (hnr : rest.length = nr) (hf : zFit M M' na nr) (hlen9 : (lg_sl (.ref b :: As)).length ≤ M'.2.2.1) (hlv : zle lv0 (zar (.ref b :: As))) (hst : st = As.reverse ++ .ref b :: rest) (hd : decode M.2.1 pc = .ok (.invokespecial idx, 3))
    (kk : AW E M' h c1 s1 (zAft E M c2 s2 Q pc lv rest) 0 lv0 []) : AW E M h (c1 + c2) (s1 + s2) Q pc lv st := by
  subst hst
  intro p l e R s m args below meth c H locs cells slots ls ok hR hL hc hs hl T hT X
  subst hT
  obtain ⟨hx, hb, hml, -, -, hown, -, hfr, hlo, -, hS⟩ := id ok
  subst hna; subst hnr
  obtain ⟨hy1, hy2, hna, hpl, hf1, hf2⟩ := hf
  have hcode := hS.1.t iC hC9 rfl (a := args)
  have hlen : ∀ sig, parseMethodDescriptor M'.1.desc = some sig → As.length = sig.parameters.length := fun sig h9 => by rw [h9] at hna; exact (Option.some.inj hna).symm
  have hpl9 : e.platform.magicAccessors = ({} : Platform).magicAccessors := by rw [X.admits.platform]
  obtain ⟨mk, methM, cM, kP, vm₁, hnamed, hmethM, hcodeM, -, hlocalsM, -, hkP, -, hW₁, hstep₁⟩ := Steps.initColdArgsNest (e := e) X.here hx X.warmed hpl9 hown hnm ⟨hy1, hy2⟩ (hS.1.t iL hL9 rfl) (hS.1.t iS hS9 rfl) hcode (f := F0 m pc ls (As.reverse ++ .ref b :: rest)) rfl hlen rfl (by rw [hb]; exact hd)
  have X₁ := X.noted hW₁
  have hcd : zCd M' s mk := zCd.of hnamed (a := args) (by rw [hr9]; exact hcode) hh
  have hz := zcats rest
  refine z_back (T := T.setVm vm₁) (h := h) ok hMh hL (c1 := c1) (s1 := s1) hc hs hl (z_call X₁ hx hS hR (g := F0 m pc ls rest) rfl (by rw [hml]; exact hl.1) (by rw [hb]; exact hd) (.ref b :: As) hcd hpl hlen9 hlv (by omega) (by show 2 * 0 + (rest.map fun v => v.category).sum + _ + _ ≤ _; omega) (by omega) (by omega) kk) (fun target hq => hstep₁ target fun acts => by rw [doInvoke_state]; exact hq) (fun r h' hq => hq)
/-- Object's own constructor -/
theorem aw_objInit {b cb sb : Nat} (iL : Nat) (hL9 : tables_1[iL]? = some (.methodLink M.1.cls idx objectInit)) (hfr : 1 ≤ M.2.2.2.2.1) (hlo : 2 * rest.length + 12 ≤ M.2.2.2.2.2.1) (hd : decode M.2.1 pc = .ok (.invokespecial idx, 3)) (kk : AW E M h cb sb Q (pc + 3) lv rest) : AW E M h cb sb Q pc lv (.ref b :: rest) := by
  intro p l e R s m args below meth c H locs cells slots ls ok hR hL hc hs hl
  obtain ⟨hx, hb, hml, -, -, hown, -, hfr9, hlo9, -, hS⟩ := id ok
  have hz := zcats rest
  exact W.objInit hx hb hown (hS.1.t iL hL9 rfl) (hS.1.t 35 rfl rfl) (hS.1.t 36 rfl rfl) rfl (by rw [hml]; exact hl.1) rfl hd (by omega) (by show 2 * 0 + (rest.map fun v => v.category).sum + 12 ≤ _; omega) (kk p l e R s m args below meth c H locs cells slots ls ok hR hL hc hs hl)
end
