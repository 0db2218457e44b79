-- ===== calls with handlers, calls on constants =====
/-- the search for a handler, where the first row covers the place and her class takes the object (the row's entry may be resolved only now) -/
def zFinds (e : Env) (s : State) (f : JFrame) (a : Addr) (h : Handler) (vm' : Vm) : Prop :=
  ∀ (Q : Handler → Pre) (E : CtlPost) (d : Bool) (acts : List Action), wp (findHandler f a) Q E e d acts s ↔ Q h d acts (s.setVm vm')
theorem z_find {e : Env} {s : State} {f : JFrame} {a : Addr} {meth : Method} {code : Code} (hm : s.vm.method? f.method = some meth) (hc : meth.code = some code) {x : ClassFile.ExceptionTableEntry} (ht9 : code.exceptionTable.toList = [x]) {c : ClassId} {cell : Cell} (hx : covers x f.pc = true) (h0 : x.catchType ≠ 0)
    (hl : s.vm.ClassLinks e.platform f.method.cls x.catchType c) (hcell : s.heap[a]? = some cell) (hobj : ∀ k, cell.vm ≠ .statics k)
    (hk : ∃ k, s.vm.classes[cell.cls]? = some k) (hcl : ∃ k, s.vm.classes[c]? = some k) (hfit : s.vm.assignable cell.cls c = true) : zFinds e s f a (.found x.handlerPc) (s.vm.noted f.method.cls x.catchType (.cls c)) := by
  intro Q E d acts
  rw [W.findHandler_eq hm hc, ht9]
  simp only [covers] at hx
  obtain ⟨ha, ht⟩ := (resolveClass_links e.toSetting hl).op (op := VmOp.resolveClass f.method.cls x.catchType) rfl
  have hal : s.vm.Alike (s.vm.noted f.method.cls x.catchType (.cls c)) := (Vm.Alike.refl s.vm).noted _ _ _
  obtain ⟨k1, hk1⟩ := hk
  obtain ⟨k2, hk2⟩ := hcl
  obtain ⟨k1', hk1', -⟩ := hal.2.2 _ _ hk1
  obtain ⟨k2', hk2', -⟩ := hal.2.2 _ _ hk2
  have hfit' : (s.vm.noted f.method.cls x.catchType (.cls c)).assignable cell.cls c = true := by rw [hal.assignable]; exact hfit
  simp [findHandler.go, hx, h0, ha, ht, hcell, hobj, hk1', hk2', hfit', VmOp.dirties, VmOp.acts]
theorem z_stepCatch {e : Env} {s : State} {a : Addr} {f : JFrame} {r : List Frame} {pc : Nat} {vm' : Vm} (hfind : zFinds e s f a (.found pc) vm') :
    (stepThrowing e s a (.java f :: r)).Is ((s.setVm vm').setFrames (.java { f with pc := pc, stack := [.ref a] } :: r)) [] := by
  simp only [stepThrowing, searchFrame, vmDo]
  generalize hr : Sem.go _ e false [] s = res
  obtain ⟨as, rfl, ha⟩ := Sem.eq_ok_of hr (a := Handler.found pc) (s' := s.setVm vm') (acts' := []) (by simp [hfind _ _ _ _])
  exact ⟨rfl, ha⟩
theorem z_sff (u : State) (vm' : Vm) (F G : List Frame) : ((u.setFrames F).setVm vm').setFrames G = (u.setVm vm').setFrames G := by
  have h1 : (u.setFrames F).setVm vm' = (u.setVm vm').setFrames F := rfl
  rw [h1, State.setFrames_setFrames]
theorem z_caught {tb : Tables} {e : Env} {s target : State} {g : JFrame} {c : Code} {below : List Frame} {a : Addr} (h : At s g.method c below) {pc : Nat} {vm' : Vm}
    (hfind : zFinds e ((s.setTop g).pushFrame (.throwing a)) g a (.found pc) vm') (hrest : Steps tb e below ((s.setVm vm').setTop { g with pc := pc, stack := [.ref a] }) target) :
    Steps tb e below ((s.setTop g).pushFrame (.throwing a)) target := by
  obtain ⟨hgo, hw⟩ := h.throwing a
  refine Steps.head hgo hw ?_
  rw [stepThread_throwing (frames_entered h.top _), (z_stepCatch (s := (s.setTop g).pushFrame (.throwing a)) hfind).1]
  obtain ⟨g₀, hg⟩ := Option.isSome_iff_exists.mp h.top
  obtain ⟨r, hr⟩ := State.topJava?_eq_some.mp hg
  have hr' : (s.setVm vm').frames = .java g₀ :: r := hr
  rw [State.setTop_of_frames _ hr'] at hrest
  rw [hr, List.tail_cons, State.pushFrame, z_sff, State.setTop_of_frames _ hr, z_sff]
  exact hrest
section
variable {p : Program} {l : Launch} {e : Env} {R : Room} {s : State} {m : MethodId} {args : Array Value} {below : List Frame} {meth : Method} {c : Code} {T : State} {locs : List Loc} {cells slots : Nat}
/-- behind a call in a method with one row in its table, which covers the call: an exception of class X comes to the handler -/
theorem z_backH {E : zE} {M : zM} {h : zH} {c1 s1 c2 s2 : Nat} {Q Q' : zO → zH → Prop} {pc : Nat} {lv lvH : List (Option Value)} {rest : List Value} {ls : Array Slot} {mk : MethodId} {a : Array Value} {T0 : State} {X : String} {b0 b1 hp ct : Nat}
    (ok : zOk E M p l R s m meth c) (hMh : M.2.2.2.2.2.2 = [(b0, b1, hp, ct)]) (hcov : b0 ≤ pc ∧ pc < b1) (hct : ct ≠ 0) (i1 i2 : Nat) (hl9 : tables_1[i1]? = some (.classLink M.1.cls ct X)) (hc9 : tables_1[i2]? = some (.castable X X)) (hL : ∀ q ∈ locs, E.2.2.size ≤ q.base) (hc : cells + (c1 + c2) ≤ R.cells) (hs : slots + (s1 + s2) ≤ R.slots) (hl : zL ls M.2.2.1 lv) (hlv : zle lvH lv)
    (hcall : ∃ (T' : State) (L : List Loc) (r : zO) (h' : zH), Stand p l e R s m args below meth c T' (locs ++ L) (cells + c1) (slots + s1) ∧ (∀ q ∈ L, E.2.2.size ≤ q.base) ∧ zRep E h' T'.heap ∧ Q' r h' ∧
      (match r with
        | .inl v => Steps p.tables e below (doInvoke e (T.setTop (F0 m pc ls rest)) [] mk a).1 (T'.setTop { F0 m pc ls rest with pc := (F0 m pc ls rest).pc + 3, stack := v.toList ++ (F0 m pc ls rest).stack })
        | .inr Y => ∃ (q : Nat) (ce : Cell), T'.heap[q]? = some ce ∧ ce.vm = .none ∧ s.vm.findClass Y = some ce.cls ∧ Steps p.tables e below (doInvoke e (T.setTop (F0 m pc ls rest)) [] mk a).1 ((T'.setTop (F0 m pc ls rest)).pushFrame (.throwing q))))
    (hstep : ∀ target, Steps p.tables e below (doInvoke e (T.setTop (F0 m pc ls rest)) [] mk a).1 target → Steps p.tables e below T0 target)
    (hQ : ∀ r h', Q' r h' → match r with | .inl v => AW E M h' c2 s2 Q (pc + 3) lv (v.toList ++ rest) | .inr Y => Y = X ∧ ∀ q : Nat, AW E M h' c2 s2 Q hp lvH [.ref q]) : ∃ t, Steps p.tables e below T0 t ∧ zEnd E R s below Q t := by
  obtain ⟨T', L, r, h', X', hL', hR', hq, hst⟩ := hcall
  have hLL : ∀ q ∈ locs ++ L, E.2.2.size ≤ q.base := fun q hq9 => (List.mem_append.mp hq9).elim (hL q) (hL' q)
  cases r with
  | inl v =>
    have k := hQ _ _ hq
    obtain ⟨t, a1, b1⟩ := k p l e R s m args below meth c T'.heap _ _ _ ls ok hR' hLL (by omega) (by omega) hl T' rfl X'
    exact ⟨t, hstep t (hst.trans a1), b1⟩
  | inr Y =>
    obtain ⟨q, ce, hce, hcv, hcl, hst⟩ := hst
    obtain ⟨hY, k⟩ := hQ _ _ hq
    subst hY
    obtain ⟨-, -, -, -, hlocks, hown, -, -, -, hh, hS⟩ := id ok
    rw [hMh] at hh
    obtain ⟨x, hx1, hx2⟩ : ∃ x : ClassFile.ExceptionTableEntry, c.exceptionTable.toList = [x] ∧ (x.startPc, x.endPc, x.handlerPc, x.catchType) = (b0, b1, hp, ct) := by
      cases hq9 : c.exceptionTable.toList with
      | nil => rw [hq9] at hh; cases hh
      | cons x t =>
        rw [hq9] at hh
        cases t with
        | nil => exact ⟨x, rfl, by simpa using hh⟩
        | cons y t => simp at hh
    simp only [Prod.mk.injEq] at hx2
    obtain ⟨e1, e2, e3, e4⟩ := hx2
    have hpl : e.platform.magicAccessors = ({} : Platform).magicAccessors := by rw [X'.admits.platform]
    obtain ⟨c3, c4, hc3, hc4, hasg⟩ := Cond.castable_spec (hS.1.t i2 hc9 rfl (a := args))
    cases Option.some.inj (hc3.symm.trans hcl)
    obtain ⟨c5, hc5, hcl5⟩ := Cond.classLink_spec hown (hS.1.t i1 hl9 rfl (a := args)) e.platform hpl
    cases Option.some.inj (hc4.symm.trans hc5)
    obtain ⟨dk, _, _, kt, hd9, _, _, _, _, hkt, _, hopen⟩ := hcl5.here
    obtain ⟨kt', hkt', -⟩ := X'.warmed.alike.2.2 _ _ hkt
    obtain ⟨k0, hk0, -⟩ := Vm.findClass_spec hcl
    obtain ⟨k0', hk0', -⟩ := X'.warmed.alike.2.2 _ _ hk0
    have hcov9 : covers x (F0 m pc ls rest).pc = true := by unfold covers; show (decide (x.startPc ≤ pc) && decide (pc < x.endPc)) = true; rw [e1, e2]; simp [hcov]
    have hfind := z_find (e := e) (s := (T'.setTop (F0 m pc ls rest)).pushFrame (.throwing q)) (f := F0 m pc ls rest) (a := q) (meth := meth) (code := c) X'.method' X'.code hx1 (c := c4) (cell := ce) hcov9 (by rw [e4]; exact hct) (by rw [e4]; exact X'.warmed.classLinks hcl5) hce (fun k h9 => by rw [hcv] at h9; cases h9) ⟨k0', hk0'⟩ ⟨kt', hkt'⟩ (by show T'.vm.assignable ce.cls c4 = true; rw [X'.warmed.alike.assignable]; exact hasg)
    have X2 := X'.noted (X'.warmed.noted hd9 hopen (State.rightAt_cls hcl5))
    have st : ∀ tg, Steps p.tables e below ((T'.setVm (T'.vm.noted m.cls ct (.cls c4))).setTop (F0 m hp ls [.ref q])) tg → Steps p.tables e below ((T'.setTop (F0 m pc ls rest)).pushFrame (.throwing q)) tg := fun tg hr => by
      rw [e3, e4] at hfind
      exact z_caught X'.here hfind hr
    have hl2 : zL ls M.2.2.1 lvH := ⟨hl.1, hl.2.1, fun i v hv => hl.2.2 i v (zle_at _ _ hlv i v hv)⟩
    obtain ⟨t, a1, b1⟩ := k q p l e R s m args below meth c T'.heap _ _ _ ls ok hR' hLL (by omega) (by omega) hl2 (T'.setVm (T'.vm.noted m.cls ct (.cls c4))) rfl X2
    exact ⟨t, hstep t (hst.trans (st t a1)), b1⟩
end
def zAftH (E : zE) (M : zM) (c2 s2 : Nat) (Q : zO → zH → Prop) (pc : Nat) (lv lvH : List (Option Value)) (rest : List Value) (hp : Nat) (X : String) : zO → zH → Prop := fun r h' => match r with
  | .inl v => AW E M h' c2 s2 Q (pc + 3) lv (v.toList ++ rest)
  | .inr Y => Y = X ∧ ∀ q : Nat, AW E M h' c2 s2 Q hp lvH [.ref q]
section
variable {E : zE} {M M' : zM} {h : zH} {c1 s1 c2 s2 : Nat} {Q : zO → zH → Prop} {pc idx : Nat} {lv lvH lv0 : List (Option Value)} {st As rest : List Value}
theorem aw_callVH {b : Nat} {q : vw_C} {X : String} {b0 b1 hp ct : Nat} (ci : Nat) (iL iS iC i1 i2 : Nat) (hcl : zcl[ci]? = some q) (hci : ci < 10) (hq : q.1 = M'.1.cls) (hk : h.1 b = ci + 1) (hL9 : tables_1[iL]? = some (.methodLink M.1.cls idx M'.1)) (hS9 : tables_1[iS]? = some (.instanceMethod M'.1)) (hC9 : tables_1[iC]? = some (.code M'.1 M'.2.1 M'.2.2.1 M'.2.2.2.1)) (hsel9 : ∀ U, zT U → (Cond.selects M'.1.cls M'.1 M'.1).before #[] U = true) (hh : M'.2.2.2.2.2.2 = [])
    (hMh : M.2.2.2.2.2.2 = [(b0, b1, hp, ct)]) (hcov : b0 ≤ pc ∧ pc < b1) (hct : ct ≠ 0) (hl9 : tables_1[i1]? = some (.classLink M.1.cls ct X)) (hc9 : tables_1[i2]? = some (.castable X X)) (hlvH : zle lvH lv)
    (na nr : Nat) (hna : As.length = na) (hnr : rest.length = nr) (hf : zFit M M' na nr) (hlen9 : (lg_sl (.ref b :: As)).length ≤ M'.2.2.1) (hlv : zle lv0 (zar (.ref b :: As))) (hst : st = As.reverse ++ .ref b :: rest) (hd : decode M.2.1 pc = .ok (.invokevirtual idx, 3))
    (kk : AW E M' h c1 s1 (zAftH E M c2 s2 Q pc lv lvH rest hp X) 0 lv0 []) : AW E M h (c1 + c2) (s1 + s2) Q pc lv st := by
  subst hst
  intro p l e R s m args below meth c H locs cells slots ls ok hR hL hc hs hl T hT XX
  subst hT
  obtain ⟨hx, hb, hml, -, -, hown, -, hfr, hlo, -, hS⟩ := id ok
  subst hna; subst hnr
  obtain ⟨hy1, hy2, hna, hpl, hf1, hf2⟩ := hf
  obtain ⟨cellB, hcell, hobj, hcls⟩ := z_recv hR hS.2.1 hcl hci hk
  rw [hq] at hcls
  have hcode := hS.1.t iC hC9 rfl (a := args)
  obtain ⟨mk, methM, hnamed, hmethM, hstM, habM⟩ := Cond.instanceMethod_spec (hS.1.t iS hS9 rfl (a := args))
  have hcd := zCd.of hnamed hcode hh
  obtain ⟨methM', cM, -, hmethM', -, -, -, -, -, -, hsigM⟩ := id hcd
  cases hmethM.symm.trans hmethM'
  obtain ⟨c2', r2, m2, q1, q2, q3, q4, kP, hkP, hkPi⟩ := Cond.selects_spec (hsel9 s hS.1)
  cases hcls.symm.trans q1
  cases (State.methodFound?_of_named hnamed ⟨hy1, hy2⟩).symm.trans q2
  cases hnamed.symm.trans q3
  have hselP : selectMethod e.platform s.vm cellB.cls mk = .method mk := by rw [Launch.admits_selectMethod XX.admits]; exact q4
  have hlen : As.length = methM.sig.parameters.length := by rw [hsigM] at hna; exact (Option.some.inj hna).symm
  obtain ⟨vm₁, X₁, hstep₁⟩ := XX.invokevirtual hx hown (hS.1.t iL hL9 rfl) hnamed hmethM hstM hkP hkPi ⟨hy1, hy2⟩ (a := b) (cell := cellB) hcell
    (fun z h => by rw [h] at hobj; cases hobj) hselP hmethM habM hkP hkPi (g := F0 m pc ls (As.reverse ++ .ref b :: rest)) rfl (argsL := As) (rest := rest) hlen rfl (by rw [hb]; exact hd)
  have hz := zcats rest
  refine z_backH (T := T.setVm vm₁) (h := h) (X := X) (hp := hp) ok hMh hcov hct i1 i2 hl9 hc9 hL (c1 := c1) (s1 := s1) hc hs hl hlvH (z_call X₁ hx hS hR (g := F0 m pc ls rest) rfl (by rw [hml]; exact hl.1) (by rw [hb]; exact hd) (.ref b :: As) hcd hpl hlen9 hlv (by omega) (by show 2 * 0 + (rest.map fun v => v.category).sum + _ + _ ≤ _; omega) (by omega) (by omega) kk) (fun target hq => hstep₁ target fun acts => by rw [doInvoke_state]; exact hq) (fun r h' hq => hq)
/-- a callee with a table of its own -/
theorem aw_callVW {b : Nat} {q : vw_C} (ci : Nat) (iL iS iC : Nat) (hcl : zcl[ci]? = some q) (hci : ci < 10) (hq : q.1 = M'.1.cls) (hk : h.1 b = ci + 1) (hL9 : tables_1[iL]? = some (.methodLink M.1.cls idx M'.1)) (hS9 : tables_1[iS]? = some (.instanceMethod M'.1)) (hC9 : tables_1[iC]? = some (.codeWith M'.1 M'.2.1 M'.2.2.1 M'.2.2.2.1 M'.2.2.2.2.2.2)) (hsel9 : ∀ U, zT U → (Cond.selects M'.1.cls M'.1 M'.1).before #[] U = true) (hMh : M.2.2.2.2.2.2 = []) (na nr : Nat) (hna : As.length = na) (hnr : rest.length = nr) (hf : zFit M M' na nr) (hlen9 : (lg_sl (.ref b :: As)).length ≤ M'.2.2.1) (hlv : zle lv0 (zar (.ref b :: As))) (hst : st = As.reverse ++ .ref b :: rest) (hd : decode M.2.1 pc = .ok (.invokevirtual idx, 3))
    (kk : AW E M' h c1 s1 (zAft E M c2 s2 Q pc lv rest) 0 lv0 []) : AW E M h (c1 + c2) (s1 + s2) Q pc lv st := by
  subst hst
  intro p l e R s m args below meth c H locs cells slots ls ok hR hL hc hs hl T hT X
  subst hT
  obtain ⟨hx, hb, hml, -, -, hown, -, hfr, hlo, -, hS⟩ := id ok
  subst hna; subst hnr
  obtain ⟨hy1, hy2, hna, hpl, hf1, hf2⟩ := hf
  obtain ⟨cellB, hcell, hobj, hcls⟩ := z_recv hR hS.2.1 hcl hci hk
  rw [hq] at hcls
  have hcode := hS.1.t iC hC9 rfl (a := args)
  obtain ⟨mk, methM, hnamed, hmethM, hstM, habM⟩ := Cond.instanceMethod_spec (hS.1.t iS hS9 rfl (a := args))
  have hcd := zCd.ofW hnamed hcode
  obtain ⟨methM', cM, -, hmethM', -, -, -, -, -, -, hsigM⟩ := id hcd
  cases hmethM.symm.trans hmethM'
  obtain ⟨c2', r2, m2, q1, q2, q3, q4, kP, hkP, hkPi⟩ := Cond.selects_spec (hsel9 s hS.1)
  cases hcls.symm.trans q1
  cases (State.methodFound?_of_named hnamed ⟨hy1, hy2⟩).symm.trans q2
  cases hnamed.symm.trans q3
  have hselP : selectMethod e.platform s.vm cellB.cls mk = .method mk := by rw [Launch.admits_selectMethod X.admits]; exact q4
  have hlen : As.length = methM.sig.parameters.length := by rw [hsigM] at hna; exact (Option.some.inj hna).symm
  obtain ⟨vm₁, X₁, hstep₁⟩ := X.invokevirtual hx hown (hS.1.t iL hL9 rfl) hnamed hmethM hstM hkP hkPi ⟨hy1, hy2⟩ (a := b) (cell := cellB) hcell
    (fun z h => by rw [h] at hobj; cases hobj) hselP hmethM habM hkP hkPi (g := F0 m pc ls (As.reverse ++ .ref b :: rest)) rfl (argsL := As) (rest := rest) hlen rfl (by rw [hb]; exact hd)
  have hz := zcats rest
  refine z_back (T := T.setVm vm₁) (h := h) ok hMh hL (c1 := c1) (s1 := s1) hc hs hl (z_call X₁ hx hS hR (g := F0 m pc ls rest) rfl (by rw [hml]; exact hl.1) (by rw [hb]; exact hd) (.ref b :: As) hcd hpl hlen9 hlv (by omega) (by show 2 * 0 + (rest.map fun v => v.category).sum + _ + _ ≤ _; omega) (by omega) (by omega) kk) (fun target hq => hstep₁ target fun acts => by rw [doInvoke_state]; exact hq) (fun r h' hq => hq)
theorem aw_callSW (iL iS iC iI : Nat) (hL9 : tables_1[iL]? = some (.methodLink M.1.cls idx M'.1)) (hS9 : tables_1[iS]? = some (.static M'.1)) (hC9 : tables_1[iC]? = some (.codeWith M'.1 M'.2.1 M'.2.2.1 M'.2.2.2.1 M'.2.2.2.2.2.2)) (hI9 : tables_1[iI]? = some (.initialized M'.1.cls)) (hMh : M.2.2.2.2.2.2 = []) (na nr : Nat) (hna : As.length = na) (hnr : rest.length = nr) (hf : zFit M M' na nr) (hlen9 : (lg_sl As).length ≤ M'.2.2.1) (hlv : zle lv0 (zar As)) (hst : st = As.reverse ++ rest) (hd : decode M.2.1 pc = .ok (.invokestatic idx, 3))
    (kk : AW E M' h c1 s1 (zAft E M c2 s2 Q pc lv rest) 0 lv0 []) : AW E M h (c1 + c2) (s1 + s2) Q pc lv st := by
  subst hst
  intro p l e R s m args below meth c H locs cells slots ls ok hR hL hc hs hl T hT X
  subst hT
  obtain ⟨hx, hb, hml, -, -, hown, -, hfr, hlo, -, hS⟩ := id ok
  subst hna; subst hnr
  obtain ⟨hy1, hy2, hna, hpl, hf1, hf2⟩ := hf
  have hcode := hS.1.t iC hC9 rfl (a := args)
  obtain ⟨mk, methM, cM, hnamed, -⟩ := Cond.codeWith_spec hcode
  have hcd := zCd.ofW hnamed hcode
  obtain ⟨methM, cM, -, hmethM, -, -, -, -, -, -, hsigM⟩ := id hcd
  have hstatic : methM.isStatic = true := Cond.static_spec hnamed hmethM (hS.1.t iS hS9 rfl (a := args))
  obtain ⟨kP, hkP, -⟩ := className_of_methodNamed hnamed
  have hinitP : kP.init = .initialized := Cond.initialized_spec (findClass_of_methodNamed hnamed) hkP (hS.1.t iI hI9 rfl (a := args))
  have hlen : As.length = methM.sig.parameters.length := by rw [hsigM] at hna; exact (Option.some.inj hna).symm
  obtain ⟨vm₁, X₁, hstep₁⟩ := X.invokestatic hx hown (hS.1.t iL hL9 rfl) hnamed hmethM hstatic hkP hinitP ⟨hy1, hy2⟩ (g := F0 m pc ls (As.reverse ++ rest)) rfl (argsL := As) (rest := rest) hlen rfl (by rw [hb]; exact hd)
  have hz := zcats rest
  refine z_back (T := T.setVm vm₁) (h := h) ok hMh hL (c1 := c1) (s1 := s1) hc hs hl (z_call X₁ hx hS hR (g := F0 m pc ls rest) rfl (by rw [hml]; exact hl.1) (by rw [hb]; exact hd) As hcd hpl hlen9 hlv (by omega) (by show 2 * 0 + (rest.map fun v => v.category).sum + _ + _ ≤ _; omega) (by omega) (by omega) kk) (fun target hq => hstep₁ target fun acts => by rw [doInvoke_state]; exact hq) (fun r h' hq => hq)
/-- a call on a constant object -/
theorem aw_callVC {b : Nat} (iL iS iC : Nat) (hO : ∀ U, (∀ i, zkon E U i) → va_O M'.1.cls b (fun q => E.2.2.size ≤ q) U E.2.2) (hL9 : tables_1[iL]? = some (.methodLink M.1.cls idx M'.1)) (hS9 : tables_1[iS]? = some (.instanceMethod M'.1)) (hC9 : tables_1[iC]? = some (.code M'.1 M'.2.1 M'.2.2.1 M'.2.2.2.1)) (hsel9 : ∀ U, zT U → (Cond.selects M'.1.cls M'.1 M'.1).before #[] U = true) (hh : M'.2.2.2.2.2.2 = []) (hMh : M.2.2.2.2.2.2 = []) (na nr : Nat) (hna : As.length = na) (hnr : rest.length = nr) (hf : zFit M M' na nr) (hlen9 : (lg_sl (.ref b :: As)).length ≤ M'.2.2.1) (hlv : zle lv0 (zar (.ref b :: As))) (hst : st = As.reverse ++ .ref b :: rest) (hd : decode M.2.1 pc = .ok (.invokevirtual idx, 3))
    (kk : AW E M' h c1 s1 (zAft E M c2 s2 Q pc lv rest) 0 lv0 []) : AW E M h (c1 + c2) (s1 + s2) Q pc lv st := by
  subst hst
  intro p l e R s m args below meth c H locs cells slots ls ok hR hL hc hs hl T hT X
  subst hT
  obtain ⟨hx, hb, hml, -, -, hown, -, hfr, hlo, -, hS⟩ := id ok
  subst hna; subst hnr
  obtain ⟨hy1, hy2, hna, hpl, hf1, hf2⟩ := hf
  obtain ⟨cellB, hcell0, hobj, hcls, hnA⟩ := hO s hS.2.2.1
  have hcell : T.heap[b]? = some cellB := by rw [hR.1 b (Nat.lt_of_not_le hnA)]; exact hcell0
  have hcode := hS.1.t iC hC9 rfl (a := args)
  obtain ⟨mk, methM, hnamed, hmethM, hstM, habM⟩ := Cond.instanceMethod_spec (hS.1.t iS hS9 rfl (a := args))
  have hcd := zCd.of hnamed hcode hh
  obtain ⟨methM', cM, -, hmethM', -, -, -, -, -, -, hsigM⟩ := id hcd
  cases hmethM.symm.trans hmethM'
  obtain ⟨c2', r2, m2, q1, q2, q3, q4, kP, hkP, hkPi⟩ := Cond.selects_spec (hsel9 s hS.1)
  cases hcls.symm.trans q1
  cases (State.methodFound?_of_named hnamed ⟨hy1, hy2⟩).symm.trans q2
  cases hnamed.symm.trans q3
  have hselP : selectMethod e.platform s.vm cellB.cls mk = .method mk := by rw [Launch.admits_selectMethod X.admits]; exact q4
  have hlen : As.length = methM.sig.parameters.length := by rw [hsigM] at hna; exact (Option.some.inj hna).symm
  obtain ⟨vm₁, X₁, hstep₁⟩ := X.invokevirtual hx hown (hS.1.t iL hL9 rfl) hnamed hmethM hstM hkP hkPi ⟨hy1, hy2⟩ (a := b) (cell := cellB) hcell
    (fun z h => by rw [h] at hobj; cases hobj) hselP hmethM habM hkP hkPi (g := F0 m pc ls (As.reverse ++ .ref b :: rest)) rfl (argsL := As) (rest := rest) hlen rfl (by rw [hb]; exact hd)
  have hz := zcats rest
  refine z_back (T := T.setVm vm₁) (h := h) ok hMh hL (c1 := c1) (s1 := s1) hc hs hl (z_call X₁ hx hS hR (g := F0 m pc ls rest) rfl (by rw [hml]; exact hl.1) (by rw [hb]; exact hd) (.ref b :: As) hcd hpl hlen9 hlv (by omega) (by show 2 * 0 + (rest.map fun v => v.category).sum + _ + _ ≤ _; omega) (by omega) (by omega) kk) (fun target hq => hstep₁ target fun acts => by rw [doInvoke_state]; exact hq) (fun r h' hq => hq)
end
