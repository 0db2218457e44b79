-- ===== the heap's rows =====
def zup {α : Type} (f : Nat → Nat → α) (a k : Nat) (x : α) : Nat → Nat → α := va_up f a (va_up (f a) k x)
theorem zup_self {α : Type} (f : Nat → Nat → α) (a k : Nat) (x : α) : zup f a k x a = va_up (f a) k x := by simp [zup, va_up]
theorem zup_ne {α : Type} (f : Nat → Nat → α) {a b : Nat} (k : Nat) (x : α) (hb : b ≠ a) : zup f a k x b = f b := by simp [zup, va_up, hb]
theorem zup_at {α : Type} (f : Nat → Nat → α) (a k : Nat) (x : α) (p q : Nat) : zup f a k x p q = if p = a ∧ q = k then x else f p q := by
  unfold zup va_up
  by_cases h1 : p = a
  · subst h1
    by_cases h2 : q = k <;> simp [h2]
  · simp [h1]
theorem zRep.at {E : zE} {h : zH} {H : Heap} (hR : zRep E h H) {a : Nat} (ha : h.1 a ≠ 0) : va_P E.1 zcl [(a, zcell E h a)] H := fun k q hq => by
  have hz : k < 1 := (List.getElem?_eq_some_iff.mp hq).1
  rw [show k = 0 by omega] at hq
  cases hq
  exact (hR.2.2 a ha).2
theorem zRep.put {E : zE} {h h' : zH} {H H' : Heap} {a : Nat} (hR : zRep E h H) (ha : h.1 a ≠ 0) (hK : h'.1 = h.1) (hz : H'.size = H.size) (ho : ∀ q : Nat, q ≠ a → H'[q]? = H[q]?) (hc : va_at E.1 zcl (a, zcell E h' a) H') (hs : ∀ b : Nat, b ≠ a → zcell E h' b = zcell E h b) : zRep E h' H' := by
  have hB := (hR.2.2 a ha).1
  refine ⟨fun q hq => by rw [ho q (by omega)]; exact hR.1 q hq, by rw [hz]; exact hR.2.1, fun b hb => ?_⟩
  rw [hK] at hb
  refine ⟨(hR.2.2 b hb).1, ?_⟩
  by_cases e : b = a
  · subst e; exact hc
  · rw [hs b e]
    exact (hR.2.2 b hb).2.kept (ho b e)
theorem zRep.new {E : zE} {h h' : zH} {H H' : Heap} {k : Nat} (hR : zRep E h H) (hK : h'.1 = va_up h.1 H.size k) (hz : H'.size = H.size + 1) (ho : ∀ q : Nat, q < H.size → H'[q]? = H[q]?) (hc : va_at E.1 zcl (H.size, zcell E h' H.size) H') (hs : ∀ b : Nat, b ≠ H.size → zcell E h' b = zcell E h b) : zRep E h' H' := by
  refine ⟨fun q hq => by rw [ho q (Nat.lt_of_lt_of_le hq hR.2.1)]; exact hR.1 q hq, by rw [hz]; exact Nat.le_succ_of_le hR.2.1, fun b hb => ?_⟩
  by_cases e : b = H.size
  · subst e; exact ⟨hR.2.1, hc⟩
  · rw [hK, va_up_ne _ _ e] at hb
    have hb2 := hR.2.2 b hb
    refine ⟨hb2.1, ?_⟩
    rw [hs b e]
    exact hb2.2.kept (ho b hb2.2.lt)
theorem zRep.fresh {E : zE} {h : zH} {H : Heap} (hR : zRep E h H) : h.1 H.size = 0 := by
  by_cases e : h.1 H.size = 0
  · exact e
  · exact absurd (hR.2.2 _ e).2.lt (Nat.lt_irrefl _)
theorem zcell_o {E : zE} {h : zH} {a k : Nat} (hk : h.1 a = k) (h20 : k < 20) : zcell E h a = .inr (k - 1, zfs k (h.2.2.1 a) (h.2.2.2.1 a)) := by
  unfold zcell
  rw [hk, if_neg (by omega), if_neg (by omega), if_neg (by omega), if_neg (by omega)]
theorem zcell_b {E : zE} {h : zH} {a : Nat} (hk : h.1 a = 20) : zcell E h a = .inl (E.2.1 0, h.2.1 a, .inl (h.2.2.1 a)) := by simp [zcell, hk]
theorem zcell_i {E : zE} {h : zH} {a : Nat} (hk : h.1 a = 21) : zcell E h a = .inl (E.2.1 1, h.2.1 a, .inl (h.2.2.1 a)) := by simp [zcell, hk]
theorem zcell_j {E : zE} {h : zH} {a : Nat} (hk : h.1 a = 22) : zcell E h a = .inl (E.2.1 2, h.2.1 a, .inr (.inl (h.2.2.2.2 a))) := by simp [zcell, hk]
theorem zcell_r {E : zE} {h : zH} {a : Nat} (hk : h.1 a = 23) : zcell E h a = .inl (E.2.1 3, h.2.1 a, .inr (.inr (.inr (.inr (h.2.2.2.1 a))))) := by simp [zcell, hk]
abbrev ztb : List Cond := tables_1.filter zgd
theorem zT.all {U : State} (h : zT U) {a : Array Value} : ∀ w ∈ ztb, w.before a U = true := fun w hw => h w (List.mem_append_right _ (List.mem_filter.mp hw).1) (List.mem_filter.mp hw).2 a
theorem zin_good {C : String} {T : u_T} {N : Nat} (hin : ∀ w ∈ u_ws C T N, w ∈ tables_1) : ∀ w ∈ u_ws C T N, w ∈ ztb := fun w hw => List.mem_filter.mpr ⟨hin w hw, by
  obtain ⟨j, -, rfl⟩ := List.mem_map.mp hw
  unfold u_lay
  split <;> rfl⟩
section
variable {E : zE} {M : zM} {K n : Nat → Nat} {I : Nat → Nat → Int32} {F : Nat → Nat → Option Nat} {J : Nat → Nat → Int64} {h : zH} {cb sb : Nat} {Q : zO → zH → Prop} {pc : Nat} {lv : List (Option Value)} {st : List Value} {a : Nat}
theorem aw_get {idx N : Nat} (ci k : Nat) {C ref : String} {T : u_T} {v : Value} (hcl : zcl[ci]? = some (C, T, N)) (hci : ci < 10) (hkN : k < N) (hin : ∀ w ∈ u_ws C T N, w ∈ tables_1) (i : Nat) (hlink : tables_1[i]? = some (.fieldLink M.1.cls idx ref (T k).2.1 (T k).2.2.1)) (hsame : ∀ s : State, zT s → ∀ x, s.fieldFound? (T k).1 (T k).2.1 (T k).2.2.1 = some x → s.fieldFound? ref (T k).2.1 (T k).2.2.1 = some x) (hk : h.1 a = ci + 1) (hv : (zfs (ci + 1) (h.2.2.1 a) (h.2.2.2.1 a))[k]? = some v) (hd : decode M.2.1 pc = .ok (.getfield idx, 3))
    (kk : AW E M h cb sb Q (pc + 3) lv (v :: st)) : AW E M h cb sb Q pc lv (.ref a :: st) := by
  intro p l e R s m args below meth c H locs cells slots ls ok hR hL hc hs hl
  obtain ⟨hx, hb, -, -, -, hown, -, -, -, -, hT, hK, -⟩ := id ok
  have hP := hR.at (a := a) (by omega)
  rw [zcell_o hk (by omega)] at hP
  exact va_get (D := E.1) (cl := zcl) (ci := ci) hx hb hT.all (zin_good hin) hown hK hP 0 rfl hcl k hkN (hT.t i hlink rfl) (hsame s hT) hv hd (kk p l e R s m args below meth c H locs cells slots ls ok hR hL hc hs hl)
/-- a field is written: fin: it is final, and this is its class's constructor -/
theorem aw_put {idx N : Nat} (ci k : Nat) {C ref : String} {T : u_T} {v : Value} {I' : Nat → Nat → Int32} {F' : Nat → Nat → Option Nat} (ty0 : Nat → FieldType) (hcl : zcl[ci]? = some (C, T, N)) (hci : ci < 10) (hkN : k < N) (hin : ∀ w ∈ u_ws C T N, w ∈ tables_1) (hty : ∀ k, k < N → parseFieldDescriptor (T k).2.2.1 = some (ty0 k)) (hnm : ∀ a, a < N → ∀ b, b < N → a ≠ b → (T a).2.1 ≠ (T b).2.1) (i : Nat) (hlink : tables_1[i]? = some (.fieldLink M.1.cls idx ref (T k).2.1 (T k).2.2.1)) (hsame : ∀ s : State, zT s → ∀ x, s.fieldFound? (T k).1 (T k).2.1 (T k).2.2.1 = some x → s.fieldFound? ref (T k).2.1 (T k).2.2.1 = some x)
    (hfin : (T k).2.2.2 = false ∨ ((T k).2.2.2 = true ∧ M.1.name = "<init>" ∧ (T k).1 = M.1.cls)) (hl9 : k < (zfs (ci + 1) (I a) (F a)).length)
    (hIo : ∀ b, b ≠ a → I' b = I b) (hFo : ∀ b, b ≠ a → F' b = F b) (hset : zfs (ci + 1) (I' a) (F' a) = (zfs (ci + 1) (I a) (F a)).set k v) (hk : K a = ci + 1) (hn : narrow (ty0 k) v = v) (hfit : fits (ty0 k) v = true)
    (hd : decode M.2.1 pc = .ok (.putfield idx, 3)) (kk : AW E M (K, n, I', F', J) cb sb Q (pc + 3) lv st) : AW E M (K, n, I, F, J) cb sb Q pc lv (v :: .ref a :: st) := by
  intro p l e R s m args below meth c H locs cells slots ls ok hR hL hc hs hl
  obtain ⟨hx, hb, -, -, -, hown, hmn, -, -, -, hT, hK, -⟩ := id ok
  have ha : (K, n, I, F, J).1 a ≠ 0 := by show K a ≠ 0; omega
  have hP := hR.at ha
  rw [zcell_o (h := (K, n, I, F, J)) (k := ci + 1) hk (by omega)] at hP
  have hap := va_apart (own := M.1.cls) hT.all (zin_good hin) ty0 hty hnm hK hcl (args := args)
  obtain ⟨r, h1, cell, q1, q2, q3, q4⟩ := hP 0 _ rfl
  have hr : r = (C, T, N) := Option.some.inj (h1.symm.trans hcl)
  subst hr
  obtain ⟨hS, hfc, kC, hkC, hkind⟩ := hK.1 ci _ hcl
  obtain ⟨cf, kf, fi, f, hi, hsl⟩ := hS k hkN
  have hlay := hT.all (a := args) _ (zin_good hin _ (u_in_lay hkN))
  unfold u_lay at hlay
  have hst := (u_facts hfc hkC (u_lays (args := args) hT.all (zin_good hin) hkN) hi).1
  have hgo : ∀ H' : Heap, H'[a]? = some (cell.setSlot f.slot v) → H'.size = H.size → (∀ q, q ≠ a → H'[q]? = H[q]?) → W p l e R s m args below meth c H' (locs ++ [⟨a, f.slot⟩]) cells slots (zEnd E R s below Q) (F0 m (pc + 3) ls st) := by
    intro H' e1 e2 e3
    rw [hsl] at e1
    refine kk p l e R s m args below meth c H' _ cells slots ls ok (hR.put ha rfl e2 e3 ?_ ?_) ?_ hc hs hl
    · rw [zcell_o (h := (K, n, I', F', J)) (k := ci + 1) hk (by omega)]
      show va_at E.1 zcl (a, .inr (ci, zfs (ci + 1) (I' a) (F' a))) H'
      rw [hset]
      exact ⟨_, hcl, t_OB.to (V := updV (vp_V (zfs (ci + 1) (I a) (F a))) k v) ⟨_, e1, q2, q3, t_set q4 hap hkN v⟩ (fun j _ => vp_updV_set hl9 v j)⟩
    · intro b hb2
      show zcell E (K, n, I', F', J) b = zcell E (K, n, I, F, J) b
      unfold zcell
      show _ = _
      simp only [hIo b hb2, hFo b hb2]
    · intro q hq
      rcases List.mem_append.mp hq with h5 | h5
      · exact hL q h5
      · rw [List.mem_singleton.mp h5]
        exact (hR.2.2 a ha).1
  rcases hfin with hf | ⟨hf, hf2, hf3⟩
  · rw [if_neg (by rw [hf]; decide)] at hlay
    have h6 := u_store hfc hkC hkind hlay hi (hty k hkN) hn hfit
    exact W.putK hx hb (f := f) ⟨hown, hT.t i hlink rfl, ⟨_, _, _, hsame s hT _ hi⟩, hst⟩ (by rw [q2]; exact h6) q1 q3 (by rw [hsl]; exact k2_hasslot (q4 k hkN)) rfl rfl hd hgo
  · rw [if_pos hf] at hlay
    have hcf : m.cls = cf := by
      obtain ⟨_, _, c', _, _, _, -, -, hf', -, -, -, hown2, -⟩ := Cond.laysFinal_spec hlay
      have e1 : c' = cf := by have := hi.symm.trans hf'; simp at this; exact this.1.symm
      rw [hf3] at hown2
      rw [← e1]; exact Option.some.inj (hown.symm.trans hown2)
    have h6 := u_fits hfc hkC hkind (Or.inr hlay) hi (hty k hkN) hn hfit
    exact W.putFinK hx hb hown (hT.t i hlink rfl) (hsame s hT _ hi) hst hcf (hmn.trans hf2) (by rw [q2]; exact h6) q1 q3 (by rw [hsl]; exact k2_hasslot (q4 k hkN)) rfl rfl hd hgo
theorem zin_ix {x : Int32} {j N : Nat} (hj : x = nI j) (hlt : j < N) (h31 : j < 2147483648) : vp_in x N ∧ x.toNatClampNeg = j := by
  subst hj
  have hc : (nI j).toNatClampNeg = j := nI_clamp h31
  refine ⟨fun q => ?_, hc⟩
  rcases q with q | q
  · exact nI_pos h31 q
  · rw [hc] at q; omega
theorem aw_iaload {x : Int32} (j : Nat) (hk : K a = 21) (hj : x = nI j) (hlt : j < n a) (h31 : j < 2147483648) (hd : decode M.2.1 pc = .ok (.iaload, 1))
    (kk : AW E M (K, n, I, F, J) cb sb Q (pc + 1) lv (.int (I a j) :: st)) : AW E M (K, n, I, F, J) cb sb Q pc lv (.int x :: .ref a :: st) := by
  intro p l e R s m args below meth c H locs cells slots ls ok hR hL hc hs hl
  obtain ⟨hx, hb, -, -, -, hown, hmn, -, -, -, hT, hK, -⟩ := id ok
  have hP := hR.at (a := a) (by show K a ≠ 0; omega)
  rw [zcell_i (h := (K, n, I, F, J)) hk] at hP
  obtain ⟨h1, h2⟩ := zin_ix hj hlt h31
  have := va_iald (D := E.1) (cl := zcl) (pc := pc) (ls := ls) (rest := st) (Q := zEnd E R s below Q) (locs := locs) (cells := cells) (slots := slots) (below := below) (p := p) (l := l) (e := e) (R := R) (m := m) (args := args) (meth := meth) (c := c) hx hb hK hP 0 1 rfl rfl h1 hd
  rw [h2] at this
  exact this (kk p l e R s m args below meth c H locs cells slots ls ok hR hL hc hs hl)
theorem aw_baload {x : Int32} (j : Nat) (hk : K a = 20) (hj : x = nI j) (hlt : j < n a) (h31 : j < 2147483648) (hd : decode M.2.1 pc = .ok (.baload, 1))
    (kk : AW E M (K, n, I, F, J) cb sb Q (pc + 1) lv (.int (I a j) :: st)) : AW E M (K, n, I, F, J) cb sb Q pc lv (.int x :: .ref a :: st) := by
  intro p l e R s m args below meth c H locs cells slots ls ok hR hL hc hs hl
  obtain ⟨hx, hb, -, -, -, hown, hmn, -, -, -, hT, hK, -⟩ := id ok
  have hP := hR.at (a := a) (by show K a ≠ 0; omega)
  rw [zcell_b (h := (K, n, I, F, J)) hk] at hP
  obtain ⟨h1, h2⟩ := zin_ix hj hlt h31
  have := va_bald (D := E.1) (cl := zcl) (pc := pc) (ls := ls) (rest := st) (Q := zEnd E R s below Q) (locs := locs) (cells := cells) (slots := slots) (below := below) (p := p) (l := l) (e := e) (R := R) (m := m) (args := args) (meth := meth) (c := c) hx hb hK hP 0 0 rfl rfl h1 hd
  rw [h2] at this
  exact this (kk p l e R s m args below meth c H locs cells slots ls ok hR hL hc hs hl)
theorem aw_laload {x : Int32} (j : Nat) (hk : K a = 22) (hj : x = nI j) (hlt : j < n a) (h31 : j < 2147483648) (hd : decode M.2.1 pc = .ok (.laload, 1))
    (kk : AW E M (K, n, I, F, J) cb sb Q (pc + 1) lv (.long (J a j) :: st)) : AW E M (K, n, I, F, J) cb sb Q pc lv (.int x :: .ref a :: st) := by
  intro p l e R s m args below meth c H locs cells slots ls ok hR hL hc hs hl
  obtain ⟨hx, hb, -, -, -, hown, hmn, -, -, -, hT, hK, -⟩ := id ok
  have hP := hR.at (a := a) (by show K a ≠ 0; omega)
  rw [zcell_j (h := (K, n, I, F, J)) hk] at hP
  obtain ⟨h1, h2⟩ := zin_ix hj hlt h31
  have := va_lald (D := E.1) (cl := zcl) (pc := pc) (ls := ls) (rest := st) (Q := zEnd E R s below Q) (locs := locs) (cells := cells) (slots := slots) (below := below) (p := p) (l := l) (e := e) (R := R) (m := m) (args := args) (meth := meth) (c := c) hx hb hK hP 0 2 rfl rfl h1 hd
  rw [h2] at this
  exact this (kk p l e R s m args below meth c H locs cells slots ls ok hR hL hc hs hl)
theorem aw_aaload {x : Int32} (j : Nat) (hk : K a = 23) (hj : x = nI j) (hlt : j < n a) (h31 : j < 2147483648) (hd : decode M.2.1 pc = .ok (.aaload, 1))
    (kk : AW E M (K, n, I, F, J) cb sb Q (pc + 1) lv (va_rf (F a j) :: st)) : AW E M (K, n, I, F, J) cb sb Q pc lv (.int x :: .ref a :: st) := by
  intro p l e R s m args below meth c H locs cells slots ls ok hR hL hc hs hl
  obtain ⟨hx, hb, -, -, -, hown, hmn, -, -, -, hT, hK, -⟩ := id ok
  have hP := hR.at (a := a) (by show K a ≠ 0; omega)
  rw [zcell_r (h := (K, n, I, F, J)) hk] at hP
  obtain ⟨h1, h2⟩ := zin_ix hj hlt h31
  have := va_aldq (D := E.1) (cl := zcl) (pc := pc) (ls := ls) (rest := st) (Q := zEnd E R s below Q) (locs := locs) (cells := cells) (slots := slots) (below := below) (p := p) (l := l) (e := e) (R := R) (m := m) (args := args) (meth := meth) (c := c) hx hb hK hP 0 3 rfl rfl h1 hd
  rw [h2] at this
  exact this (kk p l e R s m args below meth c H locs cells slots ls ok hR hL hc hs hl)
theorem aw_alen (hk : 20 ≤ K a) (hk2 : K a ≤ 23) (hd : decode M.2.1 pc = .ok (.arraylength, 1))
    (kk : AW E M (K, n, I, F, J) cb sb Q (pc + 1) lv (.int (nI (n a)) :: st)) : AW E M (K, n, I, F, J) cb sb Q pc lv (.ref a :: st) := by
  intro p l e R s m args below meth c H locs cells slots ls ok hR hL hc hs hl
  obtain ⟨hx, hb, -, -, -, hown, hmn, -, -, -, hT, hK, -⟩ := id ok
  have hP := hR.at (a := a) (by show K a ≠ 0; omega)
  have hgo := kk p l e R s m args below meth c H locs cells slots ls ok hR hL hc hs hl
  rcases (show K a = 20 ∨ K a = 21 ∨ K a = 22 ∨ K a = 23 by omega) with h1 | h1 | h1 | h1
  · rw [zcell_b (h := (K, n, I, F, J)) h1] at hP
    exact va_alen (D := E.1) (cl := zcl) hx hb hK hP 0 0 rfl rfl rfl hd hgo
  · rw [zcell_i (h := (K, n, I, F, J)) h1] at hP
    exact va_alen (D := E.1) (cl := zcl) hx hb hK hP 0 1 rfl rfl rfl hd hgo
  · rw [zcell_j (h := (K, n, I, F, J)) h1] at hP
    exact va_alen (D := E.1) (cl := zcl) hx hb hK hP 0 2 rfl rfl rfl hd hgo
  · rw [zcell_r (h := (K, n, I, F, J)) h1] at hP
    exact va_alen (D := E.1) (cl := zcl) hx hb hK hP 0 3 rfl rfl rfl hd hgo
theorem zupd_va (f : Nat → Int32) (k : Nat) (x : Int32) : (fun j => (.int (va_up f k x j) : Value)) = updV (fun j => .int (f j)) k (.int x) := by
  funext q
  by_cases hq : q = k <;> simp [updV, va_up, hq]
theorem zupd_vl (f : Nat → Int64) (k : Nat) (x : Int64) : (fun j => (.long (va_up f k x j) : Value)) = updV (fun j => .long (f j)) k (.long x) := by
  funext q
  by_cases hq : q = k <;> simp [updV, va_up, hq]
theorem zupd_vr (f : Nat → Option Nat) (k : Nat) (x : Option Nat) : (fun j => va_rf (va_up f k x j)) = updV (fun j => va_rf (f j)) k (va_rf x) := by
  funext q
  by_cases hq : q = k <;> simp [updV, va_up, hq]
theorem zL9 {E : zE} {h : zH} {H : Heap} {locs : List Loc} {a k : Nat} (hR : zRep E h H) (ha : h.1 a ≠ 0) (hL : ∀ q ∈ locs, E.2.2.size ≤ q.base) : ∀ q ∈ locs ++ [⟨a, k⟩], E.2.2.size ≤ q.base := by
  intro q hq
  rcases List.mem_append.mp hq with h5 | h5
  · exact hL q h5
  · rw [List.mem_singleton.mp h5]
    exact (hR.2.2 a ha).1
theorem aw_iastore {x y : Int32} (j : Nat) (hk : K a = 21) (hj : x = nI j) (hlt : j < n a) (h31 : j < 2147483648) (hd : decode M.2.1 pc = .ok (.iastore, 1))
    (kk : AW E M (K, n, zup I a j y, F, J) cb sb Q (pc + 1) lv st) : AW E M (K, n, I, F, J) cb sb Q pc lv (.int y :: .int x :: .ref a :: st) := by
  intro p l e R s m args below meth c H locs cells slots ls ok hR hL hc hs hl
  obtain ⟨hx, hb, -, -, -, hown, hmn, -, -, -, hT, hK, -⟩ := id ok
  have ha : (K, n, I, F, J).1 a ≠ 0 := by show K a ≠ 0; omega
  have hP := hR.at ha
  rw [zcell_i (h := (K, n, I, F, J)) hk] at hP
  obtain ⟨h1, h2⟩ := zin_ix hj hlt h31
  refine W.iast hx hb (hP 0 _ rfl) ((hK.2 1 _ rfl).1 (n a) (fun j => .int (I a j))) (fun q => by cases q) (by show ¬ (x < 0 ∨ (arrV _ _ _).slots.size ≤ _); rw [arrV_size]; exact h1) rfl rfl hd fun H1 e1 z oq => ?_
  rw [h2] at e1
  refine kk p l e R s m args below meth c H1 _ cells slots ls ok (hR.put ha rfl z oq ?_ ?_) (zL9 hR ha hL) hc hs hl
  · rw [zcell_i (h := (K, n, zup I a j y, F, J)) hk]
    show H1[a]? = some (vp_cell (E.2.1 1) (n a, .inl (zup I a j y a)))
    rw [e1, zup_self]
    show some ((arrV (E.2.1 1) (n a) (fun q => .int (I a q))).setSlot j (.int y)) = some (arrV (E.2.1 1) (n a) (fun q => .int (va_up (I a) j y q)))
    rw [zupd_va, arrV_store]
  · intro b hb2
    unfold zcell
    show _ = _
    simp only [zup_ne I j y hb2]
theorem aw_bastore {x y : Int32} (j : Nat) (hk : K a = 20) (hj : x = nI j) (hlt : j < n a) (h31 : j < 2147483648) (hd : decode M.2.1 pc = .ok (.bastore, 1))
    (kk : AW E M (K, n, zup I a j y.toInt8.toInt32, F, J) cb sb Q (pc + 1) lv st) : AW E M (K, n, I, F, J) cb sb Q pc lv (.int y :: .int x :: .ref a :: st) := by
  intro p l e R s m args below meth c H locs cells slots ls ok hR hL hc hs hl
  obtain ⟨hx, hb, -, -, -, hown, hmn, -, -, -, hT, hK, -⟩ := id ok
  have ha : (K, n, I, F, J).1 a ≠ 0 := by show K a ≠ 0; omega
  have hP := hR.at ha
  rw [zcell_b (h := (K, n, I, F, J)) hk] at hP
  obtain ⟨h1, h2⟩ := zin_ix hj hlt h31
  refine W.bast hx hb (hP 0 _ rfl) ((hK.2 0 _ rfl).1 (n a) (fun j => .int (I a j))) (fun q => by cases q) (by show ¬ (x < 0 ∨ (arrV _ _ _).slots.size ≤ _); rw [arrV_size]; exact h1) rfl rfl hd fun H1 e1 z oq => ?_
  rw [h2] at e1
  refine kk p l e R s m args below meth c H1 _ cells slots ls ok (hR.put ha rfl z oq ?_ ?_) (zL9 hR ha hL) hc hs hl
  · rw [zcell_b (h := (K, n, zup I a j y.toInt8.toInt32, F, J)) hk]
    show H1[a]? = some (vp_cell (E.2.1 0) (n a, .inl (zup I a j y.toInt8.toInt32 a)))
    rw [e1, zup_self]
    show some ((arrV (E.2.1 0) (n a) (fun q => .int (I a q))).setSlot j (.int y.toInt8.toInt32)) = some (arrV (E.2.1 0) (n a) (fun q => .int (va_up (I a) j y.toInt8.toInt32 q)))
    rw [zupd_va, arrV_store]
  · intro b hb2
    unfold zcell
    show _ = _
    simp only [zup_ne I j y.toInt8.toInt32 hb2]
theorem aw_lastore {x : Int32} {y : Int64} (j : Nat) (hk : K a = 22) (hj : x = nI j) (hlt : j < n a) (h31 : j < 2147483648) (hd : decode M.2.1 pc = .ok (.lastore, 1))
    (kk : AW E M (K, n, I, F, zup J a j y) cb sb Q (pc + 1) lv st) : AW E M (K, n, I, F, J) cb sb Q pc lv (.long y :: .int x :: .ref a :: st) := by
  intro p l e R s m args below meth c H locs cells slots ls ok hR hL hc hs hl
  obtain ⟨hx, hb, -, -, -, hown, hmn, -, -, -, hT, hK, -⟩ := id ok
  have ha : (K, n, I, F, J).1 a ≠ 0 := by show K a ≠ 0; omega
  have hP := hR.at ha
  rw [zcell_j (h := (K, n, I, F, J)) hk] at hP
  obtain ⟨h1, h2⟩ := zin_ix hj hlt h31
  refine W.last hx hb (hP 0 _ rfl) ((hK.2 2 _ rfl).1 (n a) (fun j => .long (J a j))) (fun q => by cases q) (by show ¬ (x < 0 ∨ (arrV _ _ _).slots.size ≤ _); rw [arrV_size]; exact h1) rfl rfl hd fun H1 e1 z oq => ?_
  rw [h2] at e1
  refine kk p l e R s m args below meth c H1 _ cells slots ls ok (hR.put ha rfl z oq ?_ ?_) (zL9 hR ha hL) hc hs hl
  · rw [zcell_j (h := (K, n, I, F, zup J a j y)) hk]
    show H1[a]? = some (vp_cell (E.2.1 2) (n a, .inr (.inl (zup J a j y a))))
    rw [e1, zup_self]
    show some ((arrV (E.2.1 2) (n a) (fun q => .long (J a q))).setSlot j (.long y)) = some (arrV (E.2.1 2) (n a) (fun q => .long (va_up (J a) j y q)))
    rw [zupd_vl, arrV_store]
  · intro b hb2
    unfold zcell
    show _ = _
    simp only [zup_ne J j y hb2]
theorem aw_new {idx N : Nat} (ci : Nat) {C : String} {T : u_T} (ty : Nat → FieldType) (hcl : zcl[ci]? = some (C, T, N)) (hci : ci < 10) (hin : ∀ w ∈ u_ws C T N, w ∈ tables_1) (hty : ∀ k, k < N → parseFieldDescriptor (T k).2.2.1 = some (ty k)) (i1 i2 i3 : Nat) (hlink : tables_1[i1]? = some (.classLink M.1.cls idx C)) (hinst : tables_1[i2]? = some (.instantiable C N)) (hini : tables_1[i3]? = some (.initialized C)) (hfs : ∀ j, j < N → defaultValue (ty j) = vp_V (zfs (ci + 1) (fun _ => 0) (fun _ => none)) j) (hd : decode M.2.1 pc = .ok (.new idx, 3))
    (kk : ∀ q : Nat, K q = 0 → AW E M (va_up K q (ci + 1), n, va_up I q (fun _ => 0), va_up F q (fun _ => none), J) cb sb Q (pc + 3) lv (.ref q :: st)) : AW E M (K, n, I, F, J) (cb + 1) (sb + N) Q pc lv st := by
  intro p l e R s m args below meth c H locs cells slots ls ok hR hL hc hs hl
  obtain ⟨hx, hb, -, -, -, hown, hmn, -, -, -, hT, hK, -⟩ := id ok
  have hKn := hK.1 ci _ hcl
  refine W.newcK hx hb hown (hT.t i1 hlink rfl) (hT.t i2 hinst rfl) (hT.t i3 hini rfl) rfl hd (by omega) (by omega) hKn.2.1 rfl fun H1 kC hkC e1 z1 o1 => ?_
  refine kk H.size hR.fresh p l e R s m args below meth c H1 locs (cells + 1) (slots + N) ls ok (hR.new (k := ci + 1) rfl z1 o1 ?_ ?_) hL (by omega) (by omega) hl
  · rw [zcell_o (k := ci + 1) (va_up_self K H.size (ci + 1)) (by omega)]
    show va_at E.1 zcl (H.size, .inr (ci, zfs (ci + 1) (va_up I H.size (fun _ => 0) H.size) (va_up F H.size (fun _ => none) H.size))) H1
    rw [va_up_self, va_up_self]
    exact ⟨_, hcl, (u_born ty (hT.all (a := args)) (zin_good hin) hKn hkC e1 hty).to hfs⟩
  · intro b hb2
    unfold zcell
    show _ = _
    simp only [va_up_ne K (ci + 1) hb2, va_up_ne I (fun _ => (0 : Int32)) hb2, va_up_ne F (fun _ => (none : Option Nat)) hb2]
theorem aw_newI {x : Int32} (N : Nat) (hx0 : x = nI N) (hN : N ≤ 100000) (i1 : Nat) (harr : tables_1[i1]? = some (.arrayClass .int)) (hd : decode M.2.1 pc = .ok (.newarray .int, 2))
    (kk : ∀ q : Nat, K q = 0 → AW E M (va_up K q 21, va_up n q N, va_up I q (fun _ => 0), F, J) cb sb Q (pc + 2) lv (.ref q :: st)) : AW E M (K, n, I, F, J) (cb + 1) (sb + N) Q pc lv (.int x :: st) := by
  intro p l e R s m args below meth c H locs cells slots ls ok hR hL hc hs hl
  obtain ⟨hx, hb, -, -, -, hown, hmn, -, -, -, hT, hK, -⟩ := id ok
  subst hx0
  refine va_newaK (atype := .int) (N := N) hx hb (hT.t i1 harr rfl) rfl hd rfl (nI_pos (by omega)) (nI_clamp (by omega)) (by show N * 4 ≤ _; omega) (by omega) (by omega) rfl fun H1 cA e1 z1 o1 hAr hNm => ?_
  have hcA : cA = E.2.1 1 := by
    have h1 := (hK.2 1 _ rfl).2
    exact Option.some.inj (hNm.symm.trans h1)
  subst hcA
  refine kk H.size hR.fresh p l e R s m args below meth c H1 locs (cells + 1) (slots + N) ls ok (hR.new (k := 21) rfl z1 o1 ?_ ?_) hL (by omega) (by omega) hl
  · rw [zcell_i (h := (va_up K H.size 21, va_up n H.size N, va_up I H.size (fun _ => 0), F, J)) (va_up_self K H.size 21)]
    show H1[H.size]? = some (vp_cell (E.2.1 1) (va_up n H.size N H.size, .inl (va_up I H.size (fun _ => 0) H.size)))
    rw [va_up_self, va_up_self, e1]
    rfl
  · intro b hb2
    unfold zcell
    show _ = _
    simp only [va_up_ne K 21 hb2, va_up_ne n N hb2, va_up_ne I (fun _ => (0 : Int32)) hb2]
theorem aw_newB {x : Int32} (N : Nat) (hx0 : x = nI N) (hN : N ≤ 100000) (i1 : Nat) (harr : tables_1[i1]? = some (.arrayClass .byte)) (hd : decode M.2.1 pc = .ok (.newarray .byte, 2))
    (kk : ∀ q : Nat, K q = 0 → AW E M (va_up K q 20, va_up n q N, va_up I q (fun _ => 0), F, J) cb sb Q (pc + 2) lv (.ref q :: st)) : AW E M (K, n, I, F, J) (cb + 1) (sb + N) Q pc lv (.int x :: st) := by
  intro p l e R s m args below meth c H locs cells slots ls ok hR hL hc hs hl
  obtain ⟨hx, hb, -, -, -, hown, hmn, -, -, -, hT, hK, -⟩ := id ok
  subst hx0
  refine va_newaK (atype := .byte) (N := N) hx hb (hT.t i1 harr rfl) rfl hd rfl (nI_pos (by omega)) (nI_clamp (by omega)) (by show N * 1 ≤ _; omega) (by omega) (by omega) rfl fun H1 cA e1 z1 o1 hAr hNm => ?_
  have hcA : cA = E.2.1 0 := by
    have h1 := (hK.2 0 _ rfl).2
    exact Option.some.inj (hNm.symm.trans h1)
  subst hcA
  refine kk H.size hR.fresh p l e R s m args below meth c H1 locs (cells + 1) (slots + N) ls ok (hR.new (k := 20) rfl z1 o1 ?_ ?_) hL (by omega) (by omega) hl
  · rw [zcell_b (h := (va_up K H.size 20, va_up n H.size N, va_up I H.size (fun _ => 0), F, J)) (va_up_self K H.size 20)]
    show H1[H.size]? = some (vp_cell (E.2.1 0) (va_up n H.size N H.size, .inl (va_up I H.size (fun _ => 0) H.size)))
    rw [va_up_self, va_up_self, e1]
    rfl
  · intro b hb2
    unfold zcell
    show _ = _
    simp only [va_up_ne K 20 hb2, va_up_ne n N hb2, va_up_ne I (fun _ => (0 : Int32)) hb2]
theorem aw_newJ {x : Int32} (N : Nat) (hx0 : x = nI N) (hN : N ≤ 100000) (i1 : Nat) (harr : tables_1[i1]? = some (.arrayClass .long)) (hd : decode M.2.1 pc = .ok (.newarray .long, 2))
    (kk : ∀ q : Nat, K q = 0 → AW E M (va_up K q 22, va_up n q N, I, F, va_up J q (fun _ => 0)) cb sb Q (pc + 2) lv (.ref q :: st)) : AW E M (K, n, I, F, J) (cb + 1) (sb + N) Q pc lv (.int x :: st) := by
  intro p l e R s m args below meth c H locs cells slots ls ok hR hL hc hs hl
  obtain ⟨hx, hb, -, -, -, hown, hmn, -, -, -, hT, hK, -⟩ := id ok
  subst hx0
  refine va_newaK (atype := .long) (N := N) hx hb (hT.t i1 harr rfl) rfl hd rfl (nI_pos (by omega)) (nI_clamp (by omega)) (by show N * 8 ≤ _; omega) (by omega) (by omega) rfl fun H1 cA e1 z1 o1 hAr hNm => ?_
  have hcA : cA = E.2.1 2 := by
    have h1 := (hK.2 2 _ rfl).2
    exact Option.some.inj (hNm.symm.trans h1)
  subst hcA
  refine kk H.size hR.fresh p l e R s m args below meth c H1 locs (cells + 1) (slots + N) ls ok (hR.new (k := 22) rfl z1 o1 ?_ ?_) hL (by omega) (by omega) hl
  · rw [zcell_j (h := (va_up K H.size 22, va_up n H.size N, I, F, va_up J H.size (fun _ => 0))) (va_up_self K H.size 22)]
    show H1[H.size]? = some (vp_cell (E.2.1 2) (va_up n H.size N H.size, .inr (.inl (va_up J H.size (fun _ => 0) H.size))))
    rw [va_up_self, va_up_self, e1]
    rfl
  · intro b hb2
    unfold zcell
    show _ = _
    simp only [va_up_ne K 22 hb2, va_up_ne n N hb2, va_up_ne J (fun _ => (0 : Int64)) hb2]
theorem aw_ldc {idx : Nat} {v : Int32} (i : Nat) (hw : tables_1[i]? = some (.constant M.1.cls idx v)) (hd : decode M.2.1 pc = .ok (.ldc idx, 2)) (kk : AW E M h cb sb Q (pc + 2) lv (.int v :: st)) : AW E M h cb sb Q pc lv st :=
  fun p l e R s m args below meth c H locs cells slots ls ok hR hL hc hs hl => lv_ldc ok.1 ok.2.1 ok.2.2.2.2.2.1 (ok.2.2.2.2.2.2.2.2.2.2.1.t i hw rfl) hd (kk p l e R s m args below meth c H locs cells slots ls ok hR hL hc hs hl)
theorem aw_ldcw {idx : Nat} {v : Int32} (i : Nat) (hw : tables_1[i]? = some (.constant M.1.cls idx v)) (hd : decode M.2.1 pc = .ok (.ldc_w idx, 3)) (kk : AW E M h cb sb Q (pc + 3) lv (.int v :: st)) : AW E M h cb sb Q pc lv st :=
  fun p l e R s m args below meth c H locs cells slots ls ok hR hL hc hs hl => lv_ldcw ok.1 ok.2.1 ok.2.2.2.2.2.1 (ok.2.2.2.2.2.2.2.2.2.2.1.t i hw rfl) hd (kk p l e R s m args below meth c H locs cells slots ls ok hR hL hc hs hl)
theorem aw_ldc2 {idx : Nat} {v : Int64} (i : Nat) (hw : tables_1[i]? = some (.constantLong M.1.cls idx v)) (hd : decode M.2.1 pc = .ok (.ldc2_w idx, 3)) (kk : AW E M h cb sb Q (pc + 3) lv (.long v :: st)) : AW E M h cb sb Q pc lv st :=
  fun p l e R s m args below meth c H locs cells slots ls ok hR hL hc hs hl => lv_ldc2 ok.1 ok.2.1 ok.2.2.2.2.2.1 (ok.2.2.2.2.2.2.2.2.2.2.1.t i hw rfl) hd (kk p l e R s m args below meth c H locs cells slots ls ok hR hL hc hs hl)
/-- a reference or null out of a local variable, into one -/
theorem aw_aload_nR {k : Fin 4} {r : Option Nat} (hd : decode M.2.1 pc = .ok (.aload_n k, 1)) (hv : lv[(k : Nat)]? = some (some (va_rf r))) (kk : AW E M h cb sb Q (pc + 1) lv (va_rf r :: st)) : AW E M h cb sb Q pc lv st := by
  cases r with
  | none => exact aw_aload_nN hd hv kk
  | some b => exact aw_aload_n hd hv kk
theorem aw_aloadR {k : Nat} {r : Option Nat} (hd : decode M.2.1 pc = .ok (.aload k, 2)) (hv : lv[k]? = some (some (va_rf r))) (kk : AW E M h cb sb Q (pc + 2) lv (va_rf r :: st)) : AW E M h cb sb Q pc lv st := by
  cases r with
  | none => exact aw_aloadN hd hv kk
  | some b => exact aw_aload hd hv kk
theorem aw_astore_nR {k : Fin 4} {r : Option Nat} (hd : decode M.2.1 pc = .ok (.astore_n k, 1)) (hk : (k : Nat) < M.2.2.1) (kk : AW E M h cb sb Q (pc + 1) (zst lv k (va_rf r)) st) : AW E M h cb sb Q pc lv (va_rf r :: st) := by
  cases r with
  | none => exact aw_astore_nN hd hk kk
  | some b => exact aw_astore_n hd hk kk
theorem aw_astoreR {k : Nat} {r : Option Nat} (hd : decode M.2.1 pc = .ok (.astore k, 2)) (hk : k < M.2.2.1) (kk : AW E M h cb sb Q (pc + 2) (zst lv k (va_rf r)) st) : AW E M h cb sb Q pc lv (va_rf r :: st) := by
  cases r with
  | none => exact aw_astoreN hd hk kk
  | some b => exact aw_astore hd hk kk
/-- the returns -/
theorem aw_ireturn {x : Int32} (ty : FieldType) (hr : M.2.2.2.1 = some ty) (hn : narrow ty (.int x) = .int x) (hd : decode M.2.1 pc = .ok (.ireturn, 1)) (hq : Q (.inl (some (.int x))) h) : AW E M h cb sb Q pc lv [.int x] := by
  intro p l e R s m args below meth c H locs cells slots ls ok hR hL hc hs hl T hT X0
  have X := stand_widen X0 (k := R.cells) (n := R.slots) (by omega) (by omega)
  obtain ⟨hx, hb, -, hret9, hlocks, -⟩ := ok
  rw [hr] at hret9
  obtain ⟨fs, hret, hrun, hended, hW, hframe⟩ := X.leave (v := some (.int x)) (fun q => by rw [hret9] at q; cases q) hlocks
  have hmeth' : T.vm.method? m = some meth := X.method'
  refine ⟨T.setFrames fs, ?_, .returned (some (.int x)), locs, .inl (some (.int x)), h, hrun, hended, hW, hframe, hL, ?_, rfl, hq⟩
  · jvm_step X.here [X.here.top, hx, hb, hd, hmeth', hret9, hn]
    (try refine ⟨rfl, ?_⟩); (try refine ⟨rfl, ?_⟩)
    first | (intro acts; rw [hret _ acts rfl rfl rfl]) | rw [hret _ _ rfl rfl rfl]
    exact Steps.refl _
  · show zRep E h T.heap
    rw [hT]; exact hR
theorem aw_lreturn {x : Int64} (hr : M.2.2.2.1 = some .long) (hd : decode M.2.1 pc = .ok (.lreturn, 1)) (hq : Q (.inl (some (.long x))) h) : AW E M h cb sb Q pc lv [.long x] := by
  intro p l e R s m args below meth c H locs cells slots ls ok hR hL hc hs hl T hT X0
  have X := stand_widen X0 (k := R.cells) (n := R.slots) (by omega) (by omega)
  obtain ⟨hx, hb, -, hret9, hlocks, -⟩ := ok
  rw [hr] at hret9
  obtain ⟨fs, hret, hrun, hended, hW, hframe⟩ := X.leave (v := some (.long x)) (fun q => by rw [hret9] at q; cases q) hlocks
  have hmeth' : T.vm.method? m = some meth := X.method'
  refine ⟨T.setFrames fs, ?_, .returned (some (.long x)), locs, .inl (some (.long x)), h, hrun, hended, hW, hframe, hL, ?_, rfl, hq⟩
  · jvm_step X.here [X.here.top, hx, hb, hd, hmeth', hret9, narrow]
    (try refine ⟨rfl, ?_⟩); (try refine ⟨rfl, ?_⟩)
    first | (intro acts; rw [hret _ acts rfl rfl rfl]) | rw [hret _ _ rfl rfl rfl]
    exact Steps.refl _
  · show zRep E h T.heap
    rw [hT]; exact hR
theorem aw_return (hr : M.2.2.2.1 = none) (hd : decode M.2.1 pc = .ok (.return_, 1)) (hq : Q (.inl none) h) : AW E M h cb sb Q pc lv [] := by
  intro p l e R s m args below meth c H locs cells slots ls ok hR hL hc hs hl T hT X0
  have X := stand_widen X0 (k := R.cells) (n := R.slots) (by omega) (by omega)
  obtain ⟨hx, hb, -, hret9, hlocks, -⟩ := ok
  rw [hr] at hret9
  obtain ⟨fs, hret, hrun, hended, hW, hframe⟩ := X.leave (v := none) (fun q => rfl) hlocks
  have hmeth' : T.vm.method? m = some meth := X.method'
  refine ⟨T.setFrames fs, ?_, .returned none, locs, .inl none, h, hrun, hended, hW, hframe, hL, ?_, rfl, hq⟩
  · jvm_step X.here [X.here.top, hx, hb, hd, hmeth', hret9]
    (try refine ⟨rfl, ?_⟩); (try refine ⟨rfl, ?_⟩)
    first | (intro acts; rw [hret _ acts rfl rfl rfl]) | rw [hret _ _ rfl rfl rfl]
    exact Steps.refl _
  · show zRep E h T.heap
    rw [hT]; exact hR
theorem aw_areturn {r : Option Nat} (rt : FieldType) (hr : M.2.2.2.1 = some rt) (hrt : rt.isReference = true) (hd : decode M.2.1 pc = .ok (.areturn, 1)) (hq : Q (.inl (some (va_rf r))) h) : AW E M h cb sb Q pc lv [va_rf r] := by
  intro p l e R s m args below meth c H locs cells slots ls ok hR hL hc hs hl T hT X0
  have X := stand_widen X0 (k := R.cells) (n := R.slots) (by omega) (by omega)
  obtain ⟨hx, hb, -, hret9, hlocks, -⟩ := ok
  rw [hr] at hret9
  obtain ⟨fs, hret, hrun, hended, hW, hframe⟩ := X.leave (v := some (va_rf r)) (fun q => by rw [hret9] at q; cases q) hlocks
  have hmeth' : T.vm.method? m = some meth := X.method'
  refine ⟨T.setFrames fs, ?_, .returned (some (va_rf r)), locs, .inl (some (va_rf r)), h, hrun, hended, hW, hframe, hL, ?_, rfl, hq⟩
  · have hg9 : ∀ acts, (doReturn e (T.setTop { method := m, pc := pc, locals := ls, stack := [], locked := none }) acts (some (va_rf r))).1 = T.setFrames fs := fun acts => hret _ acts rfl rfl rfl
    cases r with
    | none =>
      jvm_step X.here [X.here.top, hx, hb, hd, hmeth', hret9, va_rf]
      refine ⟨rfl, hrt, fun acts => ?_⟩
      have := hg9 acts
      rw [show va_rf none = Value.null from rfl] at this
      rw [this]
      exact Steps.refl _
    | some b =>
      jvm_step X.here [X.here.top, hx, hb, hd, hmeth', hret9, va_rf]
      refine ⟨rfl, hrt, fun acts => ?_⟩
      have := hg9 acts
      rw [show va_rf (some b) = Value.ref b from rfl] at this
      rw [this]
      exact Steps.refl _
  · show zRep E h T.heap
    rw [hT]; exact hR
end
