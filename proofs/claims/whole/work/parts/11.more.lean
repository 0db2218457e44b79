-- ===== casts, arrays of references, constants, arraycopy =====
theorem znn {z : Int32} (hz : ¬ z < 0) : z.toInt = (z.toNatClampNeg : Int) := by
  have hz0 : (0 : Int) ≤ z.toInt := by
    have := Int32.not_lt.mp hz
    simpa using Int32.le_iff_toInt_le.mp this
  show z.toInt = ((z.toInt.toNat : Nat) : Int)
  omega
/-- the kinds of what the lists hold -/
def zEl (k : Nat) : Prop := k = 1 ∨ k = 2 ∨ k = 4 ∨ k = 7
/-- an array's length: a made one's, or that of the empty constant -/
def zlen (E : zE) (K n : Nat → Nat) (a len : Nat) : Prop := (20 ≤ K a ∧ K a ≤ 23 ∧ n a = len) ∨ (a = E.2.1 10 ∧ len = 0)
section
variable {E : zE} {M : zM} {K n : Nat → Nat} {I : Nat → Nat → Int32} {F : Nat → Nat → Option Nat} {J : Nat → Nat → Int64} {cb sb : Nat} {Q : zO → zH → Prop} {pc : Nat} {lv : List (Option Value)} {st : List Value} {a : Nat}
theorem aw_castO {idx : Nat} {q : vw_C} (ci i : Nat) (hcl : zcl[ci]? = some q) (hci : ci < 10) (hL9 : tables_1[i]? = some (.classLink M.1.cls idx q.1)) (hk : K a = ci + 1) (hd : decode M.2.1 pc = .ok (.checkcast idx, 3)) (kk : AW E M (K, n, I, F, J) cb sb Q (pc + 3) lv (.ref a :: st)) : AW E M (K, n, I, F, J) cb sb Q pc lv (.ref a :: st) := by
  intro p l e R s m args below meth c H locs cells slots ls ok hR hL hc hs hl
  obtain ⟨hx, hb, -, -, -, hown, -, -, -, -, hT, hK, -⟩ := id ok
  exact va_castS hx hb hown (hT.t i hL9 rfl) (hK.1 ci q hcl).2 (z_recv hR hK hcl hci hk) hd (kk p l e R s m args below meth c H locs cells slots ls ok hR hL hc hs hl)
theorem aw_castR {idx : Nat} (i : Nat) (hL9 : tables_1[i]? = some (.classLink M.1.cls idx "[Ljava/lang/Object;")) (hk : K a = 23) (hd : decode M.2.1 pc = .ok (.checkcast idx, 3)) (kk : AW E M (K, n, I, F, J) cb sb Q (pc + 3) lv (.ref a :: st)) : AW E M (K, n, I, F, J) cb sb Q pc lv (.ref a :: st) := by
  intro p l e R s m args below meth c H locs cells slots ls ok hR hL hc hs hl
  obtain ⟨hx, hb, -, -, -, hown, -, -, -, -, hT, hK, -⟩ := id ok
  have hP := hR.at (a := a) (by show K a ≠ 0; omega)
  rw [zcell_r (h := (K, n, I, F, J)) hk] at hP
  exact va_castA hx hb hown (hT.t i hL9 rfl) hP 0 rfl (va_nmO (hK.2 3 _ rfl).2 rfl) hd (kk p l e R s m args below meth c H locs cells slots ls ok hR hL hc hs hl)
theorem zas_el {s : State} (hT : zT s) {k : Nat} (hk : zEl k) : ∃ (ci : Nat) (q : vw_C), k = ci + 1 ∧ ci < 10 ∧ zcl[ci]? = some q ∧ ∀ comp c0 : ClassId, s.vm.findClass "java/lang/Object" = some comp → s.vm.findClass q.1 = some c0 → s.vm.assignable c0 comp = true := by
  rcases hk with rfl | rfl | rfl | rfl
  · exact ⟨0, _, rfl, by decide, rfl, vb_asgC (hT.t 1163 tb_1163 rfl)⟩
  · exact ⟨1, _, rfl, by decide, rfl, vb_asgC (hT.t 1162 tb_1162 rfl)⟩
  · exact ⟨3, _, rfl, by decide, rfl, vb_asgC (hT.t 1159 tb_1159 rfl)⟩
  · exact ⟨6, _, rfl, by decide, rfl, vb_asgC (hT.t 1164 tb_1164 rfl)⟩
theorem aw_aastore {x : Int32} {v : Nat} (j : Nat) (hk : K a = 23) (hv : zEl (K v)) (hj : x = nI j) (hlt : j < n a) (h31 : j < 2147483648) (hd : decode M.2.1 pc = .ok (.aastore, 1))
    (kk : AW E M (K, n, I, zup F a j (some v), J) cb sb Q (pc + 1) lv st) : AW E M (K, n, I, F, J) cb sb Q pc lv (.ref v :: .int x :: .ref a :: st) := by
  intro p l e R s m args below meth c H locs cells slots ls ok hR hL hc hs hl
  obtain ⟨hx, hb, -, -, -, hown, hmn, -, -, -, hT, hK, -⟩ := id ok
  have ha : (K, n, I, F, J).1 a ≠ 0 := by show K a ≠ 0; omega
  have hP := hR.at ha
  rw [zcell_r (h := (K, n, I, F, J)) hk] at hP
  obtain ⟨h1, h2⟩ := zin_ix hj hlt h31
  obtain ⟨ci, q, hkv, hci, hcl, hasg⟩ := zas_el hT hv
  obtain ⟨cellV, g1, g3, g2⟩ := z_recv hR hK hcl hci (b := v) hkv
  obtain ⟨kA, comp, k1, k2, k3, -⟩ := (hK.2 3 _ rfl).2
  obtain ⟨kE, hkE, -⟩ := Vm.findClass_spec k3
  obtain ⟨kC, hkC, -⟩ := Vm.findClass_spec g2
  have hlt2 : x.toNatClampNeg < n a := by rw [h2]; exact hlt
  refine W.aast hx hb (hP 0 _ rfl) (fun q h => by cases h) (fun h => by cases h) k1 k2 rfl hkE ⟨fun q => h1 (Or.inl q), by show _ < (arrV _ _ _).slots.size; rw [arrV_size]; exact hlt2⟩ g1 (fun q h => by rw [h] at g3; cases g3) hkC (hasg _ _ k3 g2) rfl rfl hd fun H1 e1 z oq => ?_
  rw [h2] at e1
  refine kk p l e R s m args below meth c H1 _ cells slots ls ok (hR.put ha rfl z oq ?_ ?_) (zL9 hR ha hL) hc hs hl
  · rw [zcell_r (h := (K, n, I, zup F a j (some v), J)) hk]
    show H1[a]? = some (vp_cell (E.2.1 3) (n a, .inr (.inr (.inr (.inr (zup F a j (some v) a))))))
    rw [e1, zup_self]
    show some ((arrV (E.2.1 3) (n a) (fun q => va_rf (F a q))).setSlot j (va_rf (some v))) = some (arrV (E.2.1 3) (n a) (fun q => va_rf (va_up (F a) j (some v) q)))
    rw [zupd_vr, arrV_store]
  · intro b hb2
    unfold zcell
    show _ = _
    simp only [zup_ne F j (some v) hb2]
theorem aw_aastoreN {x : Int32} (j : Nat) (hk : K a = 23) (hj : x = nI j) (hlt : j < n a) (h31 : j < 2147483648) (hd : decode M.2.1 pc = .ok (.aastore, 1))
    (kk : AW E M (K, n, I, zup F a j none, J) cb sb Q (pc + 1) lv st) : AW E M (K, n, I, F, J) cb sb Q pc lv (.null :: .int x :: .ref a :: st) := by
  intro p l e R s m args below meth c H locs cells slots ls ok hR hL hc hs hl
  obtain ⟨hx, hb, -, -, -, hown, hmn, -, -, -, hT, hK, -⟩ := id ok
  have ha : (K, n, I, F, J).1 a ≠ 0 := by show K a ≠ 0; omega
  have hP := hR.at ha
  rw [zcell_r (h := (K, n, I, F, J)) hk] at hP
  obtain ⟨h1, h2⟩ := zin_ix hj hlt h31
  refine va_WaastN (C := "java/lang/Object") hx hb (hP 0 _ rfl) ((hK.2 3 _ rfl).1 (n a) (fun j => va_rf (F a j))) (fun h => by cases h) (by show ¬ (x < 0 ∨ (arrV _ _ _).slots.size ≤ _); rw [arrV_size]; exact h1) rfl rfl hd fun H1 e1 z oq => ?_
  rw [h2] at e1
  refine kk p l e R s m args below meth c H1 _ cells slots ls ok (hR.put ha rfl z oq ?_ ?_) (zL9 hR ha hL) hc hs hl
  · rw [zcell_r (h := (K, n, I, zup F a j none, J)) hk]
    show H1[a]? = some (vp_cell (E.2.1 3) (n a, .inr (.inr (.inr (.inr (zup F a j none a))))))
    rw [e1, zup_self]
    show some ((arrV (E.2.1 3) (n a) (fun q => va_rf (F a q))).setSlot j (va_rf none)) = some (arrV (E.2.1 3) (n a) (fun q => va_rf (va_up (F a) j none q)))
    rw [zupd_vr, arrV_store]
  · intro b hb2
    unfold zcell
    show _ = _
    simp only [zup_ne F j none hb2]
theorem aw_newR {x : Int32} {idx : Nat} (N : Nat) (hx0 : x = nI N) (hN : N ≤ 100000) (i1 i2 : Nat) (hL9 : tables_1[i1]? = some (.classLink M.1.cls idx "java/lang/Object")) (hO9 : tables_1[i2]? = some (.arrayOver (.object "java/lang/Object"))) (hd : decode M.2.1 pc = .ok (.anewarray idx, 3))
    (kk : ∀ q : Nat, K q = 0 → AW E M (va_up K q 23, va_up n q N, I, va_up F q (fun _ => none), J) cb sb Q (pc + 3) lv (.ref q :: st)) : AW E M (K, n, I, F, J) (cb + 1) (sb + N) Q pc lv (.int x :: st) := by
  intro p l e R s m args below meth c H locs cells slots ls ok hR hL hc hs hl
  obtain ⟨hx, hb, -, -, -, hown, hmn, -, -, -, hT, hK, -⟩ := id ok
  subst hx0
  have hcl := nI_clamp (n := N) (by omega)
  refine W.anew hx hb hown (hT.t i1 hL9 rfl) (hT.t i2 hO9 rfl) rfl hd rfl (nI_pos (by omega)) (by rw [hcl]; omega) (by omega) (by rw [hcl]; omega) fun cA kA comp f1 f2 f3 f4 => ?_
  rw [hcl]
  generalize hH1 : H.push ({ cls := cA, slots := Array.replicate N .null, vm := .none } : Cell) = H1
  have z1 : H1.size = H.size + 1 := by rw [← hH1, Array.size_push]
  have e1 : H1[H.size]? = some (arrV cA N (fun _ => .null)) := by rw [← hH1, Array.getElem?_push_size, ← arrV_new]
  have o1 : ∀ q : Nat, q < H.size → H1[q]? = H[q]? := fun q hq => by rw [← hH1, Array.getElem?_push, if_neg (Nat.ne_of_lt hq)]
  have hcA : cA = E.2.1 3 := by
    have h1 := va_nmO (hK.2 3 _ rfl).2 rfl
    exact Option.some.inj (f1.symm.trans h1)
  subst hcA
  refine kk H.size hR.fresh p l e R s m args below meth c H1 locs (cells + 1) (slots + N) ls ok (hR.new (k := 23) rfl z1 o1 ?_ ?_) hL (by omega) (by omega) hl
  · rw [zcell_r (h := (va_up K H.size 23, va_up n H.size N, I, va_up F H.size (fun _ => none), J)) (va_up_self K H.size 23)]
    show H1[H.size]? = some (vp_cell (E.2.1 3) (va_up n H.size N H.size, .inr (.inr (.inr (.inr (va_up F H.size (fun _ => none) H.size))))))
    rw [va_up_self, va_up_self, e1]
    rfl
  · intro b hb2
    unfold zcell
    show _ = _
    simp only [va_up_ne K 23 hb2, va_up_ne n N hb2, va_up_ne F (fun _ => (none : Option Nat)) hb2]
/-- what lies below the law's own cells stands as it stood -/
theorem zRep.S {h : zH} {H : Heap} {locs : List Loc} (hR : zRep E h H) (hL : ∀ q ∈ locs, E.2.2.size ≤ q.base) : va_S (fun q => E.2.2.size ≤ q) E.2.2 H locs := ⟨hR.2.1, fun q h1 _ => hR.1 q h1, hL⟩
theorem zT_at {U : State} {ty : FieldType} {t N : Nat} {f : Nat → Value} {h : zH} {H : Heap} (hT : va_T ty t N f (fun q => E.2.2.size ≤ q) U E.2.2) (hR : zRep E h H) : ∃ cell : Cell, H[t]? = some cell ∧ U.isArrayOf cell ty ∧ cell.vm ≠ .unknown ∧ N ≤ cell.slots.size ∧ cell.slots.size.toInt32 = Int32.ofNat N ∧ ∀ j : Nat, j < N → cell.slots[j]? = some (f j) := by
  obtain ⟨cell, h1, h2, h3, h4, h5, h6, h7⟩ := hT
  exact ⟨cell, by rw [hR.1 t (Nat.lt_of_not_le h7)]; exact h1, h2, h3, h4, h5, h6⟩
theorem aw_alenZ {len : Nat} (hz : zlen E K n a len) (hd : decode M.2.1 pc = .ok (.arraylength, 1))
    (kk : AW E M (K, n, I, F, J) cb sb Q (pc + 1) lv (.int (nI len) :: st)) : AW E M (K, n, I, F, J) cb sb Q pc lv (.ref a :: st) := by
  rcases hz with ⟨h1, h2, rfl⟩ | ⟨rfl, rfl⟩
  · exact aw_alen h1 h2 hd kk
  · intro p l e R s m args below meth c H locs cells slots ls ok hR hL hc hs hl
    obtain ⟨hx, hb, -, -, -, hown, hmn, -, -, -, hT, hK, hC, -⟩ := id ok
    obtain ⟨cell, g1, g2, g3, g4, g5, g6⟩ := zT_at (hC 1) hR
    exact W.alen (n := nI 0) hx hb g1 g2 g5 rfl rfl hd (kk p l e R s m args below meth c H locs cells slots ls ok hR hL hc hs hl)
/-- a static field that is a constant -/
theorem aw_getsZ {idx : Nat} {C fn fd : String} {v : Value} (k i : Nat) (hZ : ∀ U, zkon E U k → va_Z C fn fd v (fun q => E.2.2.size ≤ q) U E.2.2) (hL9 : tables_1[i]? = some (.fieldLink M.1.cls idx C fn fd)) (hd : decode M.2.1 pc = .ok (.getstatic idx, 3)) {h : zH} (kk : AW E M h cb sb Q (pc + 3) lv (v :: st)) : AW E M h cb sb Q pc lv st := by
  intro p l e R s m args below meth c H locs cells slots ls ok hR hL hc hs hl
  obtain ⟨hx, hb, -, -, -, hown, hmn, -, -, -, hT, hK, hC, -⟩ := id ok
  obtain ⟨cf, kf, fi, f, a, cell, h1, h2, h3, h4, h5, h6, h7, h8⟩ := hZ s (hC k)
  exact W.gets hx hb hown (hT.t i hL9 rfl) h1 h2 h3 h4 (by rw [hR.1 a (Nat.lt_of_not_le h8)]; exact h5) (fun e => by rw [e] at h6; cases h6) h7 rfl hd (kk p l e R s m args below meth c H locs cells slots ls ok hR hL hc hs hl)
end
