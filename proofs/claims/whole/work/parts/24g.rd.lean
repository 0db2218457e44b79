section
variable {E : zE} {K0 K n : Nat → Nat} {I : Nat → Nat → Int32} {F : Nat → Nat → Option Nat} {J : Nat → Nat → Int64} {cb sb : Nat} {Q : zO → zH → Prop} {rd sg L p fo m : Nat} {x : zTx} {st : zStm}
theorem cP.step {K' n' : Nat → Nat} {I' : Nat → Nat → Int32} {F' : Nat → Nat → Option Nat} {a q : Nat} {t : zPart} (h : cP K n I F a t) (hG : HG E K F) (hr : K rd = 3) (s : rS E (K, n, I, F, J) (K', n', I', F', J) rd sg L x q) : cP K' n' I' F' a t :=
  h.frK s.1 hG (fun b _ z => by have hb : b = rd := z; rw [hb]; omega)
theorem rI.B (h : rI E K0 K n I F rd sg L x fo m st p) : rB K n I F rd sg L x p := h.1
theorem rI.G (h : rI E K0 K n I F rd sg L x fo m st p) : HG E K F := h.2.2.2.2.2.2.2.2.1
theorem rI.K3 (h : rI E K0 K n I F rd sg L x fo m st p) : K rd = 3 := h.1.1
theorem rI.pL (h : rI E K0 K n I F rd sg L x fo m st p) : p ≤ L := h.1.2.2.2.2.2.2.2.1
theorem rI.fo6 (h : rI E K0 K n I F rd sg L x fo m st p) : K fo = 6 := h.2.2.2.2.2.2.2.2.2.1
theorem rI.F2 (h : rI E K0 K n I F rd sg L x fo m st p) : F rd 2 = some fo := h.2.2.2.2.2.1
theorem rI.move {q : Nat} (h : rI E K0 K n I F rd sg L x fo m st p) (hq : q ≤ L) : rI E K0 K n (zup I rd 4 (nI q)) F rd sg L x fo m st q := h.step (J := fun _ _ => 0) (J' := fun _ _ => 0) (rS.move h.B h.G hq)
theorem rI.lists (h : rI E K0 K n I F rd sg L x fo m st p) : ∃ l0 l1 l2 l3, F fo 0 = some l0 ∧ F fo 1 = some l1 ∧ F fo 2 = some l2 ∧ F fo 3 = some l3 ∧ K l0 = 10 ∧ K l1 = 10 ∧ K l2 = 10 ∧ K l3 = 10 ∧ I l0 2 = nI st.1.length ∧ I l1 2 = nI st.2.1.length ∧ I l2 2 = nI st.2.2.1.length ∧ I l3 2 = nI st.2.2.2.1.length := by
  obtain ⟨-, -, -, -, -, -, -, -, -, -, -, -, -, -, -, -, -, l0, l1, l2, l3, f0, f1, f2, f3, ⟨x0, c0, a0, -, n0, -⟩, ⟨x1, c1, a1, -, n1, -⟩, ⟨x2, c2, a2, -, n2, -⟩, ⟨x3, c3, a3, -, n3, -⟩⟩ := h
  exact ⟨l0, l1, l2, l3, f0, f1, f2, f3, a0.1, a1.1, a2.1, a3.1, by rw [a0.2.1, n0], by rw [a1.2.1, n1], by rw [a2.2.1, n2], by rw [a3.2.1, n3]⟩
theorem zB_lit (b : Bool) : (zB b = 0 ∨ zB b = 1) := zB_01 b
/-- a key is made and added -/
theorem c_keyT {q pt l f1 f2 : Nat} {dn nb : Bool} (hI : rI E K0 K n I F rd sg L x fo m st p) (hq : K q = 0) (hl : F fo 0 = some l) (hP : cP K n I F pt (none, f1, f2)) (hlen : st.1.length ≤ 5) (hcb : 1 ≤ cb) (hsb : 45 ≤ sb)
    (wEnd : st.1.length = 5 → ∀ K' n' I' F', GR (fun a => K0 a = 0) (K, n, I, F, J) (K', n', I', F', J) → rI E K0 K' n' I' F' rd sg L x fo m (st.1 ++ [(f1, f2, dn, nb)], st.2) p → Q (.inl none) (K', n', I', F', J))
    (wSemi : st.1.length < 5 → sat x L (sk x L p) = some 59 → ∀ K' n' I' F', GR (fun a => K0 a = 0) (K, n, I, F, J) (K', n', I', F', J) → rI E K0 K' n' I' F' rd sg L x fo m (st.1 ++ [(f1, f2, dn, nb)], st.2) (sk x L p) → Q (.inl none) (K', n', I', F', J))
    (wMore : st.1.length < 5 → sat x L (sk x L p) ≠ some 59 → ∀ K' n' I' F', GR (fun a => K0 a = 0) (K, n, I, F, J) (K', n', I', F', J) → rI E K0 K' n' I' F' rd sg L x fo m (st.1 ++ [(f1, f2, dn, nb)], st.2) (sk x L p) → AW E m_Reader_readKeys (K', n', I', F', J) (cb - 1) (sb - 45) Q 0 [some (.ref rd), none, none, none] []) :
    AW E m_Reader_readKeys (va_up K q 1, n, va_up I q (fun _ => 0), va_up F q (fun _ => none), J) cb sb Q 76 [some (.ref rd), some (.ref pt), some (.int (zB dn)), some (.int (zB nb))] [.ref q, .ref l] := by
  refine r_Reader_readKeys_76 (r_Key_init_0 ⟨va_up_s _ _ _, zB_01 _, zB_01 _, ?_⟩)
  rw [zup_up, zup_up, zup_up]
  have hG1 : HG E (va_up K q 1) (va_up F q (va_up (fun _ => none) 0 (some pt))) := by
    have := (hI.G.new 1 hq).put q 0 (some pt) (by rw [va_up_s]; omega) (by rw [va_up_s]; omega) (by rw [va_up_s]; omega)
    rw [zup_up] at this
    exact this
  have g1 : GR (fun _ => False) (K, n, I, F, J) (va_up K q 1, n, va_up I q (va_up (va_up (fun _ => 0) 1 (zB dn)) 2 (zB nb)), va_up F q (va_up (fun _ => none) 0 (some pt)), J) := GR.newO hq 1 _ _
  have s1 := rS.made hI.B g1 hG1
  have hI1 := hI.step s1
  have hP1 := hP.step hI.G hI.K3 s1
  have hcK : cK (va_up K q 1) n (va_up I q (va_up (va_up (fun _ => 0) 1 (zB dn)) 2 (zB nb))) (va_up F q (va_up (fun _ => none) 0 (some pt))) q (f1, f2, dn, nb) := ⟨va_up_s _ _ _, by rw [va_up_s]; simp [va_up], by rw [va_up_s]; simp [va_up], pt, by rw [va_up_s]; simp [va_up], hP1⟩
  have hfoq : fo ≠ q := fun z => by have := hI.fo6; rw [z, hq] at this; cases this
  have hl1 : (va_up F q (va_up (fun _ => none) 0 (some pt))) fo 0 = some l := by rw [va_up_n _ _ hfoq]; exact hl
  have hlq : K l = 10 := (hI.2.2.2.2.2.2.2.1.2 0 l (by decide) hl).1
  refine r_Reader_readKeys_83 ⟨(hI1.2.2.2.2.2.2.2.1.2 0 l (by decide) hl1).1, 1, 45, cb - 1, sb - 45, by omega, by omega, ?_⟩
  refine c_addK hI1 hl1 hcK (by omega) (by omega) (by omega) (fun K' n' I' F' g hI2 hF2 => ?_)
  have g0 : GR (fun a => K0 a = 0) (K, n, I, F, J) (K', n', I', F', J) := GR.trans (g1.mono (fun _ _ z => z.elim)) g (fun _ _ z => z)
  obtain ⟨l0, -, -, -, y0, -, -, -, y4, -, -, -, y8, -⟩ := hI2.lists
  refine r_Reader_readKeys_86 ⟨hI2.K3, fo, hI2.F2, hI2.fo6, l0, y0, y4, c_size y4 y8 ?_⟩
  have e6 : (st.1 ++ [((f1, f2, dn, nb) : zKey)]).length = st.1.length + 1 := by simp
  refine r_Reader_readKeys_97 (pk_le 6 (st.1.length + 1) (fun z => wEnd (by omega) _ _ _ _ g0 hI2) (fun z => ⟨hI2.K3, c_nextS hI2.B (fun v hv => ?_)⟩) rfl (by rw [e6]) (by omega) (by omega))
  have hs := sk_le (x := x) hI.pL
  have s3 : rS E (K', n', I', F', J) (K', n', zup I' rd 4 (nI (sk x L p)), F', J) rd sg L x (sk x L p) := rS.move hI2.B hI2.G hs.2
  have g3 := GR.trans g0 (hI2.gr s3) (fun _ _ z => z)
  have e59 := zv_eq hv (c := 59) (by omega)
  exact r_Reader_readKeys_106 ⟨fun z => wMore (by omega) (fun y => z (e59.mpr y)) _ _ _ _ g3 (hI2.step s3), fun z => wSemi (by omega) (e59.mp z) _ _ _ _ g3 (hI2.step s3)⟩
theorem rI.gm {q : Nat} (h : rI E K0 K n I F rd sg L x fo m st p) (hq : q ≤ L) : GR (fun a => K0 a = 0) (K, n, I, F, J) (K, n, zup I rd 4 (nI q), F, J) := h.gr (rS.move h.B h.G hq)
theorem GR.tr {S : Nat → Prop} {h h' h'' : zH} (a : GR S h h') (b : GR S h' h'') : GR S h h'' := a.trans b (fun _ _ z => z)
/-- one key -/
theorem c_key1 (hI : rI E K0 K n I F rd sg L x fo m st p) (hlen : st.1.length ≤ 5) (hcb : 10 ≤ cb) (hsb : 100 ≤ sb)
    (wBad : ∀ q K' n' I' F', keyP x L p = (none, q) → GR (fun a => K0 a = 0) (K, n, I, F, J) (K', n', I', F', J) → rI E K0 K' n' I' F' rd sg L x fo m st q → Q (.inr "java/lang/IllegalArgumentException") (K', n', I', F', J))
    (wEnd : ∀ k q, keyP x L p = (some k, q) → st.1.length = 5 → ∀ K' n' I' F', GR (fun a => K0 a = 0) (K, n, I, F, J) (K', n', I', F', J) → rI E K0 K' n' I' F' rd sg L x fo m (st.1 ++ [k], st.2) q → Q (.inl none) (K', n', I', F', J))
    (wSemi : ∀ k q, keyP x L p = (some k, q) → st.1.length < 5 → sat x L (sk x L q) = some 59 → ∀ K' n' I' F', GR (fun a => K0 a = 0) (K, n, I, F, J) (K', n', I', F', J) → rI E K0 K' n' I' F' rd sg L x fo m (st.1 ++ [k], st.2) (sk x L q) → Q (.inl none) (K', n', I', F', J))
    (wMore : ∀ k q, keyP x L p = (some k, q) → st.1.length < 5 → sat x L (sk x L q) ≠ some 59 → ∀ K' n' I' F' cb' sb', cb - 10 ≤ cb' → sb - 100 ≤ sb' → GR (fun a => K0 a = 0) (K, n, I, F, J) (K', n', I', F', J) → rI E K0 K' n' I' F' rd sg L x fo m (st.1 ++ [k], st.2) (sk x L q) → AW E m_Reader_readKeys (K', n', I', F', J) cb' sb' Q 0 [some (.ref rd), none, none, none] []) :
    AW E m_Reader_readKeys (K, n, I, F, J) cb sb Q 0 [some (.ref rd), none, none, none] [] := by
  have tail : ∀ {K1 n1 : Nat → Nat} {I1 : Nat → Nat → Int32} {F1 : Nat → Nat → Option Nat} {pt f1 f2 q c s : Nat} {dn nb : Bool}, GR (fun a => K0 a = 0) (K, n, I, F, J) (K1, n1, I1, F1, J) → rI E K0 K1 n1 I1 F1 rd sg L x fo m st q → cP K1 n1 I1 F1 pt (none, f1, f2) → keyP x L p = (some (f1, f2, dn, nb), q) → 2 ≤ c → 48 ≤ s → cb - 10 ≤ c - 2 → sb - 100 ≤ s - 48 →
        K1 rd = 3 ∧ (∃ b3 : Nat, F1 rd 2 = some b3 ∧ K1 b3 = 6 ∧ (∃ b5 : Nat, F1 b3 0 = some b5 ∧ (∃ cb9 sb9 : Nat, cb9 + 1 ≤ c ∧ sb9 + 3 ≤ s ∧ ∀ q : Nat, K1 q = 0 → AW E m_Reader_readKeys ((va_up K1 q 1), n1, (va_up I1 q (fun _ => 0)), (va_up F1 q (fun _ => none)), J) cb9 sb9 Q 76 [some (.ref rd), some (.ref pt), some (.int (zB dn)), some (.int (zB nb))] [.ref q, .ref b5]))) := by
    intro K1 n1 I1 F1 pt f1 f2 q c s dn nb g hI1 hP hk hc hs hc2 hs2
    obtain ⟨l0, -, -, -, y0, -, -, -, y4, -⟩ := hI1.lists
    exact ⟨hI1.K3, fo, hI1.F2, hI1.fo6, l0, y0, c - 1, s - 3, by omega, by omega, fun b hb => c_keyT hI1 hb y0 hP (by omega) (by omega) (by omega) (fun z K' n' I' F' g' hI' => wEnd _ q hk z K' n' I' F' (g.tr g') hI') (fun z z2 K' n' I' F' g' hI' => wSemi _ q hk z z2 K' n' I' F' (g.tr g') hI') (fun z z2 K' n' I' F' g' hI' => wMore _ q hk z z2 K' n' I' F' _ _ (by omega) (by omega) (g.tr g') hI')⟩
  refine r_Reader_readKeys_0 ⟨hI.K3, 4, 21, cb - 4, sb - 21, by omega, by omega, ?_⟩
  refine c_field (most := 40) (by omega) hI.B hI.G (by omega) (by omega) (fun f q pt K1 n1 I1 F1 e1 _ s1 hf _ hP1 => ?_) (fun q K' n' I' F' e1 s1 => wBad q K' n' I' F' (by unfold keyP; exact zb_none e1) (hI.gr s1) (hI.step s1))
  have g1 := hI.gr s1
  have hI1 := hI.step s1
  refine r_Reader_readKeys_6 ⟨hI1.K3, 1, 6, cb - 5, sb - 27, by omega, by omega, ?_⟩
  refine c_take (si := 9) [44] (by omega) (by decide +kernel) (by decide +kernel) (by decide) (by decide) hI1.B (by omega) (by omega) (fun u q2 e2 => ?_) (fun q2 e2 => wBad q2 _ _ _ _ (by unfold keyP; rw [zb_some e1, zb_none e2]) (g1.tr (hI1.gm (tk_leN hI1.pL e2))) (hI1.move (tk_leN hI1.pL e2)))
  obtain ⟨k1, -, -⟩ := tk_le hI1.pL e2
  have g2 := g1.tr (hI1.gm (J := J) k1)
  have hP2 := hP1.step hI1.G hI1.K3 (rS.move (J := J) hI1.B hI1.G k1)
  have hI2 := hI1.move k1
  refine r_Reader_readKeys_13 ⟨hI2.K3, 1, 6, cb - 6, sb - 33, by omega, by omega, ?_⟩
  refine c_take (si := 11) [97, 100] (by omega) (by decide +kernel) (by decide +kernel) (by decide) (by decide) hI2.B (by omega) (by omega) (fun u3 q3 e3 => ?_) (fun q3 e3 => wBad q3 _ _ _ _ (by unfold keyP; rw [zb_some e1, zb_some e2, zb_none e3]) (g2.tr (hI2.gm (tk_leN hI2.pL e3))) (hI2.move (tk_leN hI2.pL e3)))
  obtain ⟨k3, m3, -⟩ := tk_le hI2.pL e3
  have g3 := g2.tr (hI2.gm (J := J) k3)
  have hP3 := hP2.step hI2.G hI2.K3 (rS.move (J := J) hI2.B hI2.G k3)
  have hI3 := hI2.move k3
  have hu3 : u3 < 200 := by
    rcases List.mem_cons.mp m3 with z | z
    · omega
    · have := List.mem_singleton.mp z; omega
  have hsk := sk_le (x := x) hI3.pL
  have g4 := g3.tr (hI3.gm (J := J) hsk.2)
  have hP4 := hP3.step hI3.G hI3.K3 (rS.move (J := J) hI3.B hI3.G hsk.2)
  have hI4 := hI3.move hsk.2
  have rest : ∀ dn : Bool, dn = (u3 == 100) → AW E m_Reader_nextSign (K1, n1, zup (zup I1 rd 4 (nI q2)) rd 4 (nI q3), F1, J) 0 0 (zAft E m_Reader_readKeys (cb - 6) (sb - 33) Q 34 [some (.ref rd), some (.ref pt), some (.int (zB dn)), some (.int (0 : Int32))] []) 0 [some (.ref rd)] [] := by
    intro dn hdn
    refine c_nextS hI3.B (fun v hv => r_Reader_readKeys_37 ⟨fun z => ?_, fun z => ⟨hI4.K3, 1, 6, cb - 7, sb - 39, by omega, by omega, ?_⟩⟩)
    · have e44 : sat x L (sk x L q3) ≠ some 44 := fun y => z ((zv_eq hv (c := 44) (by omega)).mpr y)
      refine tail (nb := false) g4 hI4 hP4 ?_ (by omega) (by omega) (by omega) (by omega)
      unfold keyP
      rw [zb_some e1, zb_some e2, zb_some e3, if_neg e44, hdn]
    · have e44 : sat x L (sk x L q3) = some 44 := (zv_eq hv (c := 44) (by omega)).mp z
      have htk : tkP x L [44] (sk x L q3) = (some 44, sk x L q3 + 1) := by unfold tkP; rw [sk_sk, e44]; rfl
      have htk' : tkP x L [44] q3 = (some 44, sk x L q3 + 1) := by unfold tkP; rw [e44]; rfl
      refine c_take (si := 9) [44] (by omega) (by decide +kernel) (by decide +kernel) (by decide) (by decide) hI4.B (by omega) (by omega) (fun u5 q5 e5 => ?_) (fun q5 e5 => by rw [htk] at e5; cases e5)
      rw [htk] at e5
      cases e5
      obtain ⟨k5, -, -⟩ := tk_le hI4.pL htk
      have g5 := g4.tr (hI4.gm (J := J) k5)
      have hP5 := hP4.step hI4.G hI4.K3 (rS.move (J := J) hI4.B hI4.G k5)
      have hI5 := hI4.move k5
      refine r_Reader_readKeys_48 ⟨hI5.K3, 1, 6, cb - 8, sb - 45, by omega, by omega, ?_⟩
      refine c_take (si := 12) [98, 110] (by omega) (by decide +kernel) (by decide +kernel) (by decide) (by decide) hI5.B (by omega) (by omega) (fun u6 q6 e6 => ?_) (fun q6 e6 => wBad q6 _ _ _ _ (by unfold keyP; rw [zb_some e1, zb_some e2, zb_some e3, if_pos e44, zb_some htk', zb_none e6]) (g5.tr (hI5.gm (tk_leN hI5.pL e6))) (hI5.move (tk_leN hI5.pL e6)))
      obtain ⟨k6, m6, -⟩ := tk_le hI5.pL e6
      have g6 := g5.tr (hI5.gm (J := J) k6)
      have hP6 := hP5.step hI5.G hI5.K3 (rS.move (J := J) hI5.B hI5.G k6)
      have hI6 := hI5.move k6
      have hu6 : u6 < 200 := by
        rcases List.mem_cons.mp m6 with z | z
        · omega
        · have := List.mem_singleton.mp z; omega
      have e110 : (nI u6 = 110) ↔ u6 = 110 := nI_eq (b := 110) (by omega) (by omega)
      have hk : ∀ nb : Bool, nb = (u6 == 110) → keyP x L p = (some (f.1, f.2, dn, nb), q6) := fun nb hnb => by
        unfold keyP
        rw [zb_some e1, zb_some e2, zb_some e3, if_pos e44, zb_some htk', zb_some e6, hdn, hnb]
      refine r_Reader_readKeys_55 ⟨fun z => tail (nb := false) g6 hI6 hP6 (hk false ?_) (by omega) (by omega) (by omega) (by omega), fun z => tail (nb := true) g6 hI6 hP6 (hk true ?_) (by omega) (by omega) (by omega) (by omega)⟩
      · have : u6 ≠ 110 := fun y => z (e110.mpr y)
        simp [this]
      · have : u6 = 110 := e110.mp z
        simp [this]
  have e100 : (nI u3 = 100) ↔ u3 = 100 := nI_eq (b := 100) (by omega) (by omega)
  refine r_Reader_readKeys_20 ⟨fun z => ⟨hI3.K3, rest false ?_⟩, fun z => ⟨hI3.K3, rest true ?_⟩⟩
  · have : u3 ≠ 100 := fun y => z (e100.mpr y)
    simp [this]
  · have : u3 = 100 := e100.mp z
    simp [this]
/-- readKeys() -/
theorem c_keysL : ∀ (d : Nat) {K n : Nat → Nat} {I : Nat → Nat → Int32} {F : Nat → Nat → Option Nat} {st : zStm} {p cb sb : Nat}, rI E K0 K n I F rd sg L x fo m st p → st.1.length + d = 5 → 10 * (d + 1) ≤ cb → 100 * (d + 1) ≤ sb →
    (∀ ks q K' n' I' F', keysF x L (d + 1) p = (some ks, q) → GR (fun a => K0 a = 0) (K, n, I, F, J) (K', n', I', F', J) → rI E K0 K' n' I' F' rd sg L x fo m (st.1 ++ ks, st.2) q → Q (.inl none) (K', n', I', F', J)) →
    (∀ q K' n' I' F', keysF x L (d + 1) p = (none, q) → GR (fun a => K0 a = 0) (K, n, I, F, J) (K', n', I', F', J) → rB K' n' I' F' rd sg L x q → HG E K' F' → Q (.inr "java/lang/IllegalArgumentException") (K', n', I', F', J)) →
    AW E m_Reader_readKeys (K, n, I, F, J) cb sb Q 0 [some (.ref rd), none, none, none] [] := by
  intro d
  induction d with
  | zero =>
    intro K n I F st p cb sb hI hlen hcb hsb w1 w2
    refine c_key1 hI (by omega) (by omega) (by omega) (fun q K' n' I' F' e g hI' => w2 q K' n' I' F' (by rw [keysF, zb_none e]) g hI'.B hI'.G) (fun k q e _ K' n' I' F' g hI' => w1 [k] q K' n' I' F' (by rw [keysF, zb_some e, if_pos rfl]) g hI') (fun k q e z => by omega) (fun k q e z => by omega)
  | succ d ih =>
    intro K n I F st p cb sb hI hlen hcb hsb w1 w2
    refine c_key1 hI (by omega) (by omega) (by omega) (fun q K' n' I' F' e g hI' => w2 q K' n' I' F' (by rw [keysF, zb_none e]) g hI'.B hI'.G) (fun k q e z => by omega) (fun k q e _ z2 K' n' I' F' g hI' => w1 [k] _ K' n' I' F' (by rw [keysF, zb_some e, if_neg (by omega), if_pos z2]) g hI') (fun k q e _ z2 K' n' I' F' cb' sb' hc hs g hI' => ?_)
    refine ih hI' (by simp; omega) (by omega) (by omega) (fun ks q' K2 n2 I2 F2 e2 g2 hI2 => w1 (k :: ks) q' K2 n2 I2 F2 ?_ (g.tr g2) ?_) (fun q' K2 n2 I2 F2 e2 g2 b2 hG2 => w2 q' K2 n2 I2 F2 ?_ (g.tr g2) b2 hG2)
    · rw [keysF, zb_some e, if_neg (by omega), if_neg z2, zb_some e2]
    · simpa using hI2
    · rw [keysF, zb_some e, if_neg (by omega), if_neg z2, zb_none e2]
end
