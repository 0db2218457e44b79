section
variable {E : zE} {K0 K n : Nat → Nat} {I : Nat → Nat → Int32} {F : Nat → Nat → Option Nat} {J : Nat → Nat → Int64} {cb sb : Nat} {Q : zO → zH → Prop} {rd sg L p fo m : Nat} {x : zTx} {st : zStm}
/-- behind the adding of a piece -/
theorem c_pieceT {q : Nat} {t : zPart} {N : Nat} (hI : rI E K0 K n I F rd sg L x fo m st q) (hN : st.2.2.2.1.length = N) (hN2 : N ≤ 12)
    (wEnd : N = 12 → Q (.inl none) (K, n, I, F, J))
    (wSemi : N < 12 → sat x L (sk x L q) = some 59 → Q (.inl none) (K, n, zup I rd 4 (nI (sk x L q)), F, J))
    (wMore : N < 12 → sat x L (sk x L q) ≠ some 59 → AW E m_Reader_readPieces (K, n, zup I rd 4 (nI (sk x L q)), F, J) cb sb Q 0 [some (.ref rd), none] []) :
    ∀ b4, F fo 3 = some b4 → AW E m_ArrayList_size (K, n, I, F, J) 0 0 (zAft E m_Reader_readPieces cb sb Q 77 [some (.ref rd), none] []) 0 [some (.ref b4)] [] := by
  intro b4 hb4
  obtain ⟨-, -, -, l3, -, -, -, u3, -, -, -, u7, -, -, -, u11⟩ := hI.lists
  cases hb4.symm.trans u3
  rw [hN] at u11
  refine c_size u7 u11 (r_Reader_readPieces_80 (pk_le 12 N (fun z => wEnd (by omega)) (fun z => ⟨hI.K3, c_nextS hI.B (fun v hv => ?_)⟩) rfl rfl (by omega) (by omega)))
  have e59 := zv_eq hv (c := 59) (by omega)
  exact r_Reader_readPieces_89 ⟨fun y => wMore z (fun y2 => y (e59.mpr y2)), fun y => wSemi z (e59.mp y)⟩
/-- one piece -/
theorem c_piece1 (hI : rI E K0 K n I F rd sg L x fo m st p) (hlen : st.2.2.2.1.length ≤ 11) (hcb : 5 ≤ cb) (hsb : 100 ≤ sb)
    (wBad : ∀ q K' n' I' F', pieceP x L p = (none, q) → GR (fun a => K0 a = 0) (K, n, I, F, J) (K', n', I', F', J) → rI E K0 K' n' I' F' rd sg L x fo m st q → Q (.inr "java/lang/IllegalArgumentException") (K', n', I', F', J))
    (wEnd : ∀ t q, pieceP x L p = (some t, q) → st.2.2.2.1.length = 11 → ∀ K' n' I' F', GR (fun a => K0 a = 0) (K, n, I, F, J) (K', n', I', F', J) → rI E K0 K' n' I' F' rd sg L x fo m (st.1, st.2.1, st.2.2.1, st.2.2.2.1 ++ [t], st.2.2.2.2) q → Q (.inl none) (K', n', I', F', J))
    (wSemi : ∀ t q, pieceP x L p = (some t, q) → st.2.2.2.1.length < 11 → sat x L (sk x L q) = some 59 → ∀ K' n' I' F', GR (fun a => K0 a = 0) (K, n, I, F, J) (K', n', I', F', J) → rI E K0 K' n' I' F' rd sg L x fo m (st.1, st.2.1, st.2.2.1, st.2.2.2.1 ++ [t], st.2.2.2.2) (sk x L q) → Q (.inl none) (K', n', I', F', J))
    (wMore : ∀ t q, pieceP x L p = (some t, q) → st.2.2.2.1.length < 11 → sat x L (sk x L q) ≠ some 59 → ∀ K' n' I' F' cb' sb', cb - 5 ≤ cb' → sb - 100 ≤ sb' → GR (fun a => K0 a = 0) (K, n, I, F, J) (K', n', I', F', J) → rI E K0 K' n' I' F' rd sg L x fo m (st.1, st.2.1, st.2.2.1, st.2.2.2.1 ++ [t], st.2.2.2.2) (sk x L q) → AW E m_Reader_readPieces (K', n', I', F', J) cb' sb' Q 0 [some (.ref rd), none] []) :
    AW E m_Reader_readPieces (K, n, I, F, J) cb sb Q 0 [some (.ref rd), none] [] := by
  have hsk := sk_le (x := x) hI.pL
  have g1 := hI.gm (J := J) hsk.2
  have hI1 := hI.move hsk.2
  obtain ⟨-, -, -, l3, -, -, -, y3, -, -, -, y7, -⟩ := hI1.lists
  -- the piece is there
  have tail : ∀ {K4 n4 : Nat → Nat} {I4 : Nat → Nat → Int32} {F4 : Nat → Nat → Option Nat} {pt q4 : Nat} {t : zPart} {c s : Nat}, rS E (K, n, zup I rd 4 (nI (sk x L p)), F, J) (K4, n4, I4, F4, J) rd sg L x q4 → cP K4 n4 I4 F4 pt t → pieceP x L p = (some t, q4) → 1 ≤ c → 45 ≤ s → cb - 5 ≤ c - 1 → sb - 100 ≤ s - 45 →
      K4 l3 = 10 ∧ (∃ c1 s1 c2 s2 : Nat, c1 + c2 ≤ c ∧ s1 + s2 ≤ s ∧ ∀ pc, (∀ K5 n5 I5 F5, (∀ b4, F5 fo 3 = some b4 → AW E m_ArrayList_size (K5, n5, I5, F5, J) 0 0 (zAft E m_Reader_readPieces c2 s2 Q 77 [some (.ref rd), none] []) 0 [some (.ref b4)] []) → K5 rd = 3 → F5 rd 2 = some fo → K5 fo = 6 → (∃ b, F5 fo 3 = some b ∧ K5 b = 10) → AW E m_Reader_readPieces (K5, n5, I5, F5, J) c2 s2 Q (pc + 3) [some (.ref rd), none] [.int 1]) → AW E m_ArrayList_add (K4, n4, I4, F4, J) c1 s1 (zAft E m_Reader_readPieces c2 s2 Q pc [some (.ref rd), none] []) 0 [some (.ref l3), some (.ref pt)] []) := by
    intro K4 n4 I4 F4 pt q4 t c s s4 hP hk hc hs hc2 hs2
    have hI4 := hI1.step s4
    have g4 := g1.tr (hI1.gr s4)
    have hfo : F4 fo = F fo := (s4.1.f (by have := hI1.fo6; omega) (fun z => by have := hI1.fo6; rw [z] at this; have := hI1.K3; omega)).2.1
    have hl : F4 fo 3 = some l3 := by rw [hfo]; exact y3
    refine ⟨(hI4.2.2.2.2.2.2.2.1.2 3 l3 (by decide) hl).1, 1, 45, c - 1, s - 45, by omega, by omega, fun pc hrest => ?_⟩
    refine c_addP hI4 hl hP (by omega) (by omega) (by omega) (fun K5 n5 I5 F5 g5 hI5 _ => ?_)
    obtain ⟨-, -, -, l5, -, -, -, u3, -, -, -, u7, -⟩ := hI5.lists
    have hsk5 := sk_le (x := x) hI5.pL
    refine hrest K5 n5 I5 F5 (c_pieceT (t := t) hI5 (N := st.2.2.2.1.length + 1) (by simp) (by omega) (fun z => wEnd t q4 hk (by omega) _ _ _ _ (g4.tr g5) hI5) (fun z z2 => wSemi t q4 hk (by omega) z2 _ _ _ _ ((g4.tr g5).tr (hI5.gm hsk5.2)) (hI5.move hsk5.2)) (fun z z2 => wMore t q4 hk (by omega) z2 _ _ _ _ _ _ (by omega) (by omega) ((g4.tr g5).tr (hI5.gm hsk5.2)) (hI5.move hsk5.2))) hI5.K3 hI5.F2 hI5.fo6 ⟨l5, u3, u7⟩
  refine r_Reader_readPieces_0 ⟨hI.K3, c_nextS hI.B (fun v hv => ?_)⟩
  have e39 := zv_eq hv (c := 39) (by omega)
  have e120 := zv_eq hv (c := 120) (by omega)
  refine r_Reader_readPieces_4 ⟨fun z => ⟨fun z2 => ⟨hI1.K3, fo, hI1.F2, hI1.fo6, l3, y3, 4, 21, cb - 4, sb - 21, by omega, by omega, ?_⟩, fun z2 => ⟨hI1.K3, fo, hI1.F2, hI1.fo6, l3, y3, 4, 55, cb - 4, sb - 55, by omega, by omega, ?_⟩⟩, fun z => ⟨hI1.K3, fo, hI1.F2, hI1.fo6, l3, y3, 3, 29, cb - 3, sb - 29, by omega, by omega, ?_⟩⟩
  · have h1 : sat x L (sk x L p) ≠ some 39 := fun y => z (e39.mpr y)
    have h2 : sat x L (sk x L p) ≠ some 120 := fun y => z2 (e120.mpr y)
    refine c_field (most := 40) (by omega) hI1.B hI1.G (by omega) (by omega) (fun f q4 pt K4 n4 I4 F4 e4 _ s4 _ _ hP4 => ?_) (fun q4 K' n' I' F' e4 s4 => wBad q4 K' n' I' F' (by unfold pieceP; rw [if_neg h1, if_neg h2, zb_none e4]) (g1.tr (hI1.gr s4)) (hI1.step s4))
    obtain ⟨t1, c1, s1, c2, s2, t2, t3, t4⟩ := tail (c := cb - 4) (s := sb - 21) s4 hP4 (by unfold pieceP; rw [if_neg h1, if_neg h2, zb_some e4]) (by omega) (by omega) (by omega) (by omega)
    refine r_Reader_readPieces_66 ⟨t1, c1, s1, c2, s2, t2, t3, t4 66 (fun K5 n5 I5 F5 a1 a2 a3 a4 a5 => ?_)⟩
    obtain ⟨b, a5, a6⟩ := a5
    exact r_Reader_readPieces_69 ⟨a2, fo, a3, a4, b, a5, a6, a1 b a5⟩
  · have h1 : sat x L (sk x L p) ≠ some 39 := fun y => z (e39.mpr y)
    have h2 : sat x L (sk x L p) = some 120 := e120.mp z2
    refine c_blanks hI1.B hI1.G (by rw [sk_sk]; exact h2) (by omega) (by omega) (fun u q4 pt K4 n4 I4 F4 e4 _ s4 _ hP4 => ?_) (fun q4 K' n' I' F' e4 s4 => wBad q4 K' n' I' F' (by rw [sk_sk] at e4; unfold pieceP; rw [if_neg h1, if_pos h2, zb_none e4]) (g1.tr (hI1.gr s4)) (hI1.step s4))
    rw [sk_sk] at e4
    obtain ⟨t1, c1, s1, c2, s2, t2, t3, t4⟩ := tail (c := cb - 4) (s := sb - 55) s4 hP4 (by unfold pieceP; rw [if_neg h1, if_pos h2, zb_some e4]) (by omega) (by omega) (by omega) (by omega)
    refine r_Reader_readPieces_46 ⟨t1, c1, s1, c2, s2, t2, t3, t4 46 (fun K5 n5 I5 F5 a1 a2 a3 a4 a5 => ?_)⟩
    obtain ⟨b, a5, a6⟩ := a5
    exact r_Reader_readPieces_49 ⟨a2, fo, a3, a4, b, a5, a6, a1 b a5⟩
  · have h1 : sat x L (sk x L p) = some 39 := e39.mp z
    refine c_text hI1.B hI1.G (by rw [sk_sk]; exact h1) (by omega) (by omega) (fun u q4 pt K4 n4 I4 F4 e4 _ s4 _ hP4 => ?_) (fun q4 K' n' I' F' e4 s4 => wBad q4 K' n' I' F' (by rw [sk_sk] at e4; unfold pieceP; rw [if_pos h1, zb_none e4]) (g1.tr (hI1.gr s4)) (hI1.step s4))
    rw [sk_sk] at e4
    obtain ⟨t1, c1, s1, c2, s2, t2, t3, t4⟩ := tail (c := cb - 3) (s := sb - 29) s4 hP4 (by unfold pieceP; rw [if_pos h1, zb_some e4]) (by omega) (by omega) (by omega) (by omega)
    refine r_Reader_readPieces_22 ⟨t1, c1, s1, c2, s2, t2, t3, t4 22 (fun K5 n5 I5 F5 a1 a2 a3 a4 a5 => ?_)⟩
    obtain ⟨b, a5, a6⟩ := a5
    exact r_Reader_readPieces_25 ⟨a2, fo, a3, a4, b, a5, a6, a1 b a5⟩
theorem c_pieces : ∀ (d : Nat) {K n : Nat → Nat} {I : Nat → Nat → Int32} {F : Nat → Nat → Option Nat} {st : zStm} {p cb sb : Nat}, rI E K0 K n I F rd sg L x fo m st p → st.2.2.2.1.length + d = 11 → 5 * (d + 1) ≤ cb → 100 * (d + 1) ≤ sb →
    (∀ ks q K' n' I' F', piecesF x L (d + 1) p = (some ks, q) → GR (fun a => K0 a = 0) (K, n, I, F, J) (K', n', I', F', J) → rI E K0 K' n' I' F' rd sg L x fo m (st.1, st.2.1, st.2.2.1, st.2.2.2.1 ++ ks, st.2.2.2.2) q → Q (.inl none) (K', n', I', F', J)) →
    (∀ q K' n' I' F', piecesF x L (d + 1) p = (none, q) → GR (fun a => K0 a = 0) (K, n, I, F, J) (K', n', I', F', J) → rB K' n' I' F' rd sg L x q → HG E K' F' → Q (.inr "java/lang/IllegalArgumentException") (K', n', I', F', J)) →
    AW E m_Reader_readPieces (K, n, I, F, J) cb sb Q 0 [some (.ref rd), none] [] := by
  intro d
  induction d with
  | zero =>
    intro K n I F st p cb sb hI hlen hcb hsb w1 w2
    refine c_piece1 hI (by omega) (by omega) (by omega) (fun q K' n' I' F' e g hI' => w2 q K' n' I' F' (by rw [piecesF, zb_none e]) g hI'.B hI'.G) (fun k q e _ K' n' I' F' g hI' => w1 [k] q K' n' I' F' (by rw [piecesF, zb_some e, if_pos rfl]) g hI') (fun k q e z => by omega) (fun k q e z => by omega)
  | succ d ih =>
    intro K n I F st p cb sb hI hlen hcb hsb w1 w2
    refine c_piece1 hI (by omega) (by omega) (by omega) (fun q K' n' I' F' e g hI' => w2 q K' n' I' F' (by rw [piecesF, zb_none e]) g hI'.B hI'.G) (fun k q e z => by omega) (fun k q e _ z2 K' n' I' F' g hI' => w1 [k] _ K' n' I' F' (by rw [piecesF, zb_some e, if_neg (by omega), if_pos z2]) g hI') (fun k q e _ z2 K' n' I' F' cb' sb' hc hs g hI' => ?_)
    refine ih hI' (by simp; omega) (by omega) (by omega) (fun ks q' K2 n2 I2 F2 e2 g2 hI2 => w1 (k :: ks) q' K2 n2 I2 F2 ?_ (g.tr g2) ?_) (fun q' K2 n2 I2 F2 e2 g2 b2 hG2 => w2 q' K2 n2 I2 F2 ?_ (g.tr g2) b2 hG2)
    · rw [piecesF, zb_some e, if_neg (by omega), if_neg z2, zb_some e2]
    · simpa using hI2
    · rw [piecesF, zb_some e, if_neg (by omega), if_neg z2, zb_none e2]
/-- a number of the statements is set -/
theorem rI.put {j : Nat} {v : Int32} {st' : zStm} (h : rI E K0 K n I F rd sg L x fo m st p) (hj : j = 4 ∨ j = 5 ∨ j = 6 ∨ j = 7) (hst : cSt E K n (zup I fo j v) F fo st') : rI E K0 K n (zup I fo j v) F rd sg L x fo m st' p ∧ GR (fun a => K0 a = 0) (K, n, I, F, J) (K, n, zup I fo j v, F, J) := by
  obtain ⟨h1, h2, h3, h4, h5, h6, h7, h8, h9, h10⟩ := h
  have hfo := h10.1
  have hne : rd ≠ fo := fun z => by rw [← z] at hfo; have := h1.1; omega
  have hns : sg ≠ fo := fun z => by rw [← z] at hfo; have := h1.2.2.1; omega
  have g : GR (fun a => a = fo) (K, n, I, F, J) (K, n, zup I fo j v, F, J) := fun a _ => ⟨rfl, rfl, fun hn => ⟨zup_n _ _ _ hn, rfl, rfl⟩⟩
  exact ⟨⟨h1.fr g hne hns, h2, h3, by rw [zup_n _ _ _ hne]; exact h4, h5, h6, h7, h8, h9, hst⟩, g.mono (fun a _ z => by have hb : a = fo := z; rw [hb]; exact h7)⟩
theorem cSt.put {j : Nat} {v : Int32} {st' : zStm} (h : cSt E K n I F fo st) (hG : HG E K F) (hj : j = 4 ∨ j = 5 ∨ j = 6 ∨ j = 7) (e0 : st'.1 = st.1) (e1 : st'.2.1 = st.2.1) (e2 : st'.2.2.1 = st.2.2.1) (e3 : st'.2.2.2.1 = st.2.2.2.1)
    (q4 : (zup I fo j v) fo 4 = zB st'.2.2.2.2.1) (q5 : (zup I fo j v) fo 5 = nI st'.2.2.2.2.2.1) (q6 : (zup I fo j v) fo 6 = nI st'.2.2.2.2.2.2.1) (q7 : (zup I fo j v) fo 7 = nI st'.2.2.2.2.2.2.2) (b5 : st'.2.2.2.2.2.1 ≤ 9999) (b6 : st'.2.2.2.2.2.2.1 ≤ 9999) (b7 : st'.2.2.2.2.2.2.2 ≤ 500) : cSt E K n (zup I fo j v) F fo st' := by
  obtain ⟨h1, -, -, -, -, -, -, -, l0, l1, l2, l3, f0, f1, f2, f3, a0, a1, a2, a3⟩ := h
  have g : GR (fun a => a = fo) (K, n, I, F, fun _ _ => (0 : Int64)) (K, n, zup I fo j v, F, fun _ _ => (0 : Int64)) := fun a _ => ⟨rfl, rfl, fun hn => ⟨zup_n _ _ _ hn, rfl, rfl⟩⟩
  have hSK : ∀ a, K a ≠ 0 → a = fo → K a ≠ 1 ∧ K a ≠ 2 ∧ K a ≠ 7 ∧ K a ≠ 20 := fun a _ z => by rw [z]; omega
  have fr : ∀ {α : Type} {C C' : Nat → α → Prop} {l : Nat} {ts : List α}, cA E K n I F C l ts → (∀ a t, C a t → C' a t) → cA E K n (zup I fo j v) F C' l ts := by
    intro α C C' l ts hA hC
    obtain ⟨xs, cap, c1, c2, c3, c4⟩ := hA
    refine ⟨xs, cap, c1.fr g (fun z => ?_) (fun e he hk z => ?_), c2, c3, fun i t ht => hC _ _ (c4 i t ht)⟩
    · have := c1.1; rw [z] at this; omega
    · rw [z] at hk; omega
  refine ⟨h1, q4, q5, q6, q7, b5, b6, b7, l0, l1, l2, l3, f0, f1, f2, f3, ?_, ?_, ?_, ?_⟩
  · rw [e0]; exact fr a0 (fun a t q => q.frK g hG hSK)
  · rw [e1]; exact fr a1 (fun a t q => q.frK g hG hSK)
  · rw [e2]; exact fr a2 (fun a t q => q.frK g hG hSK)
  · rw [e3]; exact fr a3 (fun a t q => q.frK g hG hSK)
end
