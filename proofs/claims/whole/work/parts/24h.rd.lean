section
variable {E : zE} {K0 K n : Nat → Nat} {I : Nat → Nat → Int32} {F : Nat → Nat → Option Nat} {J : Nat → Nat → Int64} {cb sb : Nat} {Q : zO → zH → Prop} {rd sg L p fo m : Nat} {x : zTx} {st : zStm}
/-- one test -/
theorem c_test1 {k : Nat} {b : Bool} (hI : rI E K0 K n I F rd sg L x fo m st p) (hk : k < 10) (hlen : st.2.1.length ≤ 20) (hcb : 12 ≤ cb) (hsb : 120 ≤ sb)
    (wBad : ∀ q K' n' I' F', testP x L b p = (none, q) → GR (fun a => K0 a = 0) (K, n, I, F, J) (K', n', I', F', J) → rI E K0 K' n' I' F' rd sg L x fo m st q → Q (.inr "java/lang/IllegalArgumentException") (K', n', I', F', J))
    (wEnd : ∀ t q, testP x L b p = (some t, q) → ¬ (sat x L (sk x L q) = some 38 ∨ sat x L (sk x L q) = some 124) → ∀ K' n' I' F', GR (fun a => K0 a = 0) (K, n, I, F, J) (K', n', I', F', J) → rI E K0 K' n' I' F' rd sg L x fo m (st.1, st.2.1 ++ [t], st.2.2) (sk x L q) → Q (.inl none) (K', n', I', F', J))
    (wMore : ∀ t q, testP x L b p = (some t, q) → (sat x L (sk x L q) = some 38 ∨ sat x L (sk x L q) = some 124) → ∀ K' n' I' F' cb' sb', cb - 12 ≤ cb' → sb - 120 ≤ sb' → GR (fun a => K0 a = 0) (K, n, I, F, J) (K', n', I', F', J) → rI E K0 K' n' I' F' rd sg L x fo m (st.1, st.2.1 ++ [t], st.2.2) (sk x L q + 1) → AW E m_Reader_readTests (K', n', I', F', J) cb' sb' Q 4 [some (.ref rd), some (.int (zB (sat x L (sk x L q) == some 124))), some (.int (nI (k + 1))), none, none, none, none] []) :
    AW E m_Reader_readTests (K, n, I, F, J) cb sb Q 4 [some (.ref rd), some (.int (zB b)), some (.int (nI k)), none, none, none, none] [] := by
  refine r_Reader_readTests_4 (br_f (nI_ge (b := 10) hk (by omega)) ⟨hI.K3, 4, 21, cb - 4, sb - 21, by omega, by omega, ?_⟩)
  refine c_field (most := 40) (by omega) hI.B hI.G (by omega) (by omega) (fun f q pt K1 n1 I1 F1 e1 _ s1 hf _ hP1 => ?_) (fun q K' n' I' F' e1 s1 => wBad q K' n' I' F' (by unfold testP; exact zb_none e1) (hI.gr s1) (hI.step s1))
  have g1 := hI.gr s1
  have hI1 := hI.step s1
  refine r_Reader_readTests_16 ⟨hI1.K3, 1, 6, cb - 5, sb - 27, by omega, by omega, ?_⟩
  refine c_take (si := 13) [61, 35, 60, 62] (by omega) (by decide +kernel) (by decide +kernel) (by decide) (by decide) hI1.B (by omega) (by omega) (fun u q2 e2 => ?_) (fun q2 e2 => wBad q2 _ _ _ _ (by unfold testP; rw [zb_some e1, zb_none e2]) (g1.tr (hI1.gm (tk_leN hI1.pL e2))) (hI1.move (tk_leN hI1.pL e2)))
  obtain ⟨k2, m2, -⟩ := tk_le hI1.pL e2
  have hu : u < 200 := (show ∀ y ∈ [61, 35, 60, 62], y < 200 by decide) u m2
  have g2 := g1.tr (hI1.gm (J := J) k2)
  have hP2 := hP1.step hI1.G hI1.K3 (rS.move (J := J) hI1.B hI1.G k2)
  have hI2 := hI1.move k2
  have hsk := sk_le (x := x) hI2.pL
  have g3 := g2.tr (hI2.gm (J := J) hsk.2)
  have hP3 := hP2.step hI2.G hI2.K3 (rS.move (J := J) hI2.B hI2.G hsk.2)
  have hI3 := hI2.move hsk.2
  refine r_Reader_readTests_23 ⟨hI2.K3, c_nextS hI2.B (fun v hv => ?_)⟩
  -- the test is made and added
  have tail : ∀ {K4 n4 : Nat → Nat} {I4 : Nat → Nat → Int32} {F4 : Nat → Nat → Option Nat} {pt2 q4 : Nat} {gp : zPart} {c s : Nat}, GR (fun a => K0 a = 0) (K, n, I, F, J) (K4, n4, I4, F4, J) → rI E K0 K4 n4 I4 F4 rd sg L x fo m st q4 → cP K4 n4 I4 F4 pt (none, f.1, f.2) → cP K4 n4 I4 F4 pt2 gp → rightP x L q2 = (some gp, q4) → 3 ≤ c → 55 ≤ s → cb - 12 ≤ c - 3 → sb - 120 ≤ s - 55 →
      AW E m_Reader_readTests (K4, n4, I4, F4, J) c s Q 47 [some (.ref rd), some (.int (zB b)), some (.int (nI k)), some (.ref pt), some (.int (nI u)), none, none] [.ref pt2] := by
    intro K4 n4 I4 F4 pt2 q4 gp c s g4 hI4 hPa hPb e4 hc hs hc2 hs2
    have hT : testP x L b p = (some (b, (none, f.1, f.2), u, gp), q4) := by unfold testP; rw [zb_some e1, zb_some e2, zb_some e4]
    obtain ⟨-, l1, -, -, -, y1, -, -, -, y5, -⟩ := hI4.lists
    refine r_Reader_readTests_47 ⟨hI4.K3, fo, hI4.F2, hI4.fo6, l1, y1, c - 1, s - 4, by omega, by omega, fun a ha => ?_⟩
    refine r_Reader_readTests_59 (r_Test_init_0 ⟨va_up_s _ _ _, zB_01 _, ?_⟩)
    rw [zup_up, zup_up, zup_up, zup_up]
    have hG5 : HG E (va_up K4 a 7) (va_up F4 a (va_up (va_up (fun _ => none) 1 (some pt)) 3 (some pt2))) := by
      have := ((hI4.G.new 7 ha).put a 1 (some pt) (by rw [va_up_s]; omega) (by rw [va_up_s]; omega) (by rw [va_up_s]; omega)).put a 3 (some pt2) (by rw [va_up_s]; omega) (by rw [va_up_s]; omega) (by rw [va_up_s]; omega)
      rw [zup_up, zup_up] at this
      exact this
    have g5 : GR (fun _ => False) (K4, n4, I4, F4, J) (va_up K4 a 7, n4, va_up I4 a (va_up (va_up (fun _ => 0) 0 (zB b)) 2 (nI u)), va_up F4 a (va_up (va_up (fun _ => none) 1 (some pt)) 3 (some pt2)), J) := GR.newO ha 7 _ _
    have s5 := rS.made hI4.B g5 hG5
    have hI5 := hI4.step s5
    have hPa5 := hPa.step hI4.G hI4.K3 s5
    have hPb5 := hPb.step hI4.G hI4.K3 s5
    have hcT : cT (va_up K4 a 7) n4 (va_up I4 a (va_up (va_up (fun _ => 0) 0 (zB b)) 2 (nI u))) (va_up F4 a (va_up (va_up (fun _ => none) 1 (some pt)) 3 (some pt2))) a (b, (none, f.1, f.2), u, gp) := ⟨va_up_s _ _ _, by rw [va_up_s]; simp [va_up], by rw [va_up_s]; simp [va_up], by show u < 256; omega, pt, pt2, by rw [va_up_s]; simp [va_up], hPa5, by rw [va_up_s]; simp [va_up], hPb5⟩
    have hfa : fo ≠ a := fun z => by have := hI4.fo6; rw [z, ha] at this; cases this
    have hl1 : (va_up F4 a (va_up (va_up (fun _ => none) 1 (some pt)) 3 (some pt2))) fo 1 = some l1 := by rw [va_up_n _ _ hfa]; exact y1
    refine r_Reader_readTests_69 ⟨(hI5.2.2.2.2.2.2.2.1.2 1 l1 (by decide) hl1).1, 1, 45, c - 2, s - 49, by omega, by omega, ?_⟩
    refine c_addT hI5 hl1 hcT hlen (by omega) (by omega) (fun K6 n6 I6 F6 g6 hI6 hF6 => ?_)
    have g06 := (g4.tr (g5.mono (fun _ _ z => z.elim))).tr g6
    have hsk6 := sk_le (x := x) hI6.pL
    have g7 := g06.tr (hI6.gm (J := J) hsk6.2)
    have hI7 := hI6.move hsk6.2
    refine r_Reader_readTests_72 ⟨hI6.K3, c_nextS hI6.B (fun v6 hv6 => ?_)⟩
    have e38 := zv_eq hv6 (c := 38) (by omega)
    have e124 := zv_eq hv6 (c := 124) (by omega)
    have more : (sat x L (sk x L q4) = some 38 ∨ sat x L (sk x L q4) = some 124) → AW E m_Reader_take (K6, n6, zup I6 rd 4 (nI (sk x L q4)), F6, J) 1 6 (zAft E m_Reader_readTests (c - 3) (s - 55) Q 97 [some (.ref rd), none, some (.int (nI k)), none, none, none, none] []) 0 [some (.ref rd), some (.ref (E.2.1 (100 + 16))), none, none] [] := by
      intro hor
      obtain ⟨w, hw, hw2⟩ : ∃ w, sat x L (sk x L q4) = some w ∧ (w = 38 ∨ w = 124) := by
        rcases hor with z | z
        · exact ⟨38, z, Or.inl rfl⟩
        · exact ⟨124, z, Or.inr rfl⟩
      have htk : tkP x L [38, 124] (sk x L q4) = (some w, sk x L q4 + 1) := by
        unfold tkP
        rw [sk_sk, hw]
        rcases hw2 with z | z <;> subst z <;> rfl
      refine c_take (si := 16) [38, 124] (by omega) (by decide +kernel) (by decide +kernel) (by decide) (by decide) hI7.B (by omega) (by omega) (fun u8 q8 e8 => ?_) (fun q8 e8 => by rw [htk] at e8; cases e8)
      rw [htk] at e8
      cases e8
      obtain ⟨k8, -, -⟩ := tk_le hI7.pL htk
      have g8 := g7.tr (hI7.gm (J := J) k8)
      have hI8 := hI7.move k8
      have W := wMore _ q4 hT hor _ _ _ _ (c - 3) (s - 55) (by omega) (by omega) g8 hI8
      have ew : (nI w = 124) ↔ w = 124 := nI_eq (b := 124) (by omega) (by omega)
      refine r_Reader_readTests_100 ⟨fun z => ?_, fun z => ?_⟩
      · have hne : w ≠ 124 := fun y => z (ew.mpr y)
        have : (sat x L (sk x L q4) == some 124) = false := by rw [hw]; simp [hne]
        rw [this] at W
        rw [nI_1]
        exact W
      · have he : w = 124 := ew.mp z
        have : (sat x L (sk x L q4) == some 124) = true := by rw [hw, he]; rfl
        rw [this] at W
        rw [nI_1]
        exact W
    refine r_Reader_readTests_77 ⟨fun z => ⟨hI7.K3, 1, 6, c - 3, s - 55, by omega, by omega, more (Or.inl (e38.mp z))⟩, fun z => ⟨fun z2 => ⟨hI7.K3, 1, 6, c - 3, s - 55, by omega, by omega, more (Or.inr (e124.mp z2))⟩, fun z2 => ?_⟩⟩
    exact wEnd _ q4 hT (fun y => y.elim (fun y => z (e38.mpr y)) (fun y => z2 (e124.mpr y))) _ _ _ _ g7 hI7
  have e39 := zv_eq hv (c := 39) (by omega)
  refine r_Reader_readTests_29 ⟨fun z => ⟨hI3.K3, 4, 21, cb - 9, sb - 48, by omega, by omega, ?_⟩, fun z => ⟨hI3.K3, 3, 29, cb - 8, sb - 56, by omega, by omega, ?_⟩⟩
  · have hn : sat x L (sk x L q2) ≠ some 39 := fun y => z (e39.mpr y)
    refine c_field (most := 40) (by omega) hI3.B hI3.G (by omega) (by omega) (fun f4 q4 pt4 K4 n4 I4 F4 e4 _ s4 hf4 _ hP4 => ?_) (fun q4 K' n' I' F' e4 s4 => wBad q4 K' n' I' F' (by unfold testP rightP; rw [zb_some e1, zb_some e2, if_neg hn, zb_none e4]; rfl) (g3.tr (hI3.gr s4)) (hI3.step s4))
    exact tail (g3.tr (hI3.gr s4)) (hI3.step s4) (hP3.step hI3.G hI3.K3 s4) hP4 (by unfold rightP; rw [if_neg hn, zb_some e4]) (by omega) (by omega) (by omega) (by omega)
  · have hy : sat x L (sk x L q2) = some 39 := e39.mp z
    have hy2 : sat x L (sk x L (sk x L q2)) = some 39 := by rw [sk_sk]; exact hy
    refine c_text hI3.B hI3.G hy2 (by omega) (by omega) (fun t q4 pt4 K4 n4 I4 F4 e4 _ s4 _ hP4 => r_Reader_readTests_38 ?_) (fun q4 K' n' I' F' e4 s4 => wBad q4 K' n' I' F' (by rw [sk_sk] at e4; unfold testP rightP; rw [zb_some e1, zb_some e2, if_pos hy, zb_none e4]; rfl) (g3.tr (hI3.gr s4)) (hI3.step s4))
    rw [sk_sk] at e4
    exact tail (g3.tr (hI3.gr s4)) (hI3.step s4) (hP3.step hI3.G hI3.K3 s4) hP4 (by unfold rightP; rw [if_pos hy, zb_some e4]) (by omega) (by omega) (by omega) (by omega)
theorem c_testsL : ∀ (d : Nat) {k : Nat} {b : Bool} {K n : Nat → Nat} {I : Nat → Nat → Int32} {F : Nat → Nat → Option Nat} {st : zStm} {p cb sb : Nat}, rI E K0 K n I F rd sg L x fo m st p → st.2.1.length = k → k + d = 10 → 12 * d + 1 ≤ cb → 120 * d + 6 ≤ sb →
    (∀ ts q K' n' I' F', testsF x L d b p = (some ts, q) → GR (fun a => K0 a = 0) (K, n, I, F, J) (K', n', I', F', J) → rI E K0 K' n' I' F' rd sg L x fo m (st.1, st.2.1 ++ ts, st.2.2) q → Q (.inl none) (K', n', I', F', J)) →
    (∀ q K' n' I' F', testsF x L d b p = (none, q) → GR (fun a => K0 a = 0) (K, n, I, F, J) (K', n', I', F', J) → rB K' n' I' F' rd sg L x q → HG E K' F' → Q (.inr "java/lang/IllegalArgumentException") (K', n', I', F', J)) →
    AW E m_Reader_readTests (K, n, I, F, J) cb sb Q 4 [some (.ref rd), some (.int (zB b)), some (.int (nI k)), none, none, none, none] [] := by
  intro d
  induction d with
  | zero =>
    intro k b K n I F st p cb sb hI hk hd hcb hsb w1 w2
    have hsk := sk_le (x := x) hI.pL
    refine r_Reader_readTests_4 (br_t (nI_le (a := 10) (by omega) (by omega)) ⟨hI.K3, c_nextS hI.B (fun v hv => r_Reader_readTests_121 ⟨by omega, by omega, ?_⟩)⟩)
    exact w2 _ _ _ _ _ rfl (hI.gm hsk.2) (hI.move hsk.2).B hI.G
  | succ d ih =>
    intro k b K n I F st p cb sb hI hk hd hcb hsb w1 w2
    refine c_test1 hI (by omega) (by omega) (by omega) (by omega) (fun q K' n' I' F' e g hI' => w2 q K' n' I' F' (by rw [testsF, zb_none e]) g hI'.B hI'.G) (fun t q e z K' n' I' F' g hI' => w1 [t] _ K' n' I' F' (by rw [testsF, zb_some e, if_neg z]) g hI') (fun t q e z K' n' I' F' cb' sb' hc hs g hI' => ?_)
    refine ih hI' (by simp; omega) (by omega) (by omega) (by omega) (fun ts q' K2 n2 I2 F2 e2 g2 hI2 => w1 (t :: ts) q' K2 n2 I2 F2 ?_ (g.tr g2) ?_) (fun q' K2 n2 I2 F2 e2 g2 b2 hG2 => w2 q' K2 n2 I2 F2 ?_ (g.tr g2) b2 hG2)
    · rw [testsF, zb_some e, if_pos z, zb_some e2]
    · simpa using hI2
    · rw [testsF, zb_some e, if_pos z, zb_none e2]
/-- what follows a field or a piece: size, the next sign, once more or the end -/
theorem c_sums : ∀ (d : Nat) {K n : Nat → Nat} {I : Nat → Nat → Int32} {F : Nat → Nat → Option Nat} {st : zStm} {p cb sb : Nat}, rI E K0 K n I F rd sg L x fo m st p → st.2.2.1.length + d = 3 → 5 * (d + 1) ≤ cb → 70 * (d + 1) ≤ sb →
    (∀ ks q K' n' I' F', sumsF x L (d + 1) p = (some ks, q) → GR (fun a => K0 a = 0) (K, n, I, F, J) (K', n', I', F', J) → rI E K0 K' n' I' F' rd sg L x fo m (st.1, st.2.1, st.2.2.1 ++ ks, st.2.2.2) q → Q (.inl none) (K', n', I', F', J)) →
    (∀ q K' n' I' F', sumsF x L (d + 1) p = (none, q) → GR (fun a => K0 a = 0) (K, n, I, F, J) (K', n', I', F', J) → rB K' n' I' F' rd sg L x q → HG E K' F' → Q (.inr "java/lang/IllegalArgumentException") (K', n', I', F', J)) →
    AW E m_Reader_readSums (K, n, I, F, J) cb sb Q 0 [some (.ref rd)] [] := by
  intro d
  induction d with
  | zero =>
    intro K n I F st p cb sb hI hlen hcb hsb w1 w2
    obtain ⟨-, -, l2, -, -, -, y2, -, -, -, y6, -⟩ := hI.lists
    refine r_Reader_readSums_0 ⟨hI.K3, fo, hI.F2, hI.fo6, l2, y2, 4, 21, cb - 4, sb - 21, by omega, by omega, ?_⟩
    refine c_field (most := 9) (by omega) hI.B hI.G (by omega) (by omega) (fun f q pt K1 n1 I1 F1 e1 _ s1 hf _ hP1 => ?_) (fun q K' n' I' F' e1 s1 => w2 q K' n' I' F' (by rw [sumsF, zb_none e1]) (hI.gr s1) (hI.step s1).B (hI.step s1).G)
    have hI1 := hI.step s1
    have hfo : F1 fo = F fo := (s1.1.f (by have := hI.fo6; omega) (fun z => by have := hI.fo6; rw [z] at this; have := hI.K3; omega)).2.1
    refine r_Reader_readSums_13 ⟨(hI1.2.2.2.2.2.2.2.1.2 2 l2 (by decide) (by rw [hfo]; exact y2)).1, 1, 45, cb - 5, sb - 66, by omega, by omega, ?_⟩
    refine c_addS hI1 (by rw [hfo]; exact y2) hP1 (by omega) (by omega) (by omega) (fun K2 n2 I2 F2 g2 hI2 _ => ?_)
    obtain ⟨-, -, l2', -, -, -, u2, -, -, -, u6, -, -, -, u10, -⟩ := hI2.lists
    refine r_Reader_readSums_16 ⟨hI2.K3, fo, hI2.F2, hI2.fo6, l2', u2, u6, c_size u6 u10 (r_Reader_readSums_27 (br_t ?_ ?_))⟩
    · exact nI_le (a := 4) (by simp; omega) (by simp; omega)
    · exact w1 [(none, f.1, f.2)] q _ _ _ _ (by rw [sumsF, zb_some e1, if_pos rfl]) ((hI.gr s1).tr g2) hI2
  | succ d ih =>
    intro K n I F st p cb sb hI hlen hcb hsb w1 w2
    obtain ⟨-, -, l2, -, -, -, y2, -, -, -, y6, -⟩ := hI.lists
    refine r_Reader_readSums_0 ⟨hI.K3, fo, hI.F2, hI.fo6, l2, y2, 4, 21, cb - 4, sb - 21, by omega, by omega, ?_⟩
    refine c_field (most := 9) (by omega) hI.B hI.G (by omega) (by omega) (fun f q pt K1 n1 I1 F1 e1 _ s1 hf _ hP1 => ?_) (fun q K' n' I' F' e1 s1 => w2 q K' n' I' F' (by rw [sumsF, zb_none e1]) (hI.gr s1) (hI.step s1).B (hI.step s1).G)
    have hI1 := hI.step s1
    have hfo : F1 fo = F fo := (s1.1.f (by have := hI.fo6; omega) (fun z => by have := hI.fo6; rw [z] at this; have := hI.K3; omega)).2.1
    refine r_Reader_readSums_13 ⟨(hI1.2.2.2.2.2.2.2.1.2 2 l2 (by decide) (by rw [hfo]; exact y2)).1, 1, 45, cb - 5, sb - 66, by omega, by omega, ?_⟩
    refine c_addS hI1 (by rw [hfo]; exact y2) hP1 (by omega) (by omega) (by omega) (fun K2 n2 I2 F2 g2 hI2 _ => ?_)
    obtain ⟨-, -, l2', -, -, -, u2, -, -, -, u6, -, -, -, u10, -⟩ := hI2.lists
    refine r_Reader_readSums_16 ⟨hI2.K3, fo, hI2.F2, hI2.fo6, l2', u2, u6, c_size u6 u10 (r_Reader_readSums_27 (br_f ?_ ⟨hI2.K3, c_nextS hI2.B (fun v hv => ?_)⟩))⟩
    · exact nI_ge (b := 4) (by simp; omega) (by omega)
    have hsk := sk_le (x := x) hI2.pL
    have g3 := ((hI.gr s1).tr g2).tr (hI2.gm (J := J) hsk.2)
    have hI3 := hI2.move hsk.2
    have e59 := zv_eq hv (c := 59) (by omega)
    refine r_Reader_readSums_35 ⟨fun z => ?_, fun z => w1 [(none, f.1, f.2)] _ _ _ _ _ (by rw [sumsF, zb_some e1, if_neg (by omega), if_pos (e59.mp z)]) g3 hI3⟩
    have hn : ¬ sat x L (sk x L q) = some 59 := fun y => z (e59.mpr y)
    refine ih hI3 (by simp; omega) (by omega) (by omega) (fun ks q' K4 n4 I4 F4 e4 g4 hI4 => w1 ((none, f.1, f.2) :: ks) q' K4 n4 I4 F4 ?_ (g3.tr g4) ?_) (fun q' K4 n4 I4 F4 e4 g4 b4 hG4 => w2 q' K4 n4 I4 F4 ?_ (g3.tr g4) b4 hG4)
    · rw [sumsF, zb_some e1, if_neg (by omega), if_neg hn, zb_some e4]
    · simpa using hI4
    · rw [sumsF, zb_some e1, if_neg (by omega), if_neg hn, zb_none e4]
end
