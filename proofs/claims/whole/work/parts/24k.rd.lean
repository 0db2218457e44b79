theorem say_size {x : zTx} {L k p q : Nat} {st s : zStm} (e : sayP x L k st p = (some s, q)) : s.2.2.2.2.2.2.2 = st.2.2.2.2.2.2.2 := by
  have inv : ∀ {α : Type} {a : Option α × Nat} {f : α → Nat → Option zStm × Nat}, zbind a f = (some s, q) → ∃ u r, f u r = (some s, q) := by
    intro α a f hz
    obtain ⟨o, r⟩ := a
    cases o with
    | none => cases hz
    | some u => exact ⟨u, r, hz⟩
  unfold sayP at e
  repeat' split at e
  all_goals
    obtain ⟨u, r, hz⟩ := inv e
    cases hz
    rfl
section
variable {E : zE} {K0 K n : Nat → Nat} {I : Nat → Nat → Int32} {F : Nat → Nat → Option Nat} {J : Nat → Nat → Int64} {cb sb : Nat} {Q : zO → zH → Prop} {rd sg L p fo m : Nat} {x : zTx} {st : zStm}
theorem rI.setM {m' q : Nat} (h : rI E K0 K n I F rd sg L x fo m st p) (hm : m' < 64) (hq : q ≤ L) : rI E K0 K n (zup (zup I rd 3 (nI m')) rd 4 (nI q)) F rd sg L x fo m' st q ∧ GR (fun a => K0 a = 0) (K, n, I, F, J) (K, n, zup (zup I rd 3 (nI m')) rd 4 (nI q), F, J) := by
  obtain ⟨h1, h2, h3, h4, h5, h6, h7, h8, h9, h10⟩ := h
  have g : GR (fun a => a = rd) (K, n, I, F, J) (K, n, zup (zup I rd 3 (nI m')) rd 4 (nI q), F, J) := fun a _ => ⟨rfl, rfl, fun hn => ⟨by show zup _ _ _ _ a = I a; rw [zup_n _ _ _ hn, zup_n _ _ _ hn], rfl, rfl⟩⟩
  have hk3 := h1.1
  refine ⟨⟨?_, h2, h3, ?_, hm, h6, h7, h8, h9, h10.frF g h9 (fun a _ z => Or.inl (by have hb : a = rd := z; rw [hb]; omega))⟩, g.mono (fun a _ z => by have hb : a = rd := z; rw [hb]; exact h2)⟩
  · obtain ⟨k1, k2, k3, k4, k5, k6, k7, k8, k9⟩ := h1
    have hne : sg ≠ rd := fun z => by rw [z] at k3; omega
    exact ⟨k1, k2, k3, k4, k5, by rw [zup_k _ _ _ (by decide), zup_k _ _ _ (by decide)]; exact k6, zup_s _ _ _ _, hq, fun i hi => by rw [zup_n _ _ _ hne, zup_n _ _ _ hne]; exact k9 i hi⟩
  · rw [zup_k _ _ _ (by decide), zup_s]
/-- readAll() -/
theorem c_all : ∀ (d : Nat) {K n : Nat → Nat} {I : Nat → Nat → Int32} {F : Nat → Nat → Option Nat} {st : zStm} {m p cb sb : Nat}, rI E K0 K n I F rd sg L x fo m st p → wInv m st → st.2.2.2.2.2.2.2 ≤ p → L - p < d → 140 * (L - p) ≤ cb → 1400 * (L - p) ≤ sb →
    (∀ s q m' K' n' I' F', allF x L d m st p = (some s, q) → GR (fun a => K0 a = 0) (K, n, I, F, J) (K', n', I', F', J) → rI E K0 K' n' I' F' rd sg L x fo m' s q → Q (.inl (some (.ref fo))) (K', n', I', F', J)) →
    (∀ q K' n' I' F', allF x L d m st p = (none, q) → GR (fun a => K0 a = 0) (K, n, I, F, J) (K', n', I', F', J) → rB K' n' I' F' rd sg L x q → HG E K' F' → Q (.inr "java/lang/IllegalArgumentException") (K', n', I', F', J)) →
    AW E m_Reader_readAll (K, n, I, F, J) cb sb Q 0 [some (.ref rd)] [] := by
  intro d
  induction d with
  | zero => intro K n I F st m p cb sb hI hw hs hd; omega
  | succ d ih =>
    intro K n I F st m p cb sb hI hw hs hd hcb hsb w1 w2
    have hp := hI.pL
    have hsk := sk_le (x := x) hp
    have hL := hI.1.2.2.2.2.1
    obtain ⟨c1, c2, c3, c4, c5, c6, c7, c8, -⟩ := id hI.2.2.2.2.2.2.2.2.2
    refine r_Reader_readAll_0 ⟨hI.K3, fo, hI.F2, hI.fo6, ?_⟩
    rw [hI.1.2.2.2.2.2.1, c5]
    refine pk_le L st.2.2.2.2.2.2.2 (fun z => ?_) (fun z => ?_) rfl rfl (by omega) (by omega)
    · have hpL : sk x L p = p := sk_stop (by omega)
      refine w1 st p m K n I F ?_ (GR.refl _) hI
      rw [allF, if_neg (by omega), hpL]
    · refine c_hasMore hI.B (r_Reader_readAll_18 ?_)
      have g1 := hI.gm (J := J) hsk.2
      have hI1 := hI.move hsk.2
      by_cases hm : sk x L p < L
      · rw [if_pos hm]
        refine ⟨fun y => absurd y (by decide), fun _ => ⟨hI1.K3, 1, 6, cb - 1, sb - 6, by omega, by omega, ?_⟩⟩
        refine c_word hI1.B hI1.2.2.2.1 hI1.2.2.2.2.1 (by omega) (by omega) (fun k q e hk hq => ?_) (fun e => w2 _ _ _ _ _ (by rw [allF, if_pos hm, zb_none e]) g1 hI1.B hI1.G)
        have hwd : m &&& zwb k = 0 := by
          unfold wordP at e
          dsimp only at e
          split at e
          · rename_i j hj
            have := Prod.mk.inj e
            rw [← Option.some.inj this.1]
            exact (wdF_some hj).1
          · cases e
        obtain ⟨-, -, hm64⟩ := zw_bit m hI.2.2.2.2.1 k hk
        obtain ⟨hI2, g2⟩ := hI1.setM (J := J) hm64 hq.2
        have g12 := g1.tr g2
        refine r_Reader_readAll_26 ⟨hI2.K3, 130, 1300, cb - 131, sb - 1306, by omega, by omega, ?_⟩
        have hz : zwb k = [1, 2, 2, 4, 8, 16, 32].getD k 0 := rfl
        refine c_said hk hI2 (fun y => ?_) (fun y => ?_) (fun y => ?_) (fun y => ?_) (by omega) (by omega) (fun s q2 K3 n3 I3 F3 e3 g3 hI3 => ?_) (fun q2 K3 n3 I3 F3 e3 g3 b3 hG3 => w2 q2 K3 n3 I3 F3 (by rw [allF, if_pos hm, zb_some e, zb_none e3]) (g12.tr g3) b3 hG3)
        · subst y; exact hw.1 hwd
        · rcases y with y | y <;> subst y <;> exact (hw.2.1 hwd).1
        · subst y; exact hw.2.2.1 hwd
        · subst y; exact hw.2.2.2 hwd
        have o3 := ok_say (x := x) (L := L) (k := k) (st := st) hq.2
        rw [e3] at o3
        have o3a : q ≤ q2 := o3.1
        have g13 := g12.tr g3
        refine r_Reader_readAll_29 ⟨hI3.K3, 1, 6, cb - 132, sb - 1312, by omega, by omega, ?_⟩
        refine c_take (si := 19) [59] (by omega) (by decide +kernel) (by decide +kernel) (by decide) (by decide) hI3.B (by omega) (by omega) (fun u q4 e4 => ?_) (fun q4 e4 => w2 q4 _ _ _ _ (by rw [allF, if_pos hm, zb_some e, zb_some e3, zb_none e4]) (g13.tr (hI3.gm (tk_leN hI3.pL e4))) (hI3.move (tk_leN hI3.pL e4)).B hI3.G)
        obtain ⟨k4, -, k5⟩ := tk_le hI3.pL e4
        have g14 := g13.tr (hI3.gm (J := J) k4)
        have hI4 := hI3.move k4
        obtain ⟨d1, d2, d3, d4, d5, d6, d7, d8, -⟩ := id hI4.2.2.2.2.2.2.2.2.2
        have hsz := say_size e3
        refine r_Reader_readAll_35 ⟨hI4.K3, fo, hI4.F2, hI4.fo6, ?_⟩
        rw [d5, nI_1]
        have hst : cSt E K3 n3 (zup (zup I3 rd 4 (nI q4)) fo 7 (nI (s.2.2.2.2.2.2.2 + 1))) F3 fo (stm1 s) := hI4.2.2.2.2.2.2.2.2.2.put hI4.G (Or.inr (Or.inr (Or.inr rfl))) rfl rfl rfl rfl (by rw [zup_k _ _ _ (by decide)]; exact d2) (by rw [zup_k _ _ _ (by decide)]; exact d3) (by rw [zup_k _ _ _ (by decide)]; exact d4) (by rw [zup_s]; rfl) d6 d7 (by show s.2.2.2.2.2.2.2 + 1 ≤ 500; omega)
        obtain ⟨hI5, g5⟩ := hI4.put (J := J) (Or.inr (Or.inr (Or.inr rfl))) hst
        refine ih hI5 (hw.say hI.2.2.2.2.1 hk e3) (by show s.2.2.2.2.2.2.2 + 1 ≤ q4; omega) (by omega) (by omega) (by omega) (fun s' q' m' K' n' I' F' e' g' hI' => w1 s' q' m' K' n' I' F' ?_ ((g14.tr g5).tr g') hI') (fun q' K' n' I' F' e' g' b' hG' => w2 q' K' n' I' F' ?_ ((g14.tr g5).tr g') b' hG')
        · rw [allF, if_pos hm, zb_some e, zb_some e3, zb_some e4]; exact e'
        · rw [allF, if_pos hm, zb_some e, zb_some e3, zb_some e4]; exact e'
      · rw [if_neg hm]
        refine ⟨fun _ => ⟨hI1.K3, fo, hI1.F2, w1 st _ m _ _ _ _ (by rw [allF, if_neg hm]) g1 hI1⟩, fun y => absurd rfl y⟩
end
