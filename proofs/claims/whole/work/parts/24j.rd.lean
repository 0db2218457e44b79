/-- the places only grow, and stay in the text -/
def okP {α : Type} (L p : Nat) (r : Option α × Nat) : Prop := p ≤ r.2 ∧ r.2 ≤ L
theorem okP.bind {α β : Type} {L p : Nat} {a : Option α × Nat} {f : α → Nat → Option β × Nat} (h : okP L p a) (hf : ∀ u q, a = (some u, q) → q ≤ L → okP L q (f u q)) : okP L p (zbind a f) := by
  obtain ⟨o, q⟩ := a
  cases o with
  | none => exact h
  | some u =>
    have := hf u q rfl h.2
    exact ⟨Nat.le_trans h.1 this.1, this.2⟩
theorem okP.ret {α : Type} {L q : Nat} {o : Option α} (h2 : q ≤ L) : okP L q (o, q) := ⟨Nat.le_refl _, h2⟩
theorem okP.le {α : Type} {L p q : Nat} {r : Option α × Nat} (h : okP L q r) (hpq : p ≤ q) : okP L p r := ⟨Nat.le_trans hpq h.1, h.2⟩
section
variable {x : zTx} {L : Nat}
theorem ok_num {lo hi p : Nat} (hp : p ≤ L) : okP L p (numP x L lo hi p) := by
  have h1 := sk_le (x := x) hp
  have h2 := ndF_le (x := x) 4 0 (sk x L p) h1.2
  have h3 : (numP x L lo hi p).2 = (ndF x L 4 0 (sk x L p)).2 := by
    unfold numP
    dsimp only
    split <;> rfl
  unfold okP
  rw [h3]
  omega
theorem ok_tk {cs : List Nat} {p : Nat} (hp : p ≤ L) : okP L p (tkP x L cs p) := by
  have h1 := sk_le (x := x) hp
  unfold tkP
  cases hs : sat x L (sk x L p) with
  | none => exact ⟨h1.1, h1.2⟩
  | some u =>
    have hlt : sk x L p < L := by
      unfold sat at hs
      split at hs
      · assumption
      · cases hs
    dsimp only
    split
    · exact ⟨by show p ≤ sk x L p + 1; omega, hlt⟩
    · exact ⟨h1.1, h1.2⟩
theorem ok_fld {most p : Nat} (hp : p ≤ L) : okP L p (fldP x L most p) :=
  (ok_num hp).bind fun _ _ _ h => (ok_tk h).bind fun _ _ _ h => (ok_num h).bind fun _ _ _ h => okP.ret h
theorem ok_txt {p : Nat} (hp : p ≤ L) : okP L p (txtP x L p) := by
  have h := scF_le (x := x) 20 p hp
  unfold txtP
  dsimp only
  split
  · exact ⟨h.1, h.2.1⟩
  · rename_i q
    have : scF x L 20 p < L := by
      by_cases z : scF x L 20 p < L
      · exact z
      · exact absurd (Or.inr (fun y => z y.1)) q
    exact ⟨by show p ≤ scF x L 20 p + 1; omega, this⟩
theorem sat_lt {q u : Nat} (h : sat x L q = some u) : q < L := by
  unfold sat at h
  split at h
  · assumption
  · cases h
theorem ok_key {p : Nat} (hp : p ≤ L) : okP L p (keyP x L p) :=
  (ok_fld hp).bind fun _ _ _ h => (ok_tk h).bind fun _ _ _ h => (ok_tk h).bind fun _ q _ h => by
    split
    · exact (ok_tk h).bind fun _ _ _ h => (ok_tk h).bind fun _ _ _ h => okP.ret h
    · exact ⟨(sk_le h).1, (sk_le h).2⟩
theorem ok_keys : ∀ (d : Nat) {p : Nat}, p ≤ L → okP L p (keysF x L d p)
  | 0, p, hp => okP.ret hp
  | d + 1, p, hp => by
    unfold keysF
    refine (ok_key hp).bind fun k q _ h => ?_
    split
    · exact okP.ret h
    · split
      · exact ⟨(sk_le h).1, (sk_le h).2⟩
      · exact ((ok_keys d (sk_le h).2).bind fun _ _ _ h => okP.ret h).le (sk_le h).1
theorem ok_sums : ∀ (d : Nat) {p : Nat}, p ≤ L → okP L p (sumsF x L d p)
  | 0, p, hp => okP.ret hp
  | d + 1, p, hp => by
    unfold sumsF
    refine (ok_fld hp).bind fun k q _ h => ?_
    split
    · exact okP.ret h
    · split
      · exact ⟨(sk_le h).1, (sk_le h).2⟩
      · exact ((ok_sums d (sk_le h).2).bind fun _ _ _ h => okP.ret h).le (sk_le h).1
theorem ok_piece {p : Nat} (hp : p ≤ L) : okP L p (pieceP x L p) := by
  have hs := sk_le (x := x) hp
  unfold pieceP
  split
  · rename_i z
    have := sat_lt z
    exact ((ok_txt (by omega)).bind fun _ _ _ h => okP.ret h).le (by omega)
  · split
    · rename_i z
      have := sat_lt z
      exact ((ok_num (by omega)).bind fun _ _ _ h => okP.ret h).le (by omega)
    · exact ((ok_fld hs.2).bind fun _ _ _ h => okP.ret h).le hs.1
theorem ok_pieces : ∀ (d : Nat) {p : Nat}, p ≤ L → okP L p (piecesF x L d p)
  | 0, p, hp => okP.ret hp
  | d + 1, p, hp => by
    unfold piecesF
    refine (ok_piece hp).bind fun k q _ h => ?_
    split
    · exact okP.ret h
    · split
      · exact ⟨(sk_le h).1, (sk_le h).2⟩
      · exact ((ok_pieces d (sk_le h).2).bind fun _ _ _ h => okP.ret h).le (sk_le h).1
theorem ok_right {p : Nat} (hp : p ≤ L) : okP L p (rightP x L p) := by
  have hs := sk_le (x := x) hp
  unfold rightP
  split
  · rename_i z
    have := sat_lt z
    exact ((ok_txt (by omega)).bind fun _ _ _ h => okP.ret h).le (by omega)
  · exact ((ok_fld hs.2).bind fun _ _ _ h => okP.ret h).le hs.1
theorem ok_test {b : Bool} {p : Nat} (hp : p ≤ L) : okP L p (testP x L b p) :=
  (ok_fld hp).bind fun _ _ _ h => (ok_tk h).bind fun _ _ _ h => (ok_right h).bind fun _ _ _ h => okP.ret h
theorem ok_tests : ∀ (d : Nat) {b : Bool} {p : Nat}, p ≤ L → okP L p (testsF x L d b p)
  | 0, b, p, hp => ⟨(sk_le hp).1, (sk_le hp).2⟩
  | d + 1, b, p, hp => by
    unfold testsF
    refine (ok_test hp).bind fun t q _ h => ?_
    have hs := sk_le (x := x) h
    split
    · rename_i z
      have : sk x L q < L := z.elim sat_lt sat_lt
      exact ((ok_tests d (by omega)).bind fun _ _ _ h => okP.ret h).le (by omega)
    · exact ⟨hs.1, hs.2⟩
theorem ok_say {k : Nat} {st : zStm} {p : Nat} (hp : p ≤ L) : okP L p (sayP x L k st p) := by
  unfold sayP
  split
  · exact (ok_keys 6 hp).bind fun _ _ _ h => okP.ret h
  · split
    · exact (ok_tests 10 hp).bind fun _ _ _ h => okP.ret h
    · split
      · exact (ok_tests 10 hp).bind fun _ _ _ h => okP.ret h
      · split
        · exact (ok_sums 4 hp).bind fun _ _ _ h => okP.ret h
        · split
          · exact (ok_pieces 12 hp).bind fun _ _ _ h => okP.ret h
          · split
            · exact (ok_num hp).bind fun _ _ _ h => okP.ret h
            · exact (ok_num hp).bind fun _ _ _ h => okP.ret h
end
theorem wdF_some {x : zTx} {m p q : Nat} : ∀ {d k j : Nat}, wdF x m p q k d = some j → m &&& zwb j = 0 ∧ spl x j p q = true ∧ k ≤ j ∧ j < k + d
  | 0, k, j, h => by cases h
  | d + 1, k, j, h => by
    unfold wdF at h
    split at h
    · rename_i z
      have := Option.some.inj h
      subst this
      exact ⟨z.1, z.2, by omega, by omega⟩
    · have := wdF_some h
      exact ⟨this.1, this.2.1, by omega, by omega⟩
/-- what is not said is empty -/
def wInv (m : Nat) (st : zStm) : Prop := (m &&& 1 = 0 → st.1 = []) ∧ (m &&& 2 = 0 → st.2.1 = [] ∧ st.2.2.2.2.1 = false) ∧ (m &&& 4 = 0 → st.2.2.1 = []) ∧ (m &&& 8 = 0 → st.2.2.2.1 = [])
theorem zbits1 : ∀ m : Nat, m < 64 → ∀ k : Nat, k < 7 → ((m ||| zwb k) &&& 1 = 0 → m &&& 1 = 0 ∧ k ≠ 0) := by decide +kernel
theorem zbits2 : ∀ m : Nat, m < 64 → ∀ k : Nat, k < 7 → ((m ||| zwb k) &&& 2 = 0 → m &&& 2 = 0 ∧ k ≠ 1 ∧ k ≠ 2) := by decide +kernel
theorem zbits3 : ∀ m : Nat, m < 64 → ∀ k : Nat, k < 7 → ((m ||| zwb k) &&& 4 = 0 → m &&& 4 = 0 ∧ k ≠ 3) := by decide +kernel
theorem zbits4 : ∀ m : Nat, m < 64 → ∀ k : Nat, k < 7 → ((m ||| zwb k) &&& 8 = 0 → m &&& 8 = 0 ∧ k ≠ 4) := by decide +kernel
theorem wInv.say {x : zTx} {L m k p q : Nat} {st s : zStm} (h : wInv m st) (hm : m < 64) (hk : k < 7) (e : sayP x L k st p = (some s, q)) : wInv (m ||| zwb k) (stm1 s) := by
  have b1 := zbits1 m hm k hk
  have b2 := zbits2 m hm k hk
  have b3 := zbits3 m hm k hk
  have b4 := zbits4 m hm k hk
  obtain ⟨h1, h2, h3, h4⟩ := h
  have inv : ∀ {α : Type} {a : Option α × Nat} {f : α → Nat → Option zStm × Nat}, zbind a f = (some s, q) → ∃ u r, f u r = (some s, q) := by
    intro α a f hz
    obtain ⟨o, r⟩ := a
    cases o with
    | none => cases hz
    | some u => exact ⟨u, r, hz⟩
  unfold sayP at e
  split at e
  · rename_i hk0
    obtain ⟨u, r, hz⟩ := inv e
    cases hz
    exact ⟨fun z => absurd hk0 (b1 z).2, fun z => h2 (b2 z).1, fun z => h3 (b3 z).1, fun z => h4 (b4 z).1⟩
  · split at e
    · rename_i hk1
      obtain ⟨u, r, hz⟩ := inv e
      cases hz
      exact ⟨fun z => h1 (b1 z).1, fun z => absurd hk1 (b2 z).2.1, fun z => h3 (b3 z).1, fun z => h4 (b4 z).1⟩
    · split at e
      · rename_i hk2
        obtain ⟨u, r, hz⟩ := inv e
        cases hz
        exact ⟨fun z => h1 (b1 z).1, fun z => absurd hk2 (b2 z).2.2, fun z => h3 (b3 z).1, fun z => h4 (b4 z).1⟩
      · split at e
        · rename_i hk3
          obtain ⟨u, r, hz⟩ := inv e
          cases hz
          exact ⟨fun z => h1 (b1 z).1, fun z => h2 (b2 z).1, fun z => absurd hk3 (b3 z).2, fun z => h4 (b4 z).1⟩
        · split at e
          · rename_i hk4
            obtain ⟨u, r, hz⟩ := inv e
            cases hz
            exact ⟨fun z => h1 (b1 z).1, fun z => h2 (b2 z).1, fun z => h3 (b3 z).1, fun z => absurd hk4 (b4 z).2⟩
          · split at e
            · obtain ⟨u, r, hz⟩ := inv e
              cases hz
              exact ⟨fun z => h1 (b1 z).1, fun z => h2 (b2 z).1, fun z => h3 (b3 z).1, fun z => h4 (b4 z).1⟩
            · obtain ⟨u, r, hz⟩ := inv e
              cases hz
              exact ⟨fun z => h1 (b1 z).1, fun z => h2 (b2 z).1, fun z => h3 (b3 z).1, fun z => h4 (b4 z).1⟩
section
variable {E : zE} {K0 K n : Nat → Nat} {I : Nat → Nat → Int32} {F : Nat → Nat → Option Nat} {J : Nat → Nat → Int64} {cb sb : Nat} {Q : zO → zH → Prop} {rd sg L p fo m : Nat} {x : zTx} {st : zStm}
/-- readSaid(word) -/
theorem c_said {k : Nat} (hk : k < 7) (hI : rI E K0 K n I F rd sg L x fo m st p) (e0 : k = 0 → st.1 = []) (e1 : k = 1 ∨ k = 2 → st.2.1 = []) (e3 : k = 3 → st.2.2.1 = []) (e4 : k = 4 → st.2.2.2.1 = []) (hcb : 130 ≤ cb) (hsb : 1300 ≤ sb)
    (w1 : ∀ s q K' n' I' F', sayP x L k st p = (some s, q) → GR (fun a => K0 a = 0) (K, n, I, F, J) (K', n', I', F', J) → rI E K0 K' n' I' F' rd sg L x fo m s q → Q (.inl none) (K', n', I', F', J))
    (w2 : ∀ q K' n' I' F', sayP x L k st p = (none, q) → GR (fun a => K0 a = 0) (K, n, I, F, J) (K', n', I', F', J) → rB K' n' I' F' rd sg L x q → HG E K' F' → Q (.inr "java/lang/IllegalArgumentException") (K', n', I', F', J)) :
    AW E m_Reader_readSaid (K, n, I, F, J) cb sb Q 0 [some (.ref rd), some (.ref (E.2.1 (20 + k)))] [] := by
  refine r_Reader_readSaid_0 ⟨k, hk, rfl, k, rfl, hk, ?_⟩
  have hfo := hI.fo6
  have hcs := hI.2.2.2.2.2.2.2.2.2
  have hcases : k = 0 ∨ k = 1 ∨ k = 2 ∨ k = 3 ∨ k = 4 ∨ k = 5 ∨ k = 6 := by omega
  rcases hcases with rfl | rfl | rfl | rfl | rfl | rfl | rfl
  · refine ⟨fun _ => ⟨hI.K3, cb, sb, 0, 0, by omega, by omega, ?_⟩, fun z => absurd z (by decide), fun z => absurd z (by decide), fun z => absurd z (by decide), fun z => absurd z (by decide), fun z => absurd z (by decide), fun z => absurd (by decide) z⟩
    have hz := e0 rfl
    refine c_keysL 5 hI (by rw [hz]; rfl) (by omega) (by omega) (fun ks q K' n' I' F' e g hI' => r_Reader_readSaid_52 (w1 _ q K' n' I' F' (by unfold sayP; rw [if_pos rfl, zb_some e]) g ?_)) (fun q K' n' I' F' e g b hG => w2 q K' n' I' F' (by unfold sayP; rw [if_pos rfl, zb_none e]) g b hG)
    rw [hz] at hI'
    exact hI'
  · refine ⟨fun z => absurd z (by decide), fun _ => ⟨hI.K3, cb, sb, 0, 0, by omega, by omega, ?_⟩, fun z => absurd z (by decide), fun z => absurd z (by decide), fun z => absurd z (by decide), fun z => absurd z (by decide), fun _ z => absurd (by decide) z⟩
    have hz := e1 (Or.inl rfl)
    refine r_Reader_readTests_0 (c_testsL 10 (k := 0) (b := false) hI (by rw [hz]; rfl) rfl (by omega) (by omega) (fun ks q K' n' I' F' e g hI' => r_Reader_readSaid_59 (w1 _ q K' n' I' F' (by unfold sayP; rw [if_neg (by decide), if_pos rfl, zb_some e]) g ?_)) (fun q K' n' I' F' e g b hG => w2 q K' n' I' F' (by unfold sayP; rw [if_neg (by decide), if_pos rfl, zb_none e]) g b hG))
    rw [hz] at hI'
    exact hI'
  · refine ⟨fun z => absurd z (by decide), fun z => absurd z (by decide), fun _ => ⟨hI.K3, fo, hI.F2, hfo, cb, sb, 0, 0, by omega, by omega, ?_⟩, fun z => absurd z (by decide), fun z => absurd z (by decide), fun z => absurd z (by decide), fun _ _ z => absurd (by decide) z⟩
    have hz := e1 (Or.inr rfl)
    obtain ⟨q1, q2, q3, q4, q5, q6, q7, q8, -⟩ := id hcs
    have hst : cSt E K n (zup I fo 4 (1 : Int32)) F fo (st.1, st.2.1, st.2.2.1, st.2.2.2.1, true, st.2.2.2.2.2) := hcs.put hI.G (Or.inl rfl) rfl rfl rfl rfl (by rw [zup_s]; rfl) (by rw [zup_k _ _ _ (by decide)]; exact q3) (by rw [zup_k _ _ _ (by decide)]; exact q4) (by rw [zup_k _ _ _ (by decide)]; exact q5) q6 q7 q8
    obtain ⟨hI2, g2⟩ := hI.put (J := J) (Or.inl rfl) hst
    refine r_Reader_readTests_0 (c_testsL 10 (k := 0) (b := false) hI2 (by show st.2.1.length = 0; rw [hz]; rfl) rfl (by omega) (by omega) (fun ks q K' n' I' F' e g hI' => r_Reader_readSaid_74 (w1 _ q K' n' I' F' (by unfold sayP; rw [if_neg (by decide), if_neg (by decide), if_pos rfl, zb_some e]) (g2.tr g) ?_)) (fun q K' n' I' F' e g b hG => w2 q K' n' I' F' (by unfold sayP; rw [if_neg (by decide), if_neg (by decide), if_pos rfl, zb_none e]) (g2.tr g) b hG))
    dsimp only at hI'
    rw [hz] at hI'
    exact hI'
  · refine ⟨fun z => absurd z (by decide), fun z => absurd z (by decide), fun z => absurd z (by decide), fun _ => ⟨hI.K3, cb, sb, 0, 0, by omega, by omega, ?_⟩, fun z => absurd z (by decide), fun z => absurd z (by decide), fun _ _ _ z => absurd (by decide) z⟩
    have hz := e3 rfl
    refine c_sums 3 hI (by rw [hz]; rfl) (by omega) (by omega) (fun ks q K' n' I' F' e g hI' => r_Reader_readSaid_81 (w1 _ q K' n' I' F' (by unfold sayP; rw [if_neg (by decide), if_neg (by decide), if_neg (by decide), if_pos rfl, zb_some e]) g ?_)) (fun q K' n' I' F' e g b hG => w2 q K' n' I' F' (by unfold sayP; rw [if_neg (by decide), if_neg (by decide), if_neg (by decide), if_pos rfl, zb_none e]) g b hG)
    rw [hz] at hI'
    exact hI'
  · refine ⟨fun z => absurd z (by decide), fun z => absurd z (by decide), fun z => absurd z (by decide), fun z => absurd z (by decide), fun _ => ⟨hI.K3, cb, sb, 0, 0, by omega, by omega, ?_⟩, fun z => absurd z (by decide), fun _ _ _ _ z => absurd (by decide) z⟩
    have hz := e4 rfl
    refine c_pieces 11 hI (by rw [hz]; rfl) (by omega) (by omega) (fun ks q K' n' I' F' e g hI' => r_Reader_readSaid_88 (w1 _ q K' n' I' F' (by unfold sayP; rw [if_neg (by decide), if_neg (by decide), if_neg (by decide), if_neg (by decide), if_pos rfl, zb_some e]) g ?_)) (fun q K' n' I' F' e g b hG => w2 q K' n' I' F' (by unfold sayP; rw [if_neg (by decide), if_neg (by decide), if_neg (by decide), if_neg (by decide), if_pos rfl, zb_none e]) g b hG)
    rw [hz] at hI'
    exact hI'
  · refine ⟨fun z => absurd z (by decide), fun z => absurd z (by decide), fun z => absurd z (by decide), fun z => absurd z (by decide), fun z => absurd z (by decide), fun _ => ⟨hI.K3, fo, hI.F2, cb, sb, 0, 0, by omega, by omega, ?_⟩, fun _ _ _ _ _ z => absurd (by decide) z⟩
    refine c_numb (lo := 0) (hi := 9999) (by omega) (by omega) (by omega) (by omega) hI.B (fun v q e => ?_) (fun q e => w2 q _ _ _ _ (by unfold sayP; rw [if_neg (by decide), if_neg (by decide), if_neg (by decide), if_neg (by decide), if_neg (by decide), if_pos rfl, zb_none e]) (hI.gm (nm_leN hI.pL e)) (hI.move (nm_leN hI.pL e)).B hI.G)
    obtain ⟨l1, l2, l3, l4, l5⟩ := nm_le hI.pL e
    have hI1 := hI.move l1
    obtain ⟨q1, q2, q3, q4, q5, q6, q7, q8, -⟩ := id hI1.2.2.2.2.2.2.2.2.2
    have hst : cSt E K n (zup (zup I rd 4 (nI q)) fo 5 (nI v)) F fo (st.1, st.2.1, st.2.2.1, st.2.2.2.1, st.2.2.2.2.1, v, st.2.2.2.2.2.2) := hI1.2.2.2.2.2.2.2.2.2.put hI.G (Or.inr (Or.inl rfl)) rfl rfl rfl rfl (by rw [zup_k _ _ _ (by decide)]; exact q2) (by rw [zup_s]) (by rw [zup_k _ _ _ (by decide)]; exact q4) (by rw [zup_k _ _ _ (by decide)]; exact q5) (by show v ≤ 9999; omega) q7 q8
    obtain ⟨hI2, g2⟩ := hI1.put (J := J) (Or.inr (Or.inl rfl)) hst
    exact r_Reader_readSaid_103 ⟨hfo, w1 _ q _ _ _ _ (by unfold sayP; rw [if_neg (by decide), if_neg (by decide), if_neg (by decide), if_neg (by decide), if_neg (by decide), if_pos rfl, zb_some e]) ((hI.gm l1).tr g2) hI2⟩
  · refine ⟨fun z => absurd z (by decide), fun z => absurd z (by decide), fun z => absurd z (by decide), fun z => absurd z (by decide), fun z => absurd z (by decide), fun z => absurd z (by decide), fun _ _ _ _ _ _ => ⟨hI.K3, fo, hI.F2, cb, sb, 0, 0, by omega, by omega, ?_⟩⟩
    refine c_numb (lo := 0) (hi := 9999) (by omega) (by omega) (by omega) (by omega) hI.B (fun v q e => ?_) (fun q e => w2 q _ _ _ _ (by unfold sayP; rw [if_neg (by decide), if_neg (by decide), if_neg (by decide), if_neg (by decide), if_neg (by decide), if_neg (by decide), zb_none e]) (hI.gm (nm_leN hI.pL e)) (hI.move (nm_leN hI.pL e)).B hI.G)
    obtain ⟨l1, l2, l3, l4, l5⟩ := nm_le hI.pL e
    have hI1 := hI.move l1
    obtain ⟨q1, q2, q3, q4, q5, q6, q7, q8, -⟩ := id hI1.2.2.2.2.2.2.2.2.2
    have hst : cSt E K n (zup (zup I rd 4 (nI q)) fo 6 (nI v)) F fo (st.1, st.2.1, st.2.2.1, st.2.2.2.1, st.2.2.2.2.1, st.2.2.2.2.2.1, v, st.2.2.2.2.2.2.2) := hI1.2.2.2.2.2.2.2.2.2.put hI.G (Or.inr (Or.inr (Or.inl rfl))) rfl rfl rfl rfl (by rw [zup_k _ _ _ (by decide)]; exact q2) (by rw [zup_k _ _ _ (by decide)]; exact q3) (by rw [zup_s]) (by rw [zup_k _ _ _ (by decide)]; exact q5) q6 (by show v ≤ 9999; omega) q8
    obtain ⟨hI2, g2⟩ := hI1.put (J := J) (Or.inr (Or.inr (Or.inl rfl))) hst
    exact r_Reader_readSaid_121 ⟨hfo, w1 _ q _ _ _ _ (by unfold sayP; rw [if_neg (by decide), if_neg (by decide), if_neg (by decide), if_neg (by decide), if_neg (by decide), if_neg (by decide), zb_some e]) ((hI.gm l1).tr g2) hI2⟩
end
