-- ===== the class's state and what it holds =====
/-- the heap before the call; the object, its signs, the held row, its new sums; the four Rows; the lists -/
abbrev zU : Type := zH × Nat × Nat × Nat × Nat × (Nat → Nat) × (Nat → Nat)
def uB (U : zU) : zH := U.1
def uo (U : zU) : Nat := U.2.1
def usg (U : zU) : Nat := U.2.2.1
def uhd (U : zU) : Nat := U.2.2.2.1
def uns (U : zU) : Nat := U.2.2.2.2.1
def uw (U : zU) : Nat → Nat := U.2.2.2.2.2.1
def ul (U : zU) : Nat → Nat := U.2.2.2.2.2.2
def rws (U : zU) (X : Nat → List Nat) (a : Nat) : Prop := a = uhd U ∨ ∃ i, i < 4 ∧ a ∈ X i
def mine (U : zU) (a : Nat) : Prop := ((uB U).1 a ≠ 9 ∧ (uB U).1 a ≠ 1 ∧ (uB U).1 a ≠ 2) ∧ (((uB U).1 a ≠ 21 ∧ (uB U).1 a ≠ 22) ∨ a = usg U ∨ a = uns U)
/-- a row: its bytes; its input, its number, how many it is made of -/
def cV (K n : Nat → Nat) (I : Nat → Nat → Int32) (F : Nat → Nat → Option Nat) (a : Nat) (r : List Nat) (t : Nat × Nat × Nat) : Prop := cR K n I F a r ∧ I a 2 = nI t.1 ∧ I a 3 = nI t.2.1 ∧ I a 4 = nI t.2.2
def CC (E : zE) (U : zU) (K n : Nat → Nat) (I : Nat → Nat → Int32) (F : Nat → Nat → Option Nat) (J : Nat → Nat → Int64) (k : Nat → Nat) (X : Nat → List Nat) (R : Nat → List Nat) (N : Nat → Nat × Nat × Nat) (st : zStm) (pu : List Nat) (cu : Nat) (pp : List Nat) (cp : Nat) (D Sg : Nat → Int32) : Prop :=
  ∃ cap fo, CG E K n I F (uo U) (usg U) fo (uhd U) (uns U) (uw U) (ul U) cap k X ∧ cSt E K n I F fo st ∧ cL E K n I F (ul U 4) pu cu ∧ cL E K n I F (ul U 5) pp cp ∧ (cu ≤ 300 ∧ cp ≤ 300 ∧ (∀ a ∈ pu, a ∈ X 0) ∧ ∀ a ∈ pp, a ∈ X 0) ∧ (I (uo U) = D ∧ I (usg U) = Sg) ∧ GR (mine U) (uB U) (K, n, I, F, J) ∧ ∀ a, rws U X a → cV K n I F a (R a) (N a)
section
variable {E : zE} {U : zU} {K n K' n' : Nat → Nat} {I I' : Nat → Nat → Int32} {F F' : Nat → Nat → Option Nat} {J J' : Nat → Nat → Int64} {S : Nat → Prop} {k : Nat → Nat} {X : Nat → List Nat} {R : Nat → List Nat} {N : Nat → Nat × Nat × Nat} {st : zStm} {pu pp : List Nat} {cu cp : Nat} {D Sg : Nat → Int32}
theorem CC.bs (h : GR (mine U) (uB U) (K, n, I, F, J)) (g : GR S (K, n, I, F, J) (K', n', I', F', J')) (hS : ∀ a, K a ≠ 0 → S a → (K a ≠ 9 ∧ K a ≠ 1 ∧ K a ≠ 2) ∧ ((K a ≠ 21 ∧ K a ≠ 22) ∨ a = usg U ∨ a = uns U)) : GR (mine U) (uB U) (K', n', I', F', J') :=
  h.trans g (fun a ha z => by
    have e : K a = (uB U).1 a := (h a ha).1
    have := hS a (by rw [e]; exact ha) z
    unfold mine
    rw [← e]
    exact this)
theorem CC.ro (h : CC E U K n I F J k X R N st pu cu pp cp D Sg) : K (uo U) = 8 := by obtain ⟨cap, fo, h1, -⟩ := h; exact h1.1
theorem CC.rK {a : Nat} (h : CC E U K n I F J k X R N st pu cu pp cp D Sg) (ha : rws U X a) : K a = 4 := by obtain ⟨cap, fo, h1, h2, h3, h4, h5, h6, h7, h8⟩ := h; exact (h8 a ha).1.1
theorem CC.rV {a : Nat} (h : CC E U K n I F J k X R N st pu cu pp cp D Sg) (ha : rws U X a) : cV K n I F a (R a) (N a) := by obtain ⟨cap, fo, h1, h2, h3, h4, h5, h6, h7, h8⟩ := h; exact h8 a ha
theorem CC.G (h : CC E U K n I F J k X R N st pu cu pp cp D Sg) : HG E K F := by obtain ⟨cap, fo, h1, h2, h3, h4, h5, h6, h7, h8⟩ := h; exact h1.2.1
theorem CC.w (h : CC E U K n I F J k X R N st pu cu pp cp D Sg) {i : Nat} (hi : i < 4) : F (uo U) (3 + i) = some (uw U i) ∧ K (uw U i) = 5 ∧ I (uw U i) 1 = nI (k i) ∧ k i ≤ (X i).length ∧ (X i).length ≤ 150 := by
  obtain ⟨cap, fo, h1, h2, h3, h4, h5, h6, h7, h8⟩ := h
  obtain ⟨q1, q2⟩ := h1.2.2.2.2.1 i hi
  exact ⟨q1, q2.1, q2.2.2.2.1, q2.2.2.2.2.1, q2.2.2.2.2.2.1⟩
theorem CC.hd (h : CC E U K n I F J k X R N st pu cu pp cp D Sg) : F (uo U) 11 = some (uhd U) := by obtain ⟨cap, fo, h1, h2, h3, h4, h5, h6, h7, h8⟩ := h; exact h1.2.2.2.2.2.2.1.1
theorem CC.sta (h : CC E U K n I F J k X R N st pu cu pp cp D Sg) : ∃ fo, F (uo U) 2 = some fo ∧ K fo = 6 ∧ cSt E K n I F fo st := by obtain ⟨cap, fo, h1, h2, h3, h4, h5, h6, h7, h8⟩ := h; exact ⟨fo, h1.2.2.2.1.1, h1.2.2.2.1.2, h2⟩
theorem CC.oD (h : CC E U K n I F J k X R N st pu cu pp cp D Sg) : I (uo U) = D := by obtain ⟨cap, fo, h1, h2, h3, h4, h5, h6, h7, h8⟩ := h; exact h6.1
theorem rws.at {i t : Nat} (hi : i < 4) (ht : t < (X i).length) : rws U X ((X i).getD t 0) := Or.inr ⟨i, hi, zgetD_mem ht⟩
theorem CC.rx (h : CC E U K n I F J k X R N st pu cu pp cp D Sg) {i t : Nat} (hi : i < 4) (ht : t < k i) : rws U X ((X i).getD t 0) := rws.at hi (by have := (h.w hi).2.2.2.1; omega)
theorem rws.hd : rws U X (uhd U) := Or.inl rfl
/-- different rows -/
theorem CC.ne (h : CC E U K n I F J k X R N st pu cu pp cp D Sg) {i j t t' : Nat} (hi : i < 4) (hj : j < 4) (ht : t < (X i).length) (ht' : t' < (X j).length) (e : (X i).getD t 0 = (X j).getD t' 0) : i = j ∧ t = t' := by
  obtain ⟨cap, fo, h1, h2, h3, h4, h5, h6, h7, h8⟩ := h
  have m1 := zgetD_mem ht
  have m2 := zgetD_mem ht'
  rw [e] at m1
  have q := h1.2.2.2.2.2.2.2.2.2.2.2.1 i j _ hi hj m1 m2
  subst q
  exact ⟨rfl, nodup_getD (h1.2.2.2.2.2.2.2.2.2.2.2.2.1 i hi) ht ht' e⟩
theorem CC.nh (h : CC E U K n I F J k X R N st pu cu pp cp D Sg) {i t : Nat} (hi : i < 4) (ht : t < (X i).length) : (X i).getD t 0 ≠ uhd U := fun e => by
  obtain ⟨cap, fo, h1, h2, h3, h4, h5, h6, h7, h8⟩ := h
  have m1 := zgetD_mem ht
  rw [e] at m1
  exact h1.2.2.2.2.2.2.2.2.2.2.2.2.2 i hi m1
theorem CC.at (h : CC E U K n I F J k X R N st pu cu pp cp D Sg) {i : Nat} (hi : i < 4) : ∃ l cap, cW E K n I F (uw U i) l (X i) cap (k i) := by
  obtain ⟨cap, fo, h1, h2, h3, h4, h5, h6, h7, h8⟩ := h
  exact ⟨_, _, (h1.2.2.2.2.1 i hi).2⟩
/-- the heap now as the heap before -/
theorem CC.re (h : CC E U K n I F J k X R N st pu cu pp cp D Sg) : CC E ((K, n, I, F, J), U.2) K n I F J k X R N st pu cu pp cp D Sg := by
  obtain ⟨cap, fo, h1, h2, h3, h4, h5, h6, h7, h8⟩ := h
  exact ⟨cap, fo, h1, h2, h3, h4, h5, h6, GR.refl _, h8⟩
theorem CC.un {k' : Nat → Nat} {X' : Nat → List Nat} {R' : Nat → List Nat} {N' : Nat → Nat × Nat × Nat} {st' : zStm} {pu' pp' : List Nat} {cu' cp' : Nat} {D' Sg' : Nat → Int32} (h : CC E U K n I F J k X R N st pu cu pp cp D Sg) (h' : CC E ((K, n, I, F, J), U.2) K' n' I' F' J' k' X' R' N' st' pu' cu' pp' cp' D' Sg') : CC E U K' n' I' F' J' k' X' R' N' st' pu' cu' pp' cp' D' Sg' := by
  obtain ⟨cap, fo, h1, h2, h3, h4, h5, h6, h7, h8⟩ := h
  obtain ⟨cap', fo', g1, g2, g3, g4, g5, g6, g7, g8⟩ := h'
  exact ⟨cap', fo', g1, g2, g3, g4, g5, g6, CC.bs h7 g7 (fun a _ z => z), g8⟩
/-- keys stay as they are -/
theorem CC.key {a : Nat} {ky : zKey} (h' : CC E ((K, n, I, F, J), U.2) K' n' I' F' J' k X R N st pu cu pp cp D Sg) (hk : cK K n I F a ky) : cK K' n' I' F' a ky := by
  obtain ⟨cap', fo', g1, g2, g3, g4, g5, g6, g7, g8⟩ := h'
  obtain ⟨k1, k2, k3, p, k4, k5, k6, k7, k8, k9, k10⟩ := hk
  have fa := g7.f (a := a) (by omega) (fun z => z.1.2.1 k1)
  have fp := g7.f (a := p) (by omega) (fun z => z.1.2.2 k5)
  refine ⟨by rw [g7.k (by omega)]; exact k1, by rw [fa.1]; exact k2, by rw [fa.1]; exact k3, p, by rw [fa.2.1]; exact k4, by rw [g7.k (by omega)]; exact k5, by rw [fp.1]; exact k6, by rw [fp.1]; exact k7, k8, k9, ?_⟩
  show F' p 0 = none
  rw [fp.2.1]; exact k10
/-- a step on one row -/
theorem CC.row {a : Nat} {r' : List Nat} {t : Nat × Nat × Nat} (h : CC E U K n I F J k X R N st pu cu pp cp D Sg) (ha : rws U X a) (g : GR (rowS F a) (K, n, I, F, J) (K, n, I', F, J)) (hv : cV K n I' F a r' t) : CC E U K n I' F J k X (va_up R a r') (va_up N a t) st pu cu pp cp D Sg := by
  have ha4 := h.rK ha
  obtain ⟨cap, fo, h1, h2, h3, h4, h5, h6, h7, h8⟩ := h
  have hG := h1.2.1
  have nS : ∀ c, K c ≠ 4 → K c ≠ 20 → ¬ rowS F a c := fun c q1 q2 z => (rowS_K hG ha4 z).elim q1 q2
  have ho := h1.1
  have hs := h1.2.2.1.2.1
  refine ⟨cap, fo, h1.rowStep ha4 g hv.1, CG.stm h2 hG ha4 g, h3.frN g (fun c _ z => ?_), h4.frN g (fun c _ z => ?_), h5, ⟨?_, ?_⟩, CC.bs h7 g (fun c _ z => ?_), fun x hx => ?_⟩
  · rcases rowS_K hG ha4 z with y | y <;> omega
  · rcases rowS_K hG ha4 z with y | y <;> omega
  · rw [(g.f (a := uo U) (by omega) (nS _ (by omega) (by omega))).1]; exact h6.1
  · rw [(g.f (a := usg U) (by omega) (nS _ (by omega) (by omega))).1]; exact h6.2
  · rcases rowS_K hG ha4 z with y | y <;> omega
  · by_cases e : x = a
    · subst e; rw [va_up_s, va_up_s]; exact hv
    · rw [va_up_n _ _ e, va_up_n _ _ e]
      obtain ⟨v1, v2⟩ := h8 x hx
      refine ⟨row_fr v1 g hG ha4 e, ?_⟩
      have hx4 := v1.1
      have : I' x = I x := (g.f (a := x) (by omega) (fun z => by
        rcases z with z | z
        · exact e z
        · have := hG.2.2.1 a x ha4 z; omega)).1
      rw [this]; exact v2
/-- numbers of the object -/
theorem CC.oI (h : CC E U K n I F J k X R N st pu cu pp cp D Sg) (g : ∀ a, a ≠ uo U → I' a = I a) : CC E U K n I' F J k X R N st pu cu pp cp (I' (uo U)) Sg := by
  obtain ⟨cap, fo, h1, h2, h3, h4, h5, h6, h7, h8⟩ := h
  have hG := h1.2.1
  have ho := h1.1
  have hs := h1.2.2.1.2.1
  have gr : GR (fun a => a = uo U) (K, n, I, F, J) (K, n, I', F, J) := CG.grO g
  have hK : ∀ a, a = uo U → K a = 8 := fun a z => by rw [z]; exact ho
  refine ⟨cap, fo, h1.oStep g, h2.frF gr hG (fun a _ z => Or.inl (by have := hK a z; omega)), h3.frN gr (fun a _ z => by have := hK a z; omega), h4.frN gr (fun a _ z => by have := hK a z; omega), h5, ⟨rfl, ?_⟩, CC.bs h7 gr (fun a _ z => by have := hK a z; omega), fun x hx => ?_⟩
  · rw [g _ (fun z => by rw [z] at hs; omega)]; exact h6.2
  · obtain ⟨v1, v2⟩ := h8 x hx
    have hx4 := v1.1
    refine ⟨v1.fr gr (fun z => by have := hK x z; omega) (fun b hb z => by have := hG.2.2.1 x b hx4 hb; have := hK b z; omega), ?_⟩
    rw [g x (fun z => by rw [z] at hx4; omega)]; exact v2
/-- the new sums -/
theorem CC.nsJ (h : CC E U K n I F J k X R N st pu cu pp cp D Sg) (g : ∀ a, a ≠ uns U → J' a = J a) : CC E U K n I F J' k X R N st pu cu pp cp D Sg := by
  obtain ⟨cap, fo, h1, h2, h3, h4, h5, h6, h7, h8⟩ := h
  have gr : GR (fun a => a = uns U) (K, n, I, F, J) (K, n, I, F, J') := fun a _ => ⟨rfl, rfl, fun hn => ⟨rfl, rfl, g a hn⟩⟩
  have hK : ∀ a, a = uns U → K a = 22 := fun a z => by rw [z]; exact h1.2.2.2.2.2.2.2.1.2.1
  exact ⟨cap, fo, h1, h2, h3, h4, h5, h6, CC.bs h7 gr (fun a _ z => ⟨by have := hK a z; omega, Or.inr (Or.inr z)⟩), h8⟩
/-- a Rows is cleared -/
theorem CC.clr (h : CC E U K n I F J k X R N st pu cu pp cp D Sg) {i m : Nat} (hi : i < 4) (hm : m ≤ (X i).length) : CC E U K n (zup I (uw U i) 1 (nI m)) F J (va_up k i m) X R N st pu cu pp cp D Sg := by
  obtain ⟨cap, fo, h1, h2, h3, h4, h5, h6, h7, h8⟩ := h
  obtain ⟨C, g⟩ := h1.wStep (J := J) hi hm
  have hG := h1.2.1
  have ho := h1.1
  have hs := h1.2.2.1.2.1
  have hK : ∀ a, a = uw U i → K a = 5 := fun a z => by rw [z]; exact (h1.2.2.2.2.1 i hi).2.1
  refine ⟨cap, fo, C, h2.frF g hG (fun a _ z => Or.inl (by have := hK a z; omega)), h3.frN g (fun a _ z => by have := hK a z; omega), h4.frN g (fun a _ z => by have := hK a z; omega), h5, ⟨?_, ?_⟩, CC.bs h7 g (fun a _ z => by have := hK a z; omega), fun x hx => ?_⟩
  · rw [zup_n _ _ _ (fun z => by have := hK _ z; omega)]; exact h6.1
  · rw [zup_n _ _ _ (fun z => by have := hK _ z; omega)]; exact h6.2
  · obtain ⟨v1, v2⟩ := h8 x hx
    have hx4 := v1.1
    refine ⟨v1.fr g (fun z => by have := hK x z; omega) (fun b hb z => by have := hG.2.2.1 x b hx4 hb; have := hK b z; omega), ?_⟩
    rw [zup_n _ _ _ (fun z => by have := hK x z; omega)]; exact v2
theorem CC.lst4 {pu' : List Nat} {cu' : Nat} (h : CC E U K n I F J k X R N st pu cu pp cp D Sg) (hc0 : K (E.2.1 10) = 0) (g : GR (SL K F (ul U 4)) (K, n, I, F, J) (K', n', I', F', J)) (hG' : HG E K' F') (hL : cL E K' n' I' F' (ul U 4) pu' cu') (hcu : cu' ≤ 300) (hX : ∀ a ∈ pu', a ∈ X 0) : CC E U K' n' I' F' J k X R N st pu' cu' pp cp D Sg := by
  obtain ⟨cap, fo, h1, h2, h3, h4, h5, h6, h7, h8⟩ := h
  obtain ⟨C, S', fr, fI, kl⟩ := h1.listStep (j := 4) (Or.inl rfl) h2 hc0 g hG'
  have hK : ∀ a, SL K F (ul U 4) a → K a = 10 ∨ K a = 23 := fun a z => by
    rcases z with z | z
    · rw [z]; exact Or.inl h3.1
    · exact Or.inr z.2
  have ho := h1.1
  have hs := h1.2.2.1.2.1
  refine ⟨cap, fo, C, S', hL, kl 5 _ _ (by omega) (by omega) h4, ⟨hcu, h5.2.1, hX, h5.2.2.2⟩, ⟨?_, ?_⟩, CC.bs h7 g (fun a _ z => by have := hK a z; omega), fun x hx => ?_⟩
  · rw [(g.f (a := uo U) (by omega) (fun z => by have := hK _ z; omega)).1]; exact h6.1
  · rw [(g.f (a := usg U) (by omega) (fun z => by have := hK _ z; omega)).1]; exact h6.2
  · obtain ⟨v1, v2⟩ := h8 x hx
    refine ⟨fr _ _ v1, ?_⟩
    rw [fI x v1.1]; exact v2
theorem CC.lst5 {pp' : List Nat} {cp' : Nat} (h : CC E U K n I F J k X R N st pu cu pp cp D Sg) (hc0 : K (E.2.1 10) = 0) (g : GR (SL K F (ul U 5)) (K, n, I, F, J) (K', n', I', F', J)) (hG' : HG E K' F') (hL : cL E K' n' I' F' (ul U 5) pp' cp') (hcu : cp' ≤ 300) (hX : ∀ a ∈ pp', a ∈ X 0) : CC E U K' n' I' F' J k X R N st pu cu pp' cp' D Sg := by
  obtain ⟨cap, fo, h1, h2, h3, h4, h5, h6, h7, h8⟩ := h
  obtain ⟨C, S', fr, fI, kl⟩ := h1.listStep (j := 5) (Or.inr rfl) h2 hc0 g hG'
  have hK : ∀ a, SL K F (ul U 5) a → K a = 10 ∨ K a = 23 := fun a z => by
    rcases z with z | z
    · rw [z]; exact Or.inl h4.1
    · exact Or.inr z.2
  have ho := h1.1
  have hs := h1.2.2.1.2.1
  refine ⟨cap, fo, C, S', kl 4 _ _ (by omega) (by omega) h3, hL, ⟨h5.1, hcu, h5.2.2.1, hX⟩, ⟨?_, ?_⟩, CC.bs h7 g (fun a _ z => by have := hK a z; omega), fun x hx => ?_⟩
  · rw [(g.f (a := uo U) (by omega) (fun z => by have := hK _ z; omega)).1]; exact h6.1
  · rw [(g.f (a := usg U) (by omega) (fun z => by have := hK _ z; omega)).1]; exact h6.2
  · obtain ⟨v1, v2⟩ := h8 x hx
    refine ⟨fr _ _ v1, ?_⟩
    rw [fI x v1.1]; exact v2
end
section
variable {E : zE} {U : zU} {K n : Nat → Nat} {I : Nat → Nat → Int32} {F : Nat → Nat → Option Nat} {J : Nat → Nat → Int64} {cb sb : Nat} {Q : zO → zH → Prop} {k : Nat → Nat} {X : Nat → List Nat} {R : Nat → List Nat} {N : Nat → Nat × Nat × Nat} {st : zStm} {pu pp : List Nat} {cu cp : Nat} {D Sg : Nat → Int32}
/-- Rows.add() -/
theorem cc_add {i : Nat} (h : CC E U K n I F J k X R N st pu cu pp cp D Sg) (hi : i < 4) (hb : k i < 150 → k i = (X i).length → 3 ≤ cb ∧ 405 ≤ sb)
    (w1 : ¬ k i < 150 → Q (.inl (some (va_rf none))) (K, n, I, F, J))
    (w2 : k i < 150 → ∀ K' n' I' F' X' N' a, CC E U K' n' I' F' J (va_up k i (k i + 1)) X' (va_up R a []) N' st pu cu pp cp D Sg → (∀ x, x ≠ a → N' x = N x) → (∀ j, j ≠ i → X' j = X j) → (X' i).getD (k i) 0 = a → (∀ t, t < k i → (X' i).getD t 0 = (X i).getD t 0) → (X' i).length = max (X i).length (k i + 1) → ((k i < (X i).length ∧ N' a = N a) ∨ (k i = (X i).length ∧ N' a = (0, 0, 1))) → Q (.inl (some (.ref a))) (K', n', I', F', J)) :
    AW E m_Rows_add (K, n, I, F, J) cb sb Q 0 [some (.ref (uw U i)), none] [] := by
  obtain ⟨cap, fo, h1, h2, h3, h4, h5, h6, h7, h8⟩ := h
  have hG := h1.2.1
  have ho := h1.1
  have hs := h1.2.2.1.2.1
  refine c_gAdd h1 h2 hi hb w1 (fun hk K' n' I' F' X' cap' a C S' g hX haX ea et hr fr fl hor => ?_)
  have hw5 := (h1.2.2.2.2.1 i hi).2.1
  have hli := h1.lK (i := i) (by omega)
  have hlen := (h1.2.2.2.2.1 i hi).2.2.2.2.2.1
  have ha4 : K a = 4 ∨ K a = 0 := by
    rcases hor with q | q
    · have := zgetD_mem q.1
      rw [← q.2.1, ea, q.2.1] at this
      exact Or.inl (h8 a (Or.inr ⟨i, hi, this⟩)).1.1
    · exact Or.inr q.2.1
  have hK : ∀ c, (c = uw U i ∨ SL K F (ul U i) c ∨ (k i < (X i).length ∧ c = a)) → K c = 5 ∨ K c = 10 ∨ K c = 23 ∨ K c = 4 ∨ K c = 0 := fun c z => by
    rcases z with z | (z | z) | z
    · rw [z]; exact Or.inl hw5
    · rw [z]; exact Or.inr (Or.inl hli)
    · exact Or.inr (Or.inr (Or.inl z.2))
    · rw [z.2]; exact Or.inr (Or.inr (Or.inr ha4))
  have hX0 : ∀ x, x ∈ X 0 → x ∈ X' 0 := fun x hx => by
    by_cases e : (0 : Nat) = i
    · subst e
      rcases hor with q | q
      · rw [q.2.1]; exact hx
      · rw [q.2.2.1]; simp [hx]
    · rw [(hX 0 e).1]; exact hx
  have hrw : ∀ x, x ≠ a → rws U X' x → rws U X x := fun x hxa z => by
    rcases z with z | ⟨j, hj, z⟩
    · exact Or.inl z
    · by_cases e : j = i
      · subst e
        rcases hor with q | q
        · rw [q.2.1] at z; exact Or.inr ⟨j, hj, z⟩
        · rw [q.2.2.1] at z
          rcases List.mem_append.mp z with z | z
          · exact Or.inr ⟨j, hj, z⟩
          · exact absurd (List.mem_singleton.mp z) hxa
      · rw [(hX j e).1] at z; exact Or.inr ⟨j, hj, z⟩
  have hN' : ∃ t, (I' a 2 = nI t.1 ∧ I' a 3 = nI t.2.1 ∧ I' a 4 = nI t.2.2) ∧ ((k i < (X i).length ∧ t = N a) ∨ (k i = (X i).length ∧ t = (0, 0, 1))) := by
    rcases hor with q | q
    · have := zgetD_mem q.1
      rw [← q.2.1, ea, q.2.1] at this
      obtain ⟨-, v2, v3, v4⟩ := h8 a (Or.inr ⟨i, hi, this⟩)
      refine ⟨N a, ⟨?_, ?_, ?_⟩, Or.inl ⟨q.1, rfl⟩⟩
      · rw [q.2.2.2 2 (by decide)]; exact v2
      · rw [q.2.2.2 3 (by decide)]; exact v3
      · rw [q.2.2.2 4 (by decide)]; exact v4
    · exact ⟨(0, 0, 1), ⟨q.2.2.2.2.1.trans rfl, q.2.2.2.2.2.1.trans rfl, q.2.2.2.2.2.2.trans rfl⟩, Or.inr ⟨q.1, rfl⟩⟩
  obtain ⟨t, ⟨t1, t2, t3⟩, ht⟩ := hN'
  refine w2 hk K' n' I' F' X' (va_up N a t) a ⟨cap', fo, C, S', fl 4 _ _ (by omega) (by omega) h3, fl 5 _ _ (by omega) (by omega) h4, ⟨h5.1, h5.2.1, fun x hx => hX0 x (h5.2.2.1 x hx), fun x hx => hX0 x (h5.2.2.2 x hx)⟩, ⟨?_, ?_⟩, CC.bs h7 g (fun c hc z => ?_), fun x hx => ?_⟩ (fun x hx => va_up_n _ _ hx) (fun j hj => (hX j hj).1) ea et ?_ ?_
  · rw [(g.f (a := uo U) (by omega) (fun z => by have := hK _ z; omega)).1]; exact h6.1
  · rw [(g.f (a := usg U) (by omega) (fun z => by have := hK _ z; omega)).1]; exact h6.2
  · have := hK c z; omega
  · by_cases e : x = a
    · subst e; rw [va_up_s, va_up_s]; exact ⟨hr, t1, t2, t3⟩
    · rw [va_up_n _ _ e, va_up_n _ _ e]
      obtain ⟨v1, v2⟩ := h8 x (hrw x e hx)
      obtain ⟨f1, f2⟩ := fr x _ e v1
      refine ⟨f1, ?_⟩
      rw [f2]; exact v2
  · rcases hor with q | q
    · rw [q.2.1]; omega
    · rw [q.2.2.1]; simp; omega
  · rw [va_up_s]; exact ht
end
