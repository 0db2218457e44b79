-- ===== the class's state and the reference's, side by side =====
section
variable {E : zE} {U : zU} {K n K' n' : Nat → Nat} {I I' : Nat → Nat → Int32} {F F' : Nat → Nat → Option Nat} {J J' : Nat → Nat → Int64} {S : Nat → Prop} {k : Nat → Nat} {X : Nat → List Nat} {R : Nat → List Nat} {N : Nat → Nat × Nat × Nat} {st : zStm} {pu pp : List Nat} {cu cp : Nat} {D Sg : Nat → Int32}
theorem CC.gr (h : CC E U K n I F J k X R N st pu cu pp cp D Sg) : GR (mine U) (uB U) (K, n, I, F, J) := by
  obtain ⟨cap, fo, h1, h2, h3, h4, h5, h6, h7, h8⟩ := h
  exact h7
theorem CC.sK (h : CC E U K n I F J k X R N st pu cu pp cp D Sg) : K (usg U) = 21 ∧ K (uns U) = 22 := by
  obtain ⟨cap, fo, h1, h2, h3, h4, h5, h6, h7, h8⟩ := h
  exact ⟨h1.2.2.1.2.1, h1.2.2.2.2.2.2.2.1.2.1⟩
/-- what touches none of the class's own leaves the state -/
theorem CC.other (h : CC E U K n I F J k X R N st pu cu pp cp D Sg) (g : GR S (K, n, I, F, J) (K', n', I', F', J')) (hG' : HG E K' F') (hS : ∀ a, K a ≠ 0 → S a → (K a = 9 ∨ K a = 21 ∨ K a = 22) ∧ a ≠ usg U ∧ a ≠ uns U) : CC E ((K', n', I', F', J'), U.2) K' n' I' F' J' k X R N st pu cu pp cp D Sg := by
  obtain ⟨cap, fo, h1, h2, h3, h4, h5, h6, h7, h8⟩ := h
  have hG := h1.2.1
  have ho := h1.1
  have hs := h1.2.2.1.2.1
  have hK : ∀ a, K a ≠ 0 → S a → K a = 9 ∨ K a = 21 ∨ K a = 22 := fun a ha z => (hS a ha z).1
  have fr : ∀ x r, cR K n I F x r → cR K' n' I' F' x r := fun x r hx => hx.fr g (fun z => by have := hx.1; have := hK x (by omega) z; omega) (fun b hb z => by have := hG.2.2.1 x b hx.1 hb; have := hK b (by omega) z; omega)
  have kp : ∀ {a c : Nat}, K a = c → c ≠ 0 → K' a = c := fun {a c} ha hc => by rw [g.k (by omega)]; exact ha
  have np : ∀ {a : Nat}, K a ≠ 0 → n' a = n a := fun {a} ha => (g a ha).2.1
  have go := g.f (a := uo U) (by omega) (fun z => by have := hK _ (by omega) z; omega)
  have gfo := g.f (a := fo) (by have := h1.2.2.2.1.2; omega) (fun z => by have := h1.2.2.2.1.2; have := hK _ (by omega) z; omega)
  have C : CG E K' n' I' F' (uo U) (usg U) fo (uhd U) (uns U) (uw U) (ul U) cap k X := by
    obtain ⟨g1, g2, g3, g4, g5, g6, g7, g8, g9, g10, g11, g12, g13, g14⟩ := h1
    refine ⟨kp g1 (by decide), hG', ⟨by rw [go.2.1]; exact g3.1, kp g3.2.1 (by decide), by rw [np (by omega)]; exact g3.2.2⟩, ⟨by rw [go.2.1]; exact g4.1, kp g4.2 (by decide)⟩, fun i hi => ?_, ⟨by rw [go.2.1]; exact g6.1, by rw [go.2.1]; exact g6.2.1, kp g6.2.2.1 (by decide), kp g6.2.2.2 (by decide)⟩, ⟨by rw [go.2.1]; exact g7.1, ?_⟩, ⟨by rw [go.2.1]; exact g8.1, kp g8.2.1 (by decide), by rw [np (by omega)]; exact g8.2.2⟩, g9, g10, fun i j hi hj => ?_, g12, g13, g14⟩
    · obtain ⟨q1, q2⟩ := g5 i hi
      refine ⟨by rw [go.2.1]; exact q1, q2.frX g (fun z => by have := q2.1; have := hK _ (by omega) z; omega) (fun z => by have := q2.2.2.1.1; have := hK _ (by omega) z; omega) (fun e _ hk z => by have := hK _ (by omega) z; omega) (fun x hx => ?_)⟩
      obtain ⟨r, hr⟩ := q2.2.2.2.2.2.2.2 x hx
      exact ⟨r, fr x r hr⟩
    · obtain ⟨r, hr⟩ := g7.2
      exact ⟨r, fr _ r hr⟩
    · rw [gfo.2.1]; exact g11 i j hi hj
  refine ⟨cap, fo, C, h2.frF g hG (fun a ha z => Or.inl (by have := hK a ha z; omega)), h3.frN g (fun a ha z => by have := hK a ha z; omega), h4.frN g (fun a ha z => by have := hK a ha z; omega), h5, ⟨go.1.trans h6.1, ?_⟩, GR.refl _, fun x hx => ?_⟩
  · show I' (usg U) = Sg
    rw [(g.f (a := usg U) (by omega) (fun z => (hS _ (by omega) z).2.1 rfl)).1]; exact h6.2
  · obtain ⟨v1, v2⟩ := h8 x hx
    refine ⟨fr x _ v1, ?_⟩
    have := v1.1
    rw [(g.f (a := x) (by omega) (fun z => by have := hK x (by omega) z; omega)).1]; exact v2
end
section
variable {B : (Nat → Nat → Int32) × (Nat → Nat → Int64)} {K n K' n' : Nat → Nat} {I I' : Nat → Nat → Int32} {F F' : Nat → Nat → Option Nat} {J J' : Nat → Nat → Int64} {S : Nat → Prop} {m : Nat} {A : Nat → Nat} {V : Nat → Nat → Int32} {T : Nat → Int64}
/-- the reference's own cells -/
def mown (m : Nat) (A : Nat → Nat) (a : Nat) : Prop := a = m ∨ (∃ f, 0 < asz f ∧ a = A f) ∨ a = A 39
theorem MS.mK (h : MS B K n I F J m A V T) {a : Nat} (z : mown m A a) : K a = 9 ∨ K a = 21 ∨ K a = 22 := by
  rcases z with z | ⟨f, hf, z⟩ | z
  · rw [z]; exact Or.inl h.1.1
  · rw [z]; exact Or.inr (Or.inl (h.1.2.1 f hf).2.1)
  · rw [z]; exact Or.inr (Or.inr h.1.2.2.2.2.1)
theorem MS.other (h : MS B K n I F J m A V T) (g : GR S (K, n, I, F, J) (K', n', I', F', J')) (hS : ∀ a, K a ≠ 0 → S a → ¬ mown m A a) : MS (I', J') K' n' I' F' J' m A V T := by
  obtain ⟨⟨h1, h2, h3, h4, h5, h6⟩, h7, h8, h9, h10, h11⟩ := h
  have nz : ∀ a, K a ≠ 0 → mown m A a → ¬ S a := fun a ha z y => hS a ha y z
  have gm := g.f (a := m) (by omega) (nz m (by omega) (Or.inl rfl))
  have gA := fun f hf => g.f (a := A f) (by have := (h2 f hf).2.1; omega) (nz (A f) (by have := (h2 f hf).2.1; omega) (Or.inr (Or.inl ⟨f, hf, rfl⟩)))
  have gL := g.f (a := A 39) (by omega) (nz (A 39) (by omega) (Or.inr (Or.inr rfl)))
  refine ⟨⟨by rw [g.k (by omega)]; exact h1, fun f hf => ?_, h3, by rw [gm.2.1]; exact h4, by rw [g.k (by omega)]; exact h5, (g (A 39) (by show K (A 39) ≠ 0; omega)).2.1.trans h6⟩, gm.1.trans h7, fun f hf => (gA f hf).1.trans (h8 f hf), gL.2.2.trans h9, fun a _ _ => rfl, fun a _ => rfl⟩
  obtain ⟨b1, b2, b3⟩ := h2 f hf
  exact ⟨by rw [gm.2.1]; exact b1, by rw [g.k (by omega)]; exact b2, (g (A f) (by show K (A f) ≠ 0; omega)).2.1.trans b3⟩
/-- the base made the heap itself -/
theorem MS.re (h : MS B K n I F J m A V T) : MS (I, J) K n I F J m A V T := by
  obtain ⟨h1, h7, h8, h9, h10, h11⟩ := h
  exact ⟨h1, h7, h8, h9, fun a _ _ => rfl, fun a _ => rfl⟩
/-- what the reference touched -/
theorem MS.gr (h : MS (I, J) K n I' F J' m A V T) : GR (mown m A) (K, n, I, F, J) (K, n, I', F, J') := fun a _ => ⟨rfl, rfl, fun hn => ⟨h.2.2.2.2.1 a (fun z => hn (Or.inl z)) (fun f hf z => hn (Or.inr (Or.inl ⟨f, hf, z⟩))), rfl, h.2.2.2.2.2 a (fun z => hn (Or.inr (Or.inr z)))⟩⟩
end
