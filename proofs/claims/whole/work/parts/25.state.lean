-- ===== the class's state: where everything lies =====
/-- w: the four Rows, l: their lists, the unmatched, the picked; X: the rows made; k: how many count -/
def CG (E : zE) (K n : Nat → Nat) (I : Nat → Nat → Int32) (F : Nat → Nat → Option Nat) (o sg fo hd ns : Nat) (w l cap k : Nat → Nat) (X : Nat → List Nat) : Prop :=
  K o = 8 ∧ HG E K F ∧ (F o 0 = some sg ∧ K sg = 21 ∧ n sg = 500) ∧ (F o 2 = some fo ∧ K fo = 6) ∧ (∀ i, i < 4 → F o (3 + i) = some (w i) ∧ cW E K n I F (w i) (l i) (X i) (cap i) (k i)) ∧
  (F o 7 = some (l 4) ∧ F o 10 = some (l 5) ∧ K (l 4) = 10 ∧ K (l 5) = 10) ∧ (F o 11 = some hd ∧ ∃ r, cR K n I F hd r) ∧ (F o 12 = some ns ∧ K ns = 22 ∧ n ns = 4) ∧
  (∀ i j, i < 4 → j < 4 → w i = w j → i = j) ∧ (∀ i j, i < 6 → j < 6 → l i = l j → i = j) ∧ (∀ i j, i < 6 → j < 4 → F fo j ≠ some (l i)) ∧
  (∀ i j a, i < 4 → j < 4 → a ∈ X i → a ∈ X j → i = j) ∧ (∀ i, i < 4 → (X i).Nodup) ∧ ∀ i, i < 4 → hd ∉ X i
/-- a row and its bytes -/
def rowS (F : Nat → Nat → Option Nat) (a c : Nat) : Prop := c = a ∨ F a 0 = some c
section
variable {E : zE} {K n K' n' : Nat → Nat} {I I' : Nat → Nat → Int32} {F F' : Nat → Nat → Option Nat} {J J' : Nat → Nat → Int64} {S : Nat → Prop}
theorem row_fr {a x : Nat} {r : List Nat} (h : cR K n I F x r) (g : GR (rowS F a) (K, n, I, F, J) (K', n', I', F', J')) (hG : HG E K F) (ha : K a = 4) (hne : x ≠ a) : cR K' n' I' F' x r := by
  have hx := h.1
  refine h.fr g (fun z => ?_) (fun b hb z => ?_)
  · rcases z with z | z
    · exact hne z
    · have := hG.2.2.1 a x ha z; omega
  · have hk := hG.2.2.1 x b hx hb
    rcases z with z | z
    · rw [z] at hk; omega
    · exact hne (hG.2.2.2.1 x a b hx ha hb z)
theorem rowS_K {a c : Nat} (hG : HG E K F) (ha : K a = 4) (h : rowS F a c) : K c = 4 ∨ K c = 20 := by
  rcases h with h | h
  · rw [h]; exact Or.inl ha
  · exact Or.inr (hG.2.2.1 a c ha h)
theorem cL.frN {l cap : Nat} {xs : List Nat} (h : cL E K n I F l xs cap) (g : GR S (K, n, I, F, J) (K', n', I', F', J')) (hS : ∀ a, K a ≠ 0 → S a → K a ≠ 10 ∧ K a ≠ 23) : cL E K' n' I' F' l xs cap :=
  h.fr g (fun z => (hS l (by have := h.1; omega) z).1 h.1) (fun e _ hk z => (hS e (by omega) z).2 hk)
theorem cW.frX {w l cap k : Nat} {xs : List Nat} (h : cW E K n I F w l xs cap k) (g : GR S (K, n, I, F, J) (K', n', I', F', J')) (hw : ¬ S w) (hl : ¬ S l) (he : ∀ e, F l 1 = some e → K e = 23 → ¬ S e) (hx : ∀ x ∈ xs, ∃ r, cR K' n' I' F' x r) : cW E K' n' I' F' w l xs cap k := by
  obtain ⟨h1, h2, h3, h4, h5, h6, h7, h8⟩ := h
  have f := g.f (a := w) (by omega) hw
  exact ⟨by rw [g.k (by omega)]; exact h1, by rw [f.2.1]; exact h2, h3.fr g hl he, by rw [f.1]; exact h4, h5, h6, h7, hx⟩
end
section
variable {E : zE} {K n : Nat → Nat} {I : Nat → Nat → Int32} {F : Nat → Nat → Option Nat} {J : Nat → Nat → Int64} {o sg fo hd ns : Nat} {w l cap k : Nat → Nat} {X : Nat → List Nat}
theorem CG.row {i t : Nat} (h : CG E K n I F o sg fo hd ns w l cap k X) (hi : i < 4) (ht : t < (X i).length) : ∃ r, cR K n I F ((X i).getD t 0) r := (h.2.2.2.2.1 i hi).2.2.2.2.2.2.2.2 _ (zgetD_mem ht)
/-- a step on one row -/
theorem CG.rowStep {I' : Nat → Nat → Int32} {a : Nat} {r' : List Nat} (h : CG E K n I F o sg fo hd ns w l cap k X) (ha : K a = 4) (g : GR (rowS F a) (K, n, I, F, J) (K, n, I', F, J)) (hr : cR K n I' F a r') : CG E K n I' F o sg fo hd ns w l cap k X := by
  obtain ⟨h1, h2, h3, h4, h5, h6, h7, h8, h9, h10, h11, h12, h13, h14⟩ := h
  have fr : ∀ x, (∃ r, cR K n I F x r) → ∃ r, cR K n I' F x r := fun x ⟨r, hx⟩ => by
    by_cases e : x = a
    · rw [e]; exact ⟨r', hr⟩
    · exact ⟨r, row_fr hx g h2 ha e⟩
  have nS : ∀ c, K c ≠ 4 → K c ≠ 20 → ¬ rowS F a c := fun c q1 q2 z => (rowS_K h2 ha z).elim q1 q2
  refine ⟨h1, h2, h3, h4, fun i hi => ?_, h6, ⟨h7.1, fr hd h7.2⟩, h8, h9, h10, h11, h12, h13, h14⟩
  obtain ⟨q1, q2⟩ := h5 i hi
  have k1 := q2.1
  have k2 := q2.2.2.1.1
  exact ⟨q1, q2.frX g (nS _ (by omega) (by omega)) (nS _ (by omega) (by omega)) (fun e _ hk => nS e (by omega) (by omega)) (fun x hx => fr x (q2.2.2.2.2.2.2.2 x hx))⟩
theorem CG.stm {I' : Nat → Nat → Int32} {a : Nat} {st : zStm} (hS : cSt E K n I F fo st) (hG : HG E K F) (ha : K a = 4) (g : GR (rowS F a) (K, n, I, F, J) (K, n, I', F, J)) : cSt E K n I' F fo st := by
  refine hS.frF g hG (fun c _ z => ?_)
  rcases z with z | z
  · rw [z]; exact Or.inl (by omega)
  · exact Or.inr (Or.inr (Or.inr ⟨hG.2.2.1 a c ha z, a, ha, z⟩))
/-- numbers of the object itself, of a Rows -/
theorem CG.oStep {I' : Nat → Nat → Int32} (h : CG E K n I F o sg fo hd ns w l cap k X) (g : ∀ a, a ≠ o → I' a = I a) : CG E K n I' F o sg fo hd ns w l cap k X := by
  obtain ⟨h1, h2, h3, h4, h5, h6, h7, h8, h9, h10, h11, h12, h13, h14⟩ := h
  have g : GR (fun a => a = o) (K, n, I, F, fun _ _ => (0 : Int64)) (K, n, I', F, fun _ _ => (0 : Int64)) := fun a _ => ⟨rfl, rfl, fun hn => ⟨g a hn, rfl, rfl⟩⟩
  have fr : ∀ x, (∃ r, cR K n I F x r) → ∃ r, cR K n I' F x r := fun x ⟨r, hx⟩ => ⟨r, hx.fr g (fun z => by have := hx.1; rw [z] at this; omega) (fun b hb z => by have := h2.2.2.1 x b hx.1 hb; rw [z] at this; omega)⟩
  refine ⟨h1, h2, h3, h4, fun i hi => ?_, h6, ⟨h7.1, fr hd h7.2⟩, h8, h9, h10, h11, h12, h13, h14⟩
  obtain ⟨q1, q2⟩ := h5 i hi
  exact ⟨q1, q2.frX g (fun z => by have := q2.1; rw [z] at this; omega) (fun z => by have := q2.2.2.1.1; rw [z] at this; omega) (fun e _ hk z => by rw [z] at hk; omega) (fun x hx => fr x (q2.2.2.2.2.2.2.2 x hx))⟩
theorem CG.grO {I' : Nat → Nat → Int32} (g : ∀ a, a ≠ o → I' a = I a) : GR (fun a => a = o) (K, n, I, F, J) (K, n, I', F, J) := fun a _ => ⟨rfl, rfl, fun hn => ⟨g a hn, rfl, rfl⟩⟩
end
section
variable {E : zE} {K n K' n' : Nat → Nat} {I I' : Nat → Nat → Int32} {F F' : Nat → Nat → Option Nat} {J J' : Nat → Nat → Int64} {o sg fo hd ns : Nat} {w l cap k : Nat → Nat} {X : Nat → List Nat}
/-- what a step may touch: no row, no bytes, no text, not the object, none of its other lists -/
theorem CG.gen {S : Nat → Prop} {cap' k' : Nat → Nat} {X' : Nat → List Nat} (h : CG E K n I F o sg fo hd ns w l cap k X) (g : GR S (K, n, I, F, J) (K', n', I', F', J')) (hG' : HG E K' F') (hS : ∀ a, K a ≠ 0 → S a → a ≠ o ∧ K a ≠ 4 ∧ K a ≠ 20 ∧ K a ≠ 21 ∧ K a ≠ 22 ∧ K a ≠ 6)
    (hW : ∀ i, i < 4 → cW E K' n' I' F' (w i) (l i) (X' i) (cap' i) (k' i)) (h12' : ∀ i j a, i < 4 → j < 4 → a ∈ X' i → a ∈ X' j → i = j) (h13' : ∀ i, i < 4 → (X' i).Nodup) (h14' : ∀ i, i < 4 → hd ∉ X' i) : CG E K' n' I' F' o sg fo hd ns w l cap' k' X' ∧ (∀ x r, cR K n I F x r → cR K' n' I' F' x r) ∧ (∀ x, K x = 4 → I' x = I x) := by
  obtain ⟨h1, h2, h3, h4, h5, h6, h7, h8, h9, h10, h11, h12, h13, h14⟩ := h
  have ho := g.f (a := o) (by omega) (fun z => (hS o (by omega) z).1 rfl)
  have hfo := g.f (a := fo) (by omega) (fun z => (hS fo (by omega) z).2.2.2.2.2 h4.2)
  have fr : ∀ x r, cR K n I F x r → cR K' n' I' F' x r := fun x r hx => hx.fr g (fun z => (hS x (by have := hx.1; omega) z).2.1 hx.1) (fun b hb z => by
    have hk := h2.2.2.1 x b hx.1 hb
    exact (hS b (by omega) z).2.2.1 hk)
  have kp : ∀ {a c : Nat}, K a = c → c ≠ 0 → K' a = c := fun {a c} ha hc => by rw [g.k (by omega)]; exact ha
  have np : ∀ {a : Nat}, K a ≠ 0 → n' a = n a := fun {a} ha => (g a ha).2.1
  refine ⟨⟨kp h1 (by decide), hG', ⟨by rw [ho.2.1]; exact h3.1, kp h3.2.1 (by decide), by rw [np (by omega)]; exact h3.2.2⟩, ⟨by rw [ho.2.1]; exact h4.1, kp h4.2 (by decide)⟩, fun i hi => ⟨by rw [ho.2.1]; exact (h5 i hi).1, hW i hi⟩, ⟨by rw [ho.2.1]; exact h6.1, by rw [ho.2.1]; exact h6.2.1, kp h6.2.2.1 (by decide), kp h6.2.2.2 (by decide)⟩, ⟨by rw [ho.2.1]; exact h7.1, ?_⟩, ⟨by rw [ho.2.1]; exact h8.1, kp h8.2.1 (by decide), by rw [np (by omega)]; exact h8.2.2⟩, h9, h10, fun i j hi hj => ?_, h12', h13', h14'⟩, fr, fun x hx => ?_⟩
  · obtain ⟨r, hr⟩ := h7.2
    exact ⟨r, fr _ _ hr⟩
  · rw [hfo.2.1]; exact h11 i j hi hj
  · exact (g.f (a := x) (by omega) (fun z => (hS x (by omega) z).2.1 hx)).1
/-- a list is touched; the others aren't -/
theorem CG.lst {j i : Nat} (h : CG E K n I F o sg fo hd ns w l cap k X) (hc0 : K (E.2.1 10) = 0) (hj : j < 6) (hi : i < 6) (hij : i ≠ j) (hli : K (l i) = 10) (hlj : K (l j) = 10) : ¬ SL K F (l j) (l i) ∧ ∀ e, F (l i) 1 = some e → K e = 23 → ¬ SL K F (l j) e := by
  obtain ⟨h1, h2, h3, h4, h5, h6, h7, h8, h9, h10, h11, h12, h13, h14⟩ := h
  refine ⟨fun z => ?_, fun e he hk z => ?_⟩
  · rcases z with z | z
    · exact hij (h10 i j hi hj z)
    · omega
  · rcases z with z | z
    · rw [z] at hk; omega
    · rcases h2.2.1 (l i) (l j) e hli hlj he z.1 with y | y
      · exact hij (h10 i j hi hj y)
      · rw [y, hc0] at hk; cases hk
theorem CG.lK {i : Nat} (h : CG E K n I F o sg fo hd ns w l cap k X) (hi : i < 6) : K (l i) = 10 := by
  obtain ⟨h1, h2, h3, h4, h5, h6, h7, h8, h9, h10, h11, h12, h13, h14⟩ := h
  by_cases q : i < 4
  · exact (h5 i q).2.2.2.1.1
  · have : i = 4 ∨ i = 5 := by omega
    rcases this with rfl | rfl
    · exact h6.2.2.1
    · exact h6.2.2.2
theorem CG.forS {j : Nat} {st : zStm} (h : CG E K n I F o sg fo hd ns w l cap k X) (hS : cSt E K n I F fo st) (hc0 : K (E.2.1 10) = 0) (hj : j < 6) {a : Nat} (z : SL K F (l j) a) : zFor K F fo a := by
  have hlj := h.lK hj
  obtain ⟨h1, h2, h3, h4, h5, h6, h7, h8, h9, h10, h11, h12, h13, h14⟩ := h
  rcases z with z | z
  · rw [z]; exact Or.inr (Or.inl ⟨hlj, fun i hi => h11 j i hj hi⟩)
  · refine Or.inr (Or.inr (Or.inl ⟨z.2, fun i l' hi hl' he => ?_⟩))
    obtain ⟨-, -, -, -, -, -, -, -, l0, l1, l2, l3, f0, f1, f2, f3, ⟨_, _, a0, -⟩, ⟨_, _, a1, -⟩, ⟨_, _, a2, -⟩, ⟨_, _, a3, -⟩⟩ := hS
    have hl10 : K l' = 10 := by
      have : i = 0 ∨ i = 1 ∨ i = 2 ∨ i = 3 := by omega
      rcases this with rfl | rfl | rfl | rfl
      · cases hl'.symm.trans f0; exact a0.1
      · cases hl'.symm.trans f1; exact a1.1
      · cases hl'.symm.trans f2; exact a2.1
      · cases hl'.symm.trans f3; exact a3.1
    rcases h2.2.1 l' (l j) a hl10 hlj he z.1 with y | y
    · exact h11 j i hj hi (by rw [← y]; exact hl')
    · rw [y, hc0] at z; omega
/-- a step on the unmatched or on the picked -/
theorem CG.listStep {j : Nat} {st : zStm} (hj : j = 4 ∨ j = 5) (h : CG E K n I F o sg fo hd ns w l cap k X) (hS : cSt E K n I F fo st) (hc0 : K (E.2.1 10) = 0) (g : GR (SL K F (l j)) (K, n, I, F, J) (K', n', I', F', J')) (hG' : HG E K' F') :
    CG E K' n' I' F' o sg fo hd ns w l cap k X ∧ cSt E K' n' I' F' fo st ∧ (∀ x r, cR K n I F x r → cR K' n' I' F' x r) ∧ (∀ x, K x = 4 → I' x = I x) ∧ (∀ i xs c, i < 6 → i ≠ j → cL E K n I F (l i) xs c → cL E K' n' I' F' (l i) xs c) := by
  have hlj := h.lK (i := j) (by omega)
  have hK : ∀ a, SL K F (l j) a → K a = 10 ∨ K a = 23 := fun a z => by
    rcases z with z | z
    · rw [z]; exact Or.inl hlj
    · exact Or.inr z.2
  have kl : ∀ i xs c, i < 6 → i ≠ j → cL E K n I F (l i) xs c → cL E K' n' I' F' (l i) xs c := fun i xs c hi hij q => by
    obtain ⟨q1, q2⟩ := h.lst hc0 (j := j) (by omega) hi hij (h.lK hi) hlj
    exact q.fr g q1 q2
  have fr : ∀ x r, cR K n I F x r → cR K' n' I' F' x r := fun x r hx => hx.fr g (fun z => by have := hx.1; rcases hK x z with y | y <;> omega) (fun b hb z => by
    have hk := h.2.1.2.2.1 x b hx.1 hb
    rcases hK b z with y | y <;> omega)
  have res := h.gen g hG' (cap' := cap) (k' := k) (X' := X) (fun a _ z => by
    have h1 := h.1
    refine ⟨fun q => ?_, ?_⟩
    · rw [q] at z; rcases hK o z with y | y <;> omega
    · rcases hK a z with y | y <;> omega) (fun i hi => by
    obtain ⟨q1, q2⟩ := h.2.2.2.2.1 i hi
    obtain ⟨e1, e2⟩ := h.lst hc0 (j := j) (i := i) (by omega) (by omega) (by omega) (h.lK (by omega)) hlj
    refine q2.frX g (fun z => by have := q2.1; rcases hK _ z with y | y <;> omega) e1 e2 (fun x hx => ?_)
    obtain ⟨r, hr⟩ := q2.2.2.2.2.2.2.2 x hx
    exact ⟨r, fr x r hr⟩) h.2.2.2.2.2.2.2.2.2.2.2.1 h.2.2.2.2.2.2.2.2.2.2.2.2.1 h.2.2.2.2.2.2.2.2.2.2.2.2.2
  exact ⟨res.1, hS.frF g h.2.1 (fun a _ z => h.forS hS hc0 (by omega) z), fr, res.2.2, kl⟩
/-- the number of a Rows changes -/
theorem CG.wStep {i m : Nat} (h : CG E K n I F o sg fo hd ns w l cap k X) (hi : i < 4) (hm : m ≤ (X i).length) : CG E K n (zup I (w i) 1 (nI m)) F o sg fo hd ns w l cap (va_up k i m) X ∧ GR (fun a => a = w i) (K, n, I, F, J) (K, n, zup I (w i) 1 (nI m), F, J) := by
  have g : GR (fun a => a = w i) (K, n, I, F, J) (K, n, zup I (w i) 1 (nI m), F, J) := fun a _ => ⟨rfl, rfl, fun hn => ⟨zup_n _ _ _ hn, rfl, rfl⟩⟩
  have hw5 := (h.2.2.2.2.1 i hi).2.1
  have ho := h.1
  refine ⟨(h.gen g h.2.1 (cap' := cap) (k' := va_up k i m) (X' := X) (fun a _ z => ?_) (fun j hj => ?_) h.2.2.2.2.2.2.2.2.2.2.2.1 h.2.2.2.2.2.2.2.2.2.2.2.2.1 h.2.2.2.2.2.2.2.2.2.2.2.2.2).1, g⟩
  · have hb : a = w i := z
    rw [hb]
    refine ⟨fun q => ?_, by omega⟩
    rw [q] at hw5; omega
  · obtain ⟨q1, q2⟩ := h.2.2.2.2.1 j hj
    have fr : ∀ x ∈ X j, ∃ r, cR K n (zup I (w i) 1 (nI m)) F x r := fun x hx => by
      obtain ⟨r, hr⟩ := q2.2.2.2.2.2.2.2 x hx
      refine ⟨r, hr.fr g (fun z => ?_) (fun b hb z => ?_)⟩
      · have := hr.1; rw [z] at this; omega
      · have := h.2.1.2.2.1 x b hr.1 hb; rw [z] at this; omega
    have hl : ∀ {xs c}, cL E K n I F (l j) xs c → cL E K n (zup I (w i) 1 (nI m)) F (l j) xs c := fun q => q.fr g (fun z => by have := q.1; rw [z] at this; omega) (fun e _ hk z => by rw [z] at hk; omega)
    by_cases e : j = i
    · subst e
      obtain ⟨a1, a2, a3, a4, a5, a6, a7, a8⟩ := q2
      exact ⟨a1, a2, hl a3, by rw [zup_s, va_up_s], by rw [va_up_s]; exact hm, a6, a7, fr⟩
    · have hne : w j ≠ w i := fun z => e (h.2.2.2.2.2.2.2.2.1 j i hj hi z)
      obtain ⟨a1, a2, a3, a4, a5, a6, a7, a8⟩ := q2
      exact ⟨a1, a2, hl a3, by rw [zup_n _ _ _ hne, va_up_n _ _ e]; exact a4, by rw [va_up_n _ _ e]; exact a5, a6, a7, fr⟩
end
