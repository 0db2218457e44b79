-- ===== the statements as they grow =====
def fF (K0 K : Nat → Nat) (F : Nat → Nat → Option Nat) (fo : Nat) : Prop :=
  (∀ i j l, i < 4 → j < 4 → F fo i = some l → F fo j = some l → i = j) ∧ ∀ i l, i < 4 → F fo i = some l → K l = 10 ∧ K0 l = 0 ∧ ∀ e, F l 1 = some e → K e = 23 → K0 e = 0
/-- the reader, and what it has found -/
def rI (E : zE) (K0 K n : Nat → Nat) (I : Nat → Nat → Int32) (F : Nat → Nat → Option Nat) (rd sg L : Nat) (x : zTx) (fo m : Nat) (st : zStm) (p : Nat) : Prop :=
  rB K n I F rd sg L x p ∧ K0 rd = 0 ∧ (∀ a, K0 a ≠ 0 → K a ≠ 0) ∧ I rd 3 = nI m ∧ m < 64 ∧ F rd 2 = some fo ∧ K0 fo = 0 ∧ fF K0 K F fo ∧ HG E K F ∧ cSt E K n I F fo st
section
variable {E : zE} {K0 K n K' n' : Nat → Nat} {I I' : Nat → Nat → Int32} {F F' : Nat → Nat → Option Nat} {J J' : Nat → Nat → Int64} {rd sg L p q fo m : Nat} {x : zTx} {st : zStm} {S : Nat → Prop}
theorem GR.k (g : GR S (K, n, I, F, J) (K', n', I', F', J')) {a : Nat} (ha : K a ≠ 0) : K' a = K a := (g a ha).1
theorem GR.f (g : GR S (K, n, I, F, J) (K', n', I', F', J')) {a : Nat} (ha : K a ≠ 0) (hn : ¬ S a) : I' a = I a ∧ F' a = F a ∧ J' a = J a := (g a ha).2.2 hn
theorem cP.frK {a : Nat} {t : zPart} (h : cP K n I F a t) (g : GR S (K, n, I, F, J) (K', n', I', F', J')) (hG : HG E K F) (hS : ∀ a, K a ≠ 0 → S a → K a ≠ 1 ∧ K a ≠ 2 ∧ K a ≠ 7 ∧ K a ≠ 20) : cP K' n' I' F' a t := by
  have h1 := h.1
  refine h.fr g (fun z => (hS a (by omega) z).2.1 h1) (fun b hb z => ?_)
  have hk := hG.2.2.2.2.1 a b h1 hb
  exact (hS b (by omega) z).2.2.2 hk
theorem cK.frK {a : Nat} {t : zKey} (h : cK K n I F a t) (g : GR S (K, n, I, F, J) (K', n', I', F', J')) (hG : HG E K F) (hS : ∀ a, K a ≠ 0 → S a → K a ≠ 1 ∧ K a ≠ 2 ∧ K a ≠ 7 ∧ K a ≠ 20) : cK K' n' I' F' a t := by
  obtain ⟨h1, h2, h3, r, h4, h5⟩ := h
  obtain ⟨g1, g2, g3⟩ := g a (by show K a ≠ 0; omega)
  obtain ⟨g3, g4, -⟩ := g3 (fun z => (hS a (by omega) z).1 h1)
  dsimp only at g1 g2 g3 g4
  exact ⟨by rw [g1]; exact h1, by rw [g3]; exact h2, by rw [g3]; exact h3, r, by rw [g4]; exact h4, h5.frK g hG hS⟩
theorem cT.frK {a : Nat} {t : zTest} (h : cT K n I F a t) (g : GR S (K, n, I, F, J) (K', n', I', F', J')) (hG : HG E K F) (hS : ∀ a, K a ≠ 0 → S a → K a ≠ 1 ∧ K a ≠ 2 ∧ K a ≠ 7 ∧ K a ≠ 20) : cT K' n' I' F' a t := by
  obtain ⟨h1, h2, h3, h4, r, r', h5, h6, h7, h8⟩ := h
  obtain ⟨g1, g2, g3⟩ := g a (by show K a ≠ 0; omega)
  obtain ⟨g3, g4, -⟩ := g3 (fun z => (hS a (by omega) z).2.2.1 h1)
  dsimp only at g1 g2 g3 g4
  exact ⟨by rw [g1]; exact h1, by rw [g3]; exact h2, by rw [g3]; exact h3, h4, r, r', by rw [g4]; exact h5, h6.frK g hG hS, by rw [g4]; exact h7, h8.frK g hG hS⟩
theorem rI.step (h : rI E K0 K n I F rd sg L x fo m st p) (s : rS E (K, n, I, F, J) (K', n', I', F', J') rd sg L x q) : rI E K0 K' n' I' F' rd sg L x fo m st q := by
  obtain ⟨h1, h2, h3, h4, h5, h6, h7, h8, h9, h10⟩ := h
  obtain ⟨s1, s2, s3, s4, s5⟩ := s
  dsimp only at s2 s3 s4 s5
  have hk3 := h1.1
  have hfo := h10.1
  have ff : F' fo = F fo := ((s1 fo (by show K fo ≠ 0; omega)).2.2 (fun z => by rw [z] at hfo; omega)).2.1
  refine ⟨s2, h2, fun a ha => ?_, s3.trans h4, h5, by rw [s4]; exact h6, h7, ⟨fun i j l hi hj => ?_, fun i l hi hl => ?_⟩, s5, h10.frF s1 h9 (fun a _ z => Or.inl (by rw [z]; omega))⟩
  · rw [s1.k (h3 a ha)]; exact h3 a ha
  · rw [ff]; exact h8.1 i j l hi hj
  · rw [ff] at hl
    obtain ⟨l1, l2, l3⟩ := h8.2 i l hi hl
    obtain ⟨g1, -, g3⟩ := s1 l (by show K l ≠ 0; omega)
    have fl : F' l = F l := (g3 (fun z => by rw [z] at l1; omega)).2.1
    dsimp only at g1
    refine ⟨by rw [g1]; exact l1, l2, fun e he hk => ?_⟩
    rw [fl] at he
    by_cases hz : K e = 0
    · exact Nat.eq_zero_of_not_pos (fun z => h3 e (by omega) hz)
    · have := (s1 e hz).1
      dsimp only at this
      exact l3 e he (by rw [← this]; exact hk)
theorem rI.gr (h : rI E K0 K n I F rd sg L x fo m st p) (s : rS E (K, n, I, F, J) (K', n', I', F', J') rd sg L x q) : GR (fun a => K0 a = 0) (K, n, I, F, J) (K', n', I', F', J') := s.1.mono (fun a _ z => by rw [z]; exact h.2.1)
/-- what add does to a list of the statements -/
def SL (K : Nat → Nat) (F : Nat → Nat → Option Nat) (l a : Nat) : Prop := a = l ∨ (F l 1 = some a ∧ K a = 23)
theorem cA.other {α : Type} {C C' : Nat → α → Prop} {ts : List α} {l l' : Nat} (h : cA E K n I F C l' ts) (g : GR (SL K F l) (K, n, I, F, J) (K', n', I', F', J')) (hl : K l = 10) (hne : l' ≠ l) (hG : HG E K F) (hc0 : K (E.2.1 10) = 0) (hC : ∀ a t, C a t → C' a t) : cA E K' n' I' F' C' l' ts := by
  obtain ⟨xs, cap, h1, h2, h3, h4⟩ := h
  refine ⟨xs, cap, h1.fr g (fun z => ?_) (fun e he hk z => ?_), h2, h3, fun i t ht => hC _ _ (h4 i t ht)⟩
  · rcases z with z | z
    · exact hne z
    · have := h1.1; omega
  · rcases z with z | z
    · rw [z] at hk; omega
    · rcases hG.2.1 l' l e h1.1 hl he z.1 with y | y
      · exact hne y
      · rw [y, hc0] at hk; cases hk
theorem cA.grow {α : Type} {C C' : Nat → α → Prop} {ts : List α} {t : α} {l v cap' : Nat} {xs : List Nat} (hlen : xs.length = ts.length) (h4 : ∀ i t, ts[i]? = some t → C (xs.getD i 0) t) (hL : cL E K' n' I' F' l (xs ++ [v]) cap') (hcap : cap' ≤ 100) (hv : C' v t) (hC : ∀ a t, C a t → C' a t) : cA E K' n' I' F' C' l (ts ++ [t]) := by
  refine ⟨xs ++ [v], cap', hL, hcap, by simp [hlen], fun i u hu => ?_⟩
  by_cases q : i < ts.length
  · rw [List.getElem?_append_left q] at hu
    rw [zgetD_append (by omega)]
    exact hC _ _ (h4 i u hu)
  · have hi : i = ts.length := by
      have := (List.getElem?_eq_some_iff.mp hu).1
      simp at this
      omega
    rw [hi, List.getElem?_append_right (Nat.le_refl _), Nat.sub_self] at hu
    have : t = u := Option.some.inj hu
    rw [hi, ← hlen, zgetD_last, ← this]
    exact hv
/-- all but the statements themselves -/
theorem rI.ctx {l j : Nat} (h : rI E K0 K n I F rd sg L x fo m st p) (hj : j < 4) (hl : F fo j = some l) (g : GR (SL K F l) (K, n, I, F, J) (K', n', I', F', J')) (hG' : HG E K' F') (hfr : ∀ e, F' l 1 = some e → K' e = 23 → K0 e = 0) :
    rB K' n' I' F' rd sg L x p ∧ (∀ a, K0 a ≠ 0 → K' a ≠ 0) ∧ I' rd 3 = nI m ∧ F' rd 2 = some fo ∧ fF K0 K' F' fo ∧ GR (fun a => K0 a = 0) (K, n, I, F, J) (K', n', I', F', J') ∧ K' fo = 6 ∧ I' fo = I fo ∧ F' fo = F fo := by
  obtain ⟨h1, h2, h3, h4, h5, h6, h7, h8, h9, h10⟩ := h
  have hk3 := h1.1
  have hsg := h1.2.2.1
  have hfo := h10.1
  obtain ⟨l1, l2, l3⟩ := h8.2 j l hj hl
  have nS : ∀ a, K a ≠ 10 → K a ≠ 23 → ¬ SL K F l a := fun a q1 q2 z => by
    rcases z with z | z
    · rw [z] at q1; exact q1 l1
    · exact q2 z.2
  have fd := (g rd (by show K rd ≠ 0; omega)).2.2 (nS rd (by omega) (by omega))
  have fg := (g fo (by show K fo ≠ 0; omega))
  have fg2 := fg.2.2 (nS fo (by omega) (by omega))
  dsimp only at fd fg fg2
  refine ⟨h1.fr g (nS rd (by omega) (by omega)) (nS sg (by omega) (by omega)), fun a ha => ?_, by rw [fd.1]; exact h4, by rw [fd.2.1]; exact h6, ⟨fun i j l' hi hj' => ?_, fun i l' hi hl' => ?_⟩, g.mono (fun a _ z => ?_), by rw [fg.1]; exact hfo, fg2.1, fg2.2.1⟩
  · rw [g.k (h3 a ha)]; exact h3 a ha
  · rw [fg2.2.1]; exact h8.1 i j l' hi hj'
  · rw [fg2.2.1] at hl'
    obtain ⟨k1, k2, k3⟩ := h8.2 i l' hi hl'
    have gl := g l' (by show K l' ≠ 0; omega)
    refine ⟨by rw [g.k (by omega)]; exact k1, k2, fun e he hk => ?_⟩
    by_cases hll : l' = l
    · rw [hll] at he; exact hfr e he hk
    · have fl := (gl.2.2 (fun z => by
        rcases z with z | z
        · exact hll z
        · omega)).2.1
      dsimp only at fl
      rw [fl] at he
      by_cases hz : K e = 0
      · exact Nat.eq_zero_of_not_pos (fun z => h3 e (by omega) hz)
      · have := (g e hz).1
        dsimp only at this
        exact k3 e he (by rw [← this]; exact hk)
  · rcases z with z | z
    · rw [z]; exact l2
    · exact l3 a z.1 z.2
theorem SL_K {l a : Nat} (hl : K l = 10) (hS : SL K F l a) : K a ≠ 1 ∧ K a ≠ 2 ∧ K a ≠ 7 ∧ K a ≠ 20 := by
  rcases hS with z | z
  · rw [z]; omega
  · omega
end
section
variable {E : zE} {K0 K n : Nat → Nat} {I : Nat → Nat → Int32} {F : Nat → Nat → Option Nat} {J : Nat → Nat → Int64} {cb sb : Nat} {Q : zO → zH → Prop} {rd sg L p fo m : Nat} {x : zTx} {st : zStm}
theorem zgrow_le {c : Nat} (h : c ≤ 30) : zgrow c ≤ 45 := by unfold zgrow; split <;> omega
end
