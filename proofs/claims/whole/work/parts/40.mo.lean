-- ===== the reference: its state =====
/-- how long the arrays are, by field -/
def asz (f : Nat) : Nat := [0, 500, 0, 0, 14, 10, 4, 48, 120, 16, 48, 880, 15000, 150, 150, 0, 0, 0, 0, 15000, 150, 150, 150, 150, 45000, 450, 3, 150, 150, 150, 0, 7, 5, 2, 48, 120, 16, 48, 880, 0, 200, 2].getD f 0
def MG (K n : Nat → Nat) (F : Nat → Nat → Option Nat) (m : Nat) (A : Nat → Nat) : Prop :=
  K m = 9 ∧ (∀ f, 0 < asz f → F m f = some (A f) ∧ K (A f) = 21 ∧ n (A f) = asz f) ∧ (∀ f g, 0 < asz f → 0 < asz g → A f = A g → f = g) ∧ F m 39 = some (A 39) ∧ K (A 39) = 22 ∧ n (A 39) = 4
/-- V 0: the object's numbers; V f: the array of the field f; T: the sums -/
def MS (B : (Nat → Nat → Int32) × (Nat → Nat → Int64)) (K n : Nat → Nat) (I : Nat → Nat → Int32) (F : Nat → Nat → Option Nat) (J : Nat → Nat → Int64) (m : Nat) (A : Nat → Nat) (V : Nat → Nat → Int32) (T : Nat → Int64) : Prop :=
  MG K n F m A ∧ I m = V 0 ∧ (∀ f, 0 < asz f → I (A f) = V f) ∧ J (A 39) = T ∧ (∀ a, a ≠ m → (∀ f, 0 < asz f → a ≠ A f) → I a = B.1 a) ∧ ∀ a, a ≠ A 39 → J a = B.2 a
section
variable {B : (Nat → Nat → Int32) × (Nat → Nat → Int64)} {K n : Nat → Nat} {I : Nat → Nat → Int32} {F : Nat → Nat → Option Nat} {J : Nat → Nat → Int64} {m : Nat} {A : Nat → Nat} {V : Nat → Nat → Int32} {T : Nat → Int64}
theorem MS.K9 (h : MS B K n I F J m A V T) : K m = 9 := h.1.1
theorem MS.o (h : MS B K n I F J m A V T) : I m = V 0 := h.2.1
theorem MS.a (h : MS B K n I F J m A V T) {f : Nat} (hf : 0 < asz f) : I (A f) = V f := h.2.2.1 f hf
theorem MS.f (h : MS B K n I F J m A V T) {f : Nat} (hf : 0 < asz f) : F m f = some (A f) := (h.1.2.1 f hf).1
theorem MS.k (h : MS B K n I F J m A V T) {f : Nat} (hf : 0 < asz f) : K (A f) = 21 := (h.1.2.1 f hf).2.1
theorem MS.sz (h : MS B K n I F J m A V T) {f : Nat} (hf : 0 < asz f) : n (A f) = asz f := (h.1.2.1 f hf).2.2
theorem MS.ne (h : MS B K n I F J m A V T) {f : Nat} (hf : 0 < asz f) : A f ≠ m := fun z => by
  have h1 := h.k hf
  have h2 := h.K9
  rw [z] at h1; omega
theorem asz0 {f : Nat} (h : 0 < asz f) : f ≠ 0 := fun z => by subst z; exact absurd h (by decide)
theorem MS.up (h : MS B K n I F J m A V T) {f : Nat} (hf : 0 < asz f) (j : Nat) (v : Int32) : MS B K n (zup I (A f) j v) F J m A (zup V f j v) T := by
  obtain ⟨h1, h2, h3, h4, h5, h6⟩ := h
  have hne : m ≠ A f := fun z => by
    have a1 := (h1.2.1 f hf).2.1
    have a2 := h1.1
    rw [z] at a2; omega
  refine ⟨h1, ?_, fun g hg => ?_, h4, fun a h7 h8 => ?_, h6⟩
  · rw [zup_n _ _ _ hne, zup_n _ _ _ (asz0 hf).symm]; exact h2
  · by_cases e : g = f
    · subst e; rw [zup_row, zup_row, h3 g hg]
    · rw [zup_n _ _ _ (fun z => e (h1.2.2.1 g f hg hf z)), zup_n _ _ _ e]; exact h3 g hg
  · rw [zup_n _ _ _ (h8 f hf)]; exact h5 a h7 h8
theorem MS.up0 (h : MS B K n I F J m A V T) (j : Nat) (v : Int32) : MS B K n (zup I m j v) F J m A (zup V 0 j v) T := by
  have hn := @MS.ne B K n I F J m A V T h
  obtain ⟨h1, h2, h3, h4, h5, h6⟩ := h
  refine ⟨h1, ?_, fun g hg => ?_, h4, fun a h7 h8 => ?_, h6⟩
  · rw [zup_row, zup_row, h2]
  · rw [zup_n _ _ _ (hn hg), zup_n _ _ _ (asz0 hg)]; exact h3 g hg
  · rw [zup_n _ _ _ h7]; exact h5 a h7 h8
theorem MS.upJ (h : MS B K n I F J m A V T) (j : Nat) (v : Int64) : MS B K n I F (zup J (A 39) j v) m A V (va_up T j v) := by
  obtain ⟨h1, h2, h3, h4, h5, h6⟩ := h
  refine ⟨h1, h2, h3, by rw [zup_row, h4], h5, fun a ha => ?_⟩
  rw [zup_n _ _ _ ha]; exact h6 a ha
end
/-- the text -/
def mT (V : Nat → Nat → Int32) (x : zTx) (L : Nat) : Prop := V 0 2 = nI L ∧ L ≤ 500 ∧ ∀ i, i < L → V 1 i = nI (x i) ∧ x i < 2 ^ 31
theorem mT.up {V : Nat → Nat → Int32} {x : zTx} {L : Nat} (h : mT V x L) {f j : Nat} {v : Int32} (hf : f ≠ 1) (h2 : ¬ (f = 0 ∧ j = 2)) : mT (zup V f j v) x L := by
  refine ⟨?_, h.2.1, fun i hi => ?_⟩
  · rw [zup_at, if_neg (fun z => h2 ⟨z.1.symm, z.2.symm⟩)]; exact h.1
  · rw [zup_n _ _ _ hf.symm]; exact h.2.2 i hi
def mO (o : Option Nat) : Int32 := match o with | some u => nI u | none => -1
theorem sat_b {V : Nat → Nat → Int32} {x : zTx} {L p u : Nat} (h : mT V x L) (e : sat x L p = some u) : u < 2 ^ 31 := by
  unfold sat at e
  split at e
  · rw [← Option.some.inj e]; exact (h.2.2 p (by assumption)).2
  · cases e
theorem mO_eq {o : Option Nat} {c : Nat} (ho : ∀ u, o = some u → u < 2 ^ 31) (hc : c < 2 ^ 31) : mO o = nI c ↔ o = some c := by
  cases o with
  | none => exact ⟨fun z => absurd (show (-1 : Int32) < 0 by decide) (by rw [show (-1 : Int32) = nI c from z]; exact nI_pos hc), fun z => by cases z⟩
  | some u => 
    show nI u = nI c ↔ _
    rw [nI_eq (ho u rfl) hc]; simp
theorem mO_lt {o : Option Nat} {c : Nat} (ho : ∀ u, o = some u → u < 2 ^ 31) (hc : c < 2 ^ 31) : mO o < nI c ↔ (o = none ∨ ∃ u, o = some u ∧ u < c) := by
  cases o with
  | none => 
    refine ⟨fun _ => Or.inl rfl, fun _ => ?_⟩
    show (-1 : Int32) < nI c
    rw [Int32.lt_iff_toInt_lt, nI_toInt hc]
    have : (-1 : Int32).toInt = -1 := by decide
    omega
  | some u => 
    show nI u < nI c ↔ _
    rw [nI_ltI (ho u rfl) hc]
    simp
theorem mO_gt {o : Option Nat} {c : Nat} (ho : ∀ u, o = some u → u < 2 ^ 31) (hc : c < 2 ^ 31) : nI c < mO o ↔ ∃ u, o = some u ∧ c < u := by
  cases o with
  | none => 
    refine ⟨fun z => ?_, fun ⟨u, h, _⟩ => by cases h⟩
    replace z : nI c < (-1 : Int32) := z
    rw [Int32.lt_iff_toInt_lt, nI_toInt hc] at z
    have : (-1 : Int32).toInt = -1 := by decide
    omega
  | some u => 
    show nI c < nI u ↔ _
    rw [nI_ltI hc (ho u rfl)]
    simp
section
variable {E : zE} {B : (Nat → Nat → Int32) × (Nat → Nat → Int64)} {K n : Nat → Nat} {I : Nat → Nat → Int32} {F : Nat → Nat → Option Nat} {J : Nat → Nat → Int64} {m : Nat} {A : Nat → Nat} {V : Nat → Nat → Int32} {T : Nat → Int64} {cb sb : Nat} {Q : zO → zH → Prop} {x : zTx} {L p : Nat}
theorem mo_at (h : MS B K n I F J m A V T) (ht : mT V x L) (hp : p < 2 ^ 31) (w : Q (.inl (some (.int (mO (sat x L p))))) (K, n, I, F, J)) : AW E m_Mo_at (K, n, I, F, J) cb sb Q 0 [some (.ref m), some (.int (nI p))] [] := by
  have h5 := ht.2.1
  refine r_Mo_at_0 ⟨h.K9, ?_⟩
  rw [h.o, ht.1]
  unfold sat at w
  refine pk_le L p (fun q => ?_) (fun q => ⟨_, h.f (f := 1) (by decide), h.k (by decide), p, rfl, by rw [h.sz (by decide)]; show p < 500; omega, by omega, ?_⟩) rfl rfl (by omega) hp
  · rw [if_neg (by omega)] at w; exact w
  · rw [if_pos q] at w
    rw [h.a (by decide), (ht.2.2 p q).1]; exact w
theorem mo_sign : ∀ (d p : Nat) (I : Nat → Nat → Int32) (V : Nat → Nat → Int32), L - p ≤ d → p ≤ L → MS B K n I F J m A V T → mT V x L → V 0 3 = nI p →
    (∀ I', MS B K n I' F J m A (zup V 0 3 (nI (sk x L p))) T → Q (.inl (some (.int (mO (sat x L (sk x L p)))))) (K, n, I', F, J)) → AW E m_Mo_sign (K, n, I, F, J) cb sb Q 0 [some (.ref m)] [] := by
  intro d
  induction d with
  | zero =>
    intro p I V hd hpL h ht hp w
    have h5 := ht.2.1
    have hb := fun u => @sat_b V x L p u ht
    have hs : sat x L p = none := if_neg (by omega)
    have hk : sk x L p = p := sk_stop (fun z => by omega)
    rw [hk, zup_id V 0 3 hp] at w
    have w1 := w I h
    refine r_Mo_sign_0 ⟨h.K9, ?_⟩
    rw [h.o, hp]
    refine mo_at h ht (by omega) (r_Mo_sign_8 ⟨fun z => ?_, fun z => ⟨h.K9, ?_⟩⟩)
    · have := (mO_eq (c := 32) hb (by omega)).mp z; rw [hs] at this; cases this
    · rw [h.o, hp]
      refine mo_at h ht (by omega) (r_Mo_sign_21 ⟨fun z => ⟨h.K9, ?_⟩, fun z => ?_⟩)
      · rw [h.o, hp]
        exact mo_at h ht (by omega) (r_Mo_sign_47 w1)
      · have := (mO_eq (c := 10) hb (by omega)).mp z; rw [hs] at this; cases this
  | succ d ih =>
    intro p I V hd hpL h ht hp w
    have h5 := ht.2.1
    have hb := fun u => @sat_b V x L p u ht
    have blank : p < L → (x p = 32 ∨ x p = 10) → AW E m_Mo_sign (K, n, (zup I m 3 ((I m 3) + (1 : Int32))), F, J) cb sb Q 0 [some (.ref m)] [] := fun hl hx => by
      rw [h.o, hp, nI_1]
      rw [sk_step hl hx] at w
      refine ih (p + 1) _ _ (by omega) (by omega) (h.up0 3 (nI (p + 1))) (ht.up (by decide) (by omega)) (zup_s _ _ _ _) (fun I' h' => w I' ?_)
      rw [zup2] at h'
      exact h'
    refine r_Mo_sign_0 ⟨h.K9, ?_⟩
    rw [h.o, hp]
    refine mo_at h ht (by omega) (r_Mo_sign_8 ⟨fun z => ⟨h.K9, ?_⟩, fun z => ⟨h.K9, ?_⟩⟩)
    · have e := (mO_eq (c := 32) hb (by omega)).mp z
      unfold sat at e
      split at e
      · exact blank (by assumption) (Or.inl (Option.some.inj e))
      · cases e
    · rw [h.o, hp]
      refine mo_at h ht (by omega) (r_Mo_sign_21 ⟨fun z2 => ⟨h.K9, ?_⟩, fun z2 => ⟨h.K9, ?_⟩⟩)
      · rw [h.o, hp]
        have hk : sk x L p = p := sk_stop (fun y => by
          have e : sat x L p = some (x p) := if_pos y.1
          rcases y.2 with y2 | y2
          · exact z ((mO_eq (c := 32) hb (by omega)).mpr (by rw [e, y2]))
          · exact z2 ((mO_eq (c := 10) hb (by omega)).mpr (by rw [e, y2])))
        rw [hk, zup_id V 0 3 hp] at w
        exact mo_at h ht (by omega) (r_Mo_sign_47 (w I h))
      · have e := (mO_eq (c := 10) hb (by omega)).mp z2
        unfold sat at e
        split at e
        · exact blank (by assumption) (Or.inr (Option.some.inj e))
        · cases e
theorem mo_isDigit (h : MS B K n I F J m A V T) (ht : mT V x L) (hp : p < 2 ^ 31) (w : Q (.inl (some (.int (zB (decide (p < L) && isDg (x p)))))) (K, n, I, F, J)) : AW E m_Mo_isDigit (K, n, I, F, J) cb sb Q 0 [some (.ref m), some (.int (nI p))] [] := by
  have hb := fun u => @sat_b V x L p u ht
  refine r_Mo_isDigit_0 ⟨h.K9, mo_at h ht hp (r_Mo_isDigit_5 ⟨fun z => ?_, fun z => ⟨h.K9, mo_at h ht hp (r_Mo_isDigit_15 ⟨fun z2 => ?_, fun z2 => ?_⟩)⟩⟩)⟩
  · have e : (decide (p < L) && isDg (x p)) = false := by
      rcases (mO_lt (c := 48) hb (by omega)).mp z with q | ⟨u, q, hu⟩
      · have : ¬ p < L := fun y => by unfold sat at q; rw [if_pos y] at q; cases q
        simp [this]
      · unfold sat at q
        split at q
        · have := Option.some.inj q
          unfold isDg; simp; omega
        · cases q
    rw [e] at w; exact w
  · have e : (decide (p < L) && isDg (x p)) = false := by
      obtain ⟨u, q, hu⟩ := (mO_gt (c := 57) hb (by omega)).mp z2
      unfold sat at q
      split at q
      · have := Option.some.inj q
        unfold isDg; simp; omega
      · cases q
    rw [e] at w; exact w
  · have e : (decide (p < L) && isDg (x p)) = true := by
      have z' := fun y => z ((mO_lt (c := 48) hb (by omega)).mpr y)
      have z2' := fun y => z2 ((mO_gt (c := 57) hb (by omega)).mpr y)
      by_cases q : p < L
      · have es : sat x L p = some (x p) := if_pos q
        have a1 : ¬ x p < 48 := fun y => z' (Or.inr ⟨_, es, y⟩)
        have a2 : ¬ 57 < x p := fun y => z2' ⟨_, es, y⟩
        unfold isDg; simp; omega
      · exact absurd (Or.inl (if_neg q)) z'
    rw [e] at w; exact w
theorem mo_isSmall (h : MS B K n I F J m A V T) (ht : mT V x L) (hp : p < 2 ^ 31) (w : Q (.inl (some (.int (zB (decide (p < L) && isLt (x p)))))) (K, n, I, F, J)) : AW E m_Mo_isSmall (K, n, I, F, J) cb sb Q 0 [some (.ref m), some (.int (nI p))] [] := by
  have hb := fun u => @sat_b V x L p u ht
  refine r_Mo_isSmall_0 ⟨h.K9, mo_at h ht hp (r_Mo_isSmall_5 ⟨fun z => ?_, fun z => ⟨h.K9, mo_at h ht hp (r_Mo_isSmall_15 ⟨fun z2 => ?_, fun z2 => ?_⟩)⟩⟩)⟩
  · have e : (decide (p < L) && isLt (x p)) = false := by
      rcases (mO_lt (c := 97) hb (by omega)).mp z with q | ⟨u, q, hu⟩
      · have : ¬ p < L := fun y => by unfold sat at q; rw [if_pos y] at q; cases q
        simp [this]
      · unfold sat at q
        split at q
        · have := Option.some.inj q
          unfold isLt; simp; omega
        · cases q
    rw [e] at w; exact w
  · have e : (decide (p < L) && isLt (x p)) = false := by
      obtain ⟨u, q, hu⟩ := (mO_gt (c := 122) hb (by omega)).mp z2
      unfold sat at q
      split at q
      · have := Option.some.inj q
        unfold isLt; simp; omega
      · cases q
    rw [e] at w; exact w
  · have e : (decide (p < L) && isLt (x p)) = true := by
      have z' := fun y => z ((mO_lt (c := 97) hb (by omega)).mpr y)
      have z2' := fun y => z2 ((mO_gt (c := 122) hb (by omega)).mpr y)
      by_cases q : p < L
      · have es : sat x L p = some (x p) := if_pos q
        have a1 : ¬ x p < 97 := fun y => z' (Or.inr ⟨_, es, y⟩)
        have a2 : ¬ 122 < x p := fun y => z2' ⟨_, es, y⟩
        unfold isLt; simp; omega
      · exact absurd (Or.inl (if_neg q)) z'
    rw [e] at w; exact w
end
