-- ===== the reference: reading, its small steps =====
/-- what may change while a text is read -/
def pE (V V' : Nat → Nat → Int32) : Prop := ∀ f j, ¬ (f = 0 ∧ j = 3) → ¬ (4 ≤ f ∧ f ≤ 11) → V' f j = V f j
theorem pE.refl (V : Nat → Nat → Int32) : pE V V := fun _ _ _ _ => rfl
theorem pE.tr {V V' V'' : Nat → Nat → Int32} (h : pE V V') (h' : pE V' V'') : pE V V'' := fun f j a b => (h' f j a b).trans (h f j a b)
theorem pE.up {V V' : Nat → Nat → Int32} (h : pE V V') {f j : Nat} {v : Int32} (hf : (f = 0 ∧ j = 3) ∨ (4 ≤ f ∧ f ≤ 11)) : pE V (zup V' f j v) := fun g i a b => by
  rw [zup_at, if_neg (fun z => by rcases hf with q | q <;> omega)]
  exact h g i a b
theorem pE.mT {V V' : Nat → Nat → Int32} {x : zTx} {L : Nat} (h : pE V V') (ht : mT V x L) : mT V' x L := by
  refine ⟨by rw [h 0 2 (by omega) (by omega)]; exact ht.1, ht.2.1, fun i hi => ?_⟩
  rw [h 1 i (by omega) (by omega)]; exact ht.2.2 i hi
section
variable {E : zE} {B : (Nat → Nat → Int32) × (Nat → Nat → Int64)} {K n : Nat → Nat} {I : Nat → Nat → Int32} {F : Nat → Nat → Option Nat} {J : Nat → Nat → Int64} {m : Nat} {A : Nat → Nat} {V : Nat → Nat → Int32} {T : Nat → Int64} {cb sb : Nat} {Q : zO → zH → Prop} {x : zTx} {L p : Nat}
theorem mo_sg (h : MS B K n I F J m A V T) (ht : mT V x L) (hp : V 0 3 = nI p) (hpL : p ≤ L) (w : ∀ I', MS B K n I' F J m A (zup V 0 3 (nI (sk x L p))) T → Q (.inl (some (.int (mO (sat x L (sk x L p)))))) (K, n, I', F, J)) : AW E m_Mo_sign (K, n, I, F, J) cb sb Q 0 [some (.ref m)] [] :=
  mo_sign (L - p) p I V (Nat.le_refl _) hpL h ht hp w
theorem mo_numL {lo hi : Nat} (hlo : lo < 20000) (hhi : hi < 20000) : ∀ (d acc p : Nat) (I : Nat → Nat → Int32) (V : Nat → Nat → Int32), d ≤ 4 → acc < 10 ^ (4 - d) → p ≤ L → MS B K n I F J m A V T → mT V x L → V 0 3 = nI p →
    (∀ I', MS B K n I' F J m A (zup V 0 3 (nI (ndF x L d acc p).2)) T → Q (.inl (some (.int (mO (if ((ndF x L d acc p).2 < L ∧ isDg (x (ndF x L d acc p).2) = true) ∨ (ndF x L d acc p).1 < lo ∨ hi < (ndF x L d acc p).1 then none else some (ndF x L d acc p).1))))) (K, n, I', F, J)) →
    AW E m_Mo_number (K, n, I, F, J) cb sb Q 23 [some (.ref m), some (.int (nI lo)), some (.int (nI hi)), some (.int (nI acc)), some (.int (nI (4 - d)))] []
  | d, acc, p, I, V, hd, hacc, hpL, h, ht, hp, w => by
    have h5 := ht.2.1
    have hp4 : 10 ^ (4 - d) ≤ 10 ^ 4 := Nat.pow_le_pow_right (by omega) (by omega)
    refine r_Mo_number_23 ⟨h.K9, ?_⟩
    rw [h.o, hp]
    refine mo_isDigit h ht (by omega) ?_
    by_cases hdg : p < L ∧ isDg (x p) = true
    · have e : (decide (p < L) && isDg (x p)) = true := by simp [hdg.1, hdg.2]
      rw [e]
      cases d with
      | zero =>
        refine r_Mo_number_31 ⟨fun z => absurd z (by decide), fun _ => ⟨fun z => absurd rfl z, fun _ => ?_⟩⟩
        unfold ndF at w
        rw [if_pos (Or.inl hdg), zup_id V 0 3 hp] at w
        exact w I h
      | succ d =>
        have e4 : ¬ nI (4 - (d + 1)) = (4 : Int32) := fun z => by
          have := (nI_eq (a := 4 - (d + 1)) (b := 4) (by omega) (by omega)).mp z
          omega
        refine r_Mo_number_31 ⟨fun z => absurd z (by decide), fun _ => ⟨fun _ => ⟨h.K9, ?_⟩, fun z => absurd z e4⟩⟩
        rw [h.o, hp]
        refine mo_at h ht (by omega) (r_Mo_number_54 ⟨h.K9, ?_⟩)
        have es : sat x L p = some (x p) := if_pos hdg.1
        have hxd : 48 ≤ x p ∧ x p ≤ 57 := by have := hdg.2; unfold isDg at this; exact of_decide_eq_true this
        rw [es, h.o, hp, nI_1]
        have e1 : (10 : Int32) * nI acc + mO (some (x p)) - 48 = nI (acc * 10 + (x p - 48)) := by
          show nI 10 * nI acc + nI (x p) - nI 48 = _
          rw [pk_mul, nI_add, pk_sub (by omega)]
          congr 1; omega
        have e2 : nI (4 - (d + 1)) + (1 : Int32) = nI (4 - d) := by rw [nI_1]; congr 1; omega
        rw [e1, e2]
        unfold ndF at w
        rw [if_pos hdg] at w
        refine mo_numL hlo hhi d _ (p + 1) _ _ (by omega) ?_ (by omega) (h.up0 3 (nI (p + 1))) (ht.up (by decide) (by omega)) (zup_s _ _ _ _) (fun I' h' => w I' ?_)
        · have : 4 - d = (4 - (d + 1)) + 1 := by omega
          rw [this, Nat.pow_succ]
          omega
        · rw [zup2] at h'; exact h'
    · have e : (decide (p < L) && isDg (x p)) = false := by
        by_cases q : p < L
        · have : isDg (x p) ≠ true := fun z => hdg ⟨q, z⟩
          simp [this]
        · simp [q]
      rw [e]
      have en : ndF x L d acc p = (acc, p) := by
        cases d with
        | zero => rfl
        | succ d => unfold ndF; rw [if_neg hdg]
      rw [en] at w
      dsimp only at w
      rw [zup_id V 0 3 hp] at w
      have w' := w I h
      have hacc' : acc < 10000 := by omega
      refine r_Mo_number_31 ⟨fun _ => pk_lt acc lo (fun q => ?_) (fun q => pk_le acc hi (fun q2 => ?_) (fun q2 => ?_) rfl rfl (by omega) (by omega)) rfl rfl (by omega) (by omega), fun z => absurd rfl z⟩
      · rw [if_pos (Or.inr (Or.inl q))] at w'; exact w'
      · rw [if_neg (fun z => by rcases z with z | z | z; · exact hdg z
                                · omega
                                · omega)] at w'; exact w'
      · rw [if_pos (Or.inr (Or.inr q2))] at w'; exact w'
theorem mo_num {lo hi : Nat} (hlo : lo < 20000) (hhi : hi < 20000) (h : MS B K n I F J m A V T) (ht : mT V x L) (hp : V 0 3 = nI p) (hpL : p ≤ L) (w : ∀ I', MS B K n I' F J m A (zup V 0 3 (nI (numP x L lo hi p).2)) T → Q (.inl (some (.int (mO (numP x L lo hi p).1)))) (K, n, I', F, J)) :
    AW E m_Mo_number (K, n, I, F, J) cb sb Q 0 [some (.ref m), some (.int (nI lo)), some (.int (nI hi)), none, none] [] := by
  have h5 := ht.2.1
  have hk := sk_le (x := x) hpL
  refine r_Mo_number_0 ⟨h.K9, mo_sg h ht hp hpL (fun I1 h1 => r_Mo_number_4 ⟨h1.K9, ?_⟩)⟩
  have ht1 : mT (zup V 0 3 (nI (sk x L p))) x L := ht.up (by decide) (by omega)
  rw [h1.o, zup_s]
  refine mo_isDigit h1 ht1 (by omega) ?_
  unfold numP at w
  dsimp only at w
  by_cases hdg : sk x L p < L ∧ isDg (x (sk x L p)) = true
  · have e : (decide (sk x L p < L) && isDg (x (sk x L p))) = true := by simp [hdg.1, hdg.2]
    rw [e]
    refine r_Mo_number_13 ⟨fun _ => ?_, fun z => absurd z (by decide)⟩
    refine mo_numL hlo hhi 4 0 (sk x L p) I1 _ (by omega) (by omega) hk.2 h1 ht1 (zup_s _ _ _ _) (fun I' h' => ?_)
    rw [zup2] at h'
    have hgt : sk x L p < (ndF x L 4 0 (sk x L p)).2 := by
      have e1 : ndF x L 4 0 (sk x L p) = ndF x L 3 (0 * 10 + (x (sk x L p) - 48)) (sk x L p + 1) := by
        conv => lhs; unfold ndF
        rw [if_pos hdg]
      rw [e1]
      have := ndF_le (x := x) (L := L) 3 (0 * 10 + (x (sk x L p) - 48)) (sk x L p + 1) (by omega)
      omega
    have hiff : ((ndF x L 4 0 (sk x L p)).2 = sk x L p ∨ ((ndF x L 4 0 (sk x L p)).2 < L ∧ isDg (x (ndF x L 4 0 (sk x L p)).2) = true) ∨ (ndF x L 4 0 (sk x L p)).1 < lo ∨ hi < (ndF x L 4 0 (sk x L p)).1) ↔ (((ndF x L 4 0 (sk x L p)).2 < L ∧ isDg (x (ndF x L 4 0 (sk x L p)).2) = true) ∨ (ndF x L 4 0 (sk x L p)).1 < lo ∨ hi < (ndF x L 4 0 (sk x L p)).1) := ⟨fun z => z.elim (fun z => by omega) id, Or.inr⟩
    by_cases c : ((ndF x L 4 0 (sk x L p)).2 < L ∧ isDg (x (ndF x L 4 0 (sk x L p)).2) = true) ∨ (ndF x L 4 0 (sk x L p)).1 < lo ∨ hi < (ndF x L 4 0 (sk x L p)).1
    · rw [if_pos (hiff.mpr c)] at w
      rw [if_pos c]
      exact w I' h'
    · rw [if_neg (fun z => c (hiff.mp z))] at w
      rw [if_neg c]
      exact w I' h'
  · have e : (decide (sk x L p < L) && isDg (x (sk x L p))) = false := by
      by_cases q : sk x L p < L
      · have : isDg (x (sk x L p)) ≠ true := fun z => hdg ⟨q, z⟩
        simp [this]
      · simp [q]
    rw [e]
    have en : ndF x L 4 0 (sk x L p) = (0, sk x L p) := by unfold ndF; rw [if_neg hdg]
    rw [en, if_pos (Or.inl rfl)] at w
    exact r_Mo_number_13 ⟨fun z => absurd rfl z, fun _ => w I1 h1⟩
theorem mo_meets {c : Nat} (hc : c < 2 ^ 31) (h : MS B K n I F J m A V T) (ht : mT V x L) (hp : V 0 3 = nI p) (hpL : p ≤ L) (w : ∀ I', MS B K n I' F J m A (zup V 0 3 (nI (tkP x L [c] p).2)) T → Q (.inl (some (.int (zB (tkP x L [c] p).1.isSome)))) (K, n, I', F, J)) :
    AW E m_Mo_meets (K, n, I, F, J) cb sb Q 0 [some (.ref m), some (.int (nI c))] [] := by
  refine r_Mo_meets_0 ⟨h.K9, mo_sg h ht hp hpL (fun I1 h1 => r_Mo_meets_4 ⟨fun z => ⟨h1.K9, ?_⟩, fun z => ?_⟩)⟩
  · have e := (mO_eq (fun u => @sat_b V x L (sk x L p) u ht) hc).mp z
    unfold tkP at w
    rw [e] at w
    simp only [List.mem_singleton, if_true] at w
    rw [h1.o, zup_s, nI_1]
    have h2 := h1.up0 3 (nI (sk x L p + 1))
    rw [zup2] at h2
    exact w _ h2
  · unfold tkP at w
    cases e : sat x L (sk x L p) with
    | none => rw [e] at w; exact w I1 h1
    | some u =>
      rw [e] at w
      have hu : u ≠ c := fun y => z ((mO_eq (fun u => @sat_b V x L (sk x L p) u ht) hc).mpr (by rw [e, y]))
      simp only [List.mem_singleton, if_neg hu] at w
      exact w I1 h1
theorem mO_some (v : Nat) : mO (some v) = nI v := rfl
theorem mO_none : mO none = (-1 : Int32) := rfl
theorem nI_m1 {v : Nat} (h : v < 2 ^ 31) : ¬ nI v = (-1 : Int32) := fun z => absurd (show (-1 : Int32) < 0 by decide) (by rw [← z]; exact nI_pos h)
/-- field(row, k, most) -/
theorem mo_field {f k most : Nat} (hf : 7 ≤ f ∧ f ≤ 10) (hk : k + 1 < asz f) (hmost : most ≤ 100) (h : MS B K n I F J m A V T) (ht : mT V x L) (hp : V 0 3 = nI p) (hpL : p ≤ L)
    (w0 : ∀ q I', fldP x L most p = (none, q) → MS B K n I' F J m A (zup V 0 3 (nI q)) T → Q (.inl (some (.int 0))) (K, n, I', F, J))
    (w1 : ∀ a b q I', fldP x L most p = (some (a, b), q) → MS B K n I' F J m A (zup (zup (zup V 0 3 (nI q)) f k (nI (a + 1))) f (k + 1) (nI b)) T → Q (.inl (some (.int 1))) (K, n, I', F, J)) :
    AW E m_Mo_field (K, n, I, F, J) cb sb Q 0 [some (.ref m), some (.ref (A f)), some (.int (nI k)), some (.int (nI most)), none, none] [] := by
  have hf0 : 0 < asz f := by omega
  have hsz : asz f < 100000 := by
    have : f = 7 ∨ f = 8 ∨ f = 9 ∨ f = 10 := by omega
    rcases this with e | e | e | e <;> (rw [e]; decide)
  unfold fldP at w0 w1
  have hn1 := numP_le (x := x) (L := L) (lo := 1) (hi := 100) hpL
  refine r_Mo_field_0 ⟨h.K9, mo_num (lo := 1) (hi := 100) (by omega) (by omega) h ht hp hpL (fun I1 h1 => ?_)⟩
  cases e1 : numP x L 1 100 p with
  | mk o1 q1 =>
  rw [e1] at hn1 h1 w0 w1
  dsimp only at hn1 h1
  cases o1 with
  | none => exact r_Mo_field_7 ⟨fun _ => w0 q1 I1 rfl h1, fun z => absurd rfl z⟩
  | some a =>
    have ha := hn1.2 a rfl
    refine r_Mo_field_7 ⟨fun z => absurd z (nI_m1 (by omega)), fun _ => ⟨h1.K9, ?_⟩⟩
    have ht1 : mT (zup V 0 3 (nI q1)) x L := ht.up (by decide) (by omega)
    have hn2 := tkP_le (x := x) (L := L) (cs := [44]) hn1.1
    refine mo_meets (c := 44) (by omega) h1 ht1 (zup_s _ _ _ _) hn1.1 (fun I2 h2 => ?_)
    rw [zup2] at h2
    simp only [zbind] at w0 w1
    cases e2 : tkP x L [44] q1 with
    | mk o2 q2 =>
    rw [e2] at hn2 h2 w0 w1
    dsimp only at hn2 h2
    cases o2 with
    | none => exact r_Mo_field_21 ⟨fun z => absurd rfl z, fun _ => w0 q2 I2 rfl h2⟩
    | some c =>
      dsimp only at w0 w1
      refine r_Mo_field_21 ⟨fun _ => ⟨h2.K9, ?_⟩, fun z => absurd z (show ¬ (1 : Int32) = 0 by decide)⟩
      have ht2 : mT (zup V 0 3 (nI q2)) x L := ht.up (by decide) (by omega)
      have hn3 := numP_le (x := x) (L := L) (lo := 1) (hi := most) hn2.1
      refine mo_num (lo := 1) (hi := most) (by omega) (by omega) h2 ht2 (zup_s _ _ _ _) hn2.1 (fun I3 h3 => ?_)
      rw [zup2] at h3
      -- the other bound
      have hb : numP x L 1 (min most (101 - a)) q2 = (match (numP x L 1 most q2).1 with | some b => if a + b - 1 ≤ 100 then some b else none | none => none, (numP x L 1 most q2).2) := by
        unfold numP
        dsimp only
        by_cases c1 : (ndF x L 4 0 (sk x L q2)).2 = sk x L q2 ∨ ((ndF x L 4 0 (sk x L q2)).2 < L ∧ isDg (x (ndF x L 4 0 (sk x L q2)).2) = true) ∨ (ndF x L 4 0 (sk x L q2)).1 < 1 ∨ most < (ndF x L 4 0 (sk x L q2)).1
        · rw [if_pos c1, if_pos]
          rcases c1 with c | c | c | c
          · exact Or.inl c
          · exact Or.inr (Or.inl c)
          · exact Or.inr (Or.inr (Or.inl c))
          · exact Or.inr (Or.inr (Or.inr (by omega)))
        · rw [if_neg c1]
          dsimp only
          by_cases c2 : a + (ndF x L 4 0 (sk x L q2)).1 - 1 ≤ 100
          · rw [if_pos c2, if_neg]
            rintro (c | c | c | c)
            · exact c1 (Or.inl c)
            · exact c1 (Or.inr (Or.inl c))
            · exact c1 (Or.inr (Or.inr (Or.inl c)))
            · exact c1 (Or.inr (Or.inr (Or.inr (by omega))))
          · rw [if_neg c2, if_pos]
            have : ¬ (ndF x L 4 0 (sk x L q2)).1 < 1 := fun z => c1 (Or.inr (Or.inr (Or.inl z)))
            exact Or.inr (Or.inr (Or.inr (by omega)))
      rw [hb] at w0 w1
      cases e3 : numP x L 1 most q2 with
      | mk o3 q3 =>
      rw [e3] at hn3 h3 w0 w1
      dsimp only at hn3 h3 w0 w1
      cases o3 with
      | none => exact r_Mo_field_32 ⟨fun _ => w0 q3 I3 rfl h3, fun z => absurd rfl z⟩
      | some b =>
        have hb3 := hn3.2 b rfl
        dsimp only at w0 w1
        have es : nI a + mO (some b) - (1 : Int32) = nI (a + b - 1) := by
          rw [mO_some, nI_add]; exact pk_sub (b := 1) (by omega)
        refine r_Mo_field_32 ⟨fun z => absurd z (nI_m1 (by omega)), fun _ => ?_⟩
        rw [mO_some, es]
        refine pk_le (a + b - 1) 100 (fun q => ⟨h3.k hf0, k, rfl, by rw [h3.sz hf0]; omega, by omega, k + 1, nI_1 k, by rw [h3.sz hf0]; omega, by omega, ?_⟩) (fun q => ?_) rfl rfl (by omega) (by omega)
        · rw [if_pos q] at w1
          have ea : a - 1 + 1 = a := by omega
          refine w1 (a - 1) b q3 _ rfl ?_
          rw [ea]
          exact (h3.up hf0 k (nI a)).up hf0 (k + 1) (nI b)
        · rw [if_neg (by omega)] at w0
          exact w0 q3 I3 rfl h3
end
