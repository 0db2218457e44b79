-- ===== the reference: texts, keys, sums =====
section
variable {E : zE} {B : (Nat → Nat → Int32) × (Nat → Nat → Int64)} {K n : Nat → Nat} {I : Nat → Nat → Int32} {F : Nat → Nat → Option Nat} {J : Nat → Nat → Int64} {m : Nat} {A : Nat → Nat} {V : Nat → Nat → Int32} {T : Nat → Int64} {cb sb : Nat} {Q : zO → zH → Prop} {x : zTx} {L p : Nat}
theorem mTx_iff (u : Nat) : isTx u = true ↔ (32 ≤ u ∧ u ≤ 126 ∧ u ≠ 39) := by unfold isTx; simp
/-- letters(from), behind the quote: k letters are there -/
theorem mo_letL {fr p0 : Nat} (hfr : fr + 20 ≤ 880) : ∀ (d k : Nat) (I : Nat → Nat → Int32) (V : Nat → Nat → Int32), k + d = 20 → p0 + k ≤ L → MS B K n I F J m A V T → mT V x L → V 0 3 = nI (p0 + k) → (∀ i, i < k → V 11 (fr + i) = nI (x (p0 + i))) →
    (∀ q I' V', (if scF x L d (p0 + k) = p0 ∨ ¬ (scF x L d (p0 + k) < L ∧ x (scF x L d (p0 + k)) = 39) then (none, scF x L d (p0 + k)) else (some ((List.range (scF x L d (p0 + k) - p0)).map fun i => x (p0 + i)), scF x L d (p0 + k) + 1) : Option (List Nat) × Nat) = (none, q) → MS B K n I' F J m A V' T → V' 0 3 = nI q → (∀ f j, ¬ (f = 0 ∧ j = 3) → f ≠ 11 → V' f j = V f j) → Q (.inl (some (.int (-1)))) (K, n, I', F, J)) →
    (∀ t q I' V', (if scF x L d (p0 + k) = p0 ∨ ¬ (scF x L d (p0 + k) < L ∧ x (scF x L d (p0 + k)) = 39) then (none, scF x L d (p0 + k)) else (some ((List.range (scF x L d (p0 + k) - p0)).map fun i => x (p0 + i)), scF x L d (p0 + k) + 1) : Option (List Nat) × Nat) = (some t, q) → MS B K n I' F J m A V' T → V' 0 3 = nI q → (∀ f j, ¬ (f = 0 ∧ j = 3) → ¬ (f = 11 ∧ fr ≤ j) → V' f j = V f j) → 1 ≤ t.length → t.length ≤ 20 → (∀ i, i < t.length → V' 11 (fr + i) = nI (t.getD i 0)) → (∀ f j, ¬ (f = 0 ∧ j = 3) → ¬ (f = 11 ∧ fr ≤ j ∧ j < fr + 20) → V' f j = V f j) → Q (.inl (some (.int (nI t.length)))) (K, n, I', F, J)) →
    AW E m_Mo_letters (K, n, I, F, J) cb sb Q 12 [some (.ref m), some (.int (nI fr)), some (.int (nI k))] []
  | d, k, I, V, hd, hkL, h, ht, hp, hl, w0, w1 => by
    have h5 := ht.2.1
    have hb := fun u => @sat_b V x L (p0 + k) u ht
    have stop : ¬ (p0 + k < L ∧ isTx (x (p0 + k)) = true) → scF x L d (p0 + k) = p0 + k := fun hn => by
      cases d with
      | zero => rfl
      | succ d => unfold scF; rw [if_neg hn]
    have eI : I m 3 = nI (p0 + k) := by rw [h.o]; exact hp
    refine r_Mo_letters_12 ⟨h.K9, ?_⟩
    rw [eI]
    refine mo_at h ht (by omega) (r_Mo_letters_20 ⟨fun z => ?_, fun z => ⟨h.K9, ?_⟩⟩)
    · -- a quote
      have e := (mO_eq (c := 39) hb (by omega)).mp z
      have hlt : p0 + k < L ∧ x (p0 + k) = 39 := by
        unfold sat at e
        split at e
        · exact ⟨by assumption, Option.some.inj e⟩
        · cases e
      have es := stop (fun y => by have := (mTx_iff _).mp y.2; omega)
      rw [es] at w0 w1
      refine ⟨fun z2 => ⟨h.K9, ?_⟩, fun z2 => ?_⟩
      · have hk0 : k ≠ 0 := fun y => z2 (by rw [y]; rfl)
        rw [if_neg (fun y => by rcases y with y | y; · omega
                                · exact y hlt)] at w1
        rw [eI, nI_1]
        have hlen : ((List.range (p0 + k - p0)).map fun i => x (p0 + i)).length = k := by simp
        have w1' := w1 _ _ (zup I m 3 (nI (p0 + k + 1))) _ rfl (h.up0 3 _) (zup_s _ _ _ _) (fun f j a _ => by rw [zup_at, if_neg a]) (by rw [hlen]; omega) (by rw [hlen]; omega) (fun i hi => by
          rw [hlen] at hi
          rw [zup_n _ _ _ (by decide), hl i hi]
          congr 1
          rw [List.getD_eq_getElem?_getD, List.getElem?_map, List.getElem?_range (by omega)]; rfl) (fun f j a _ => by rw [zup_at, if_neg a])
        rw [hlen] at w1'
        exact w1'
      · have hk0 : k = 0 := (nI_eq (a := k) (b := 0) (by omega) (by omega)).mp z2
        rw [if_pos (Or.inl (by omega))] at w0
        exact w0 _ I V rfl h hp (fun _ _ _ _ => rfl)
    · have hx39 : ¬ (p0 + k < L ∧ x (p0 + k) = 39) := fun y => z ((mO_eq (c := 39) hb (by omega)).mpr (by unfold sat; rw [if_pos y.1, y.2]))
      have bad : ¬ (p0 + k < L ∧ isTx (x (p0 + k)) = true) → Q (.inl (some (.int (-1)))) (K, n, I, F, J) := fun hn => by
        have es := stop hn
        rw [es, if_pos (Or.inr hx39)] at w0
        exact w0 _ I V rfl h hp (fun _ _ _ _ => rfl)
      rw [eI]
      refine mo_at h ht (by omega) (r_Mo_letters_33 ⟨fun z2 => bad (fun y => ?_), fun z2 => ⟨h.K9, ?_⟩⟩)
      · have es : sat x L (p0 + k) = some (x (p0 + k)) := if_pos y.1
        have := (mTx_iff _).mp y.2
        rcases (mO_lt (c := 32) hb (by omega)).mp z2 with q | ⟨u, q, hu⟩
        · rw [es] at q; cases q
        · rw [es] at q; have := Option.some.inj q; omega
      · have hpl : p0 + k < L := by
          by_cases y : p0 + k < L
          · exact y
          · exact absurd ((mO_lt (c := 32) hb (by omega)).mpr (Or.inl (if_neg y))) z2
        have es : sat x L (p0 + k) = some (x (p0 + k)) := if_pos hpl
        have h32 : 32 ≤ x (p0 + k) := Nat.le_of_not_lt (fun y => z2 ((mO_lt (c := 32) hb (by omega)).mpr (Or.inr ⟨_, es, y⟩)))
        rw [eI]
        refine mo_at h ht (by omega) (r_Mo_letters_46 ⟨fun z3 => bad (fun y => ?_), fun z3 => ⟨fun z4 => ⟨h.K9, _, h.f (f := 11) (by decide), ?_⟩, fun z4 => ?_⟩⟩)
        · have := (mTx_iff _).mp y.2
          obtain ⟨u, q, hu⟩ := (mO_gt (c := 126) hb (by omega)).mp z3
          rw [es] at q; have := Option.some.inj q; omega
        · have h126 : x (p0 + k) ≤ 126 := Nat.le_of_not_lt (fun y => z3 ((mO_gt (c := 126) hb (by omega)).mpr ⟨_, es, y⟩))
          have htx : p0 + k < L ∧ isTx (x (p0 + k)) = true := ⟨hpl, (mTx_iff _).mpr ⟨h32, h126, fun y => hx39 ⟨hpl, y⟩⟩⟩
          have hk20 : k ≠ 20 := fun y => z4 (by rw [y]; rfl)
          rw [eI]
          refine mo_at h ht (by omega) (r_Mo_letters_74 ⟨h.k (by decide), fr + k, by rw [nI_add], by rw [h.sz (by decide)]; show fr + k < 880; omega, by omega, h.K9, ?_⟩)
          have hne := h.ne (f := 11) (by decide)
          rw [zup_n _ _ _ (fun y => hne y.symm), eI, es, mO_some, nI_1, nI_1]
          obtain ⟨d, rfl⟩ : ∃ d', d = d' + 1 := ⟨d - 1, by omega⟩
          have esc : scF x L (d + 1) (p0 + k) = scF x L d (p0 + (k + 1)) := by
            conv => lhs; unfold scF
            rw [if_pos htx]; rfl
          rw [esc] at w0 w1
          have hM := (h.up (f := 11) (by decide) (fr + k) (nI (x (p0 + k)))).up0 3 (nI (p0 + k + 1))
          refine mo_letL hfr d (k + 1) _ _ (by omega) (by omega) hM ((ht.up (by decide) (by omega)).up (by decide) (by omega)) (zup_s _ _ _ _) (fun i hi => ?_) (fun q I' V' e hM' hq' hf' => w0 q I' V' e hM' hq' (fun f j a b => ?_)) (fun t q I' V' e hM' hq' hf' l1 l2 hl' hf2 => w1 t q I' V' e hM' hq' (fun f j a b => ?_) l1 l2 hl' (fun f j a b => ?_))
          · rw [zup_n _ _ _ (by decide), zup_at]
            by_cases y : i = k
            · rw [y, if_pos ⟨rfl, rfl⟩]
            · rw [if_neg (fun z => y (by omega))]; exact hl i (by omega)
          · rw [hf' f j a b, zup_at, if_neg a, zup_at, if_neg (fun z => b z.1)]
          · rw [hf' f j a b, zup_at, if_neg a, zup_at, if_neg (fun z => b ⟨z.1, by omega⟩)]
          · rw [hf2 f j a b, zup_at, if_neg a, zup_at, if_neg (fun z => b ⟨z.1, by omega, by omega⟩)]
        · have hk20 : k = 20 := (nI_eq (a := k) (b := 20) (by omega) (by omega)).mp z4
          have hd0 : d = 0 := by omega
          subst hd0
          have es0 : scF x L 0 (p0 + k) = p0 + k := rfl
          rw [es0, if_pos (Or.inr hx39)] at w0
          exact w0 _ I V rfl h hp (fun _ _ _ _ => rfl)
theorem mo_letters {fr : Nat} (hfr : fr + 20 ≤ 880) (h : MS B K n I F J m A V T) (ht : mT V x L) (hp : V 0 3 = nI p) (hpL : p < L)
    (w0 : ∀ q I' V', txtP x L (p + 1) = (none, q) → MS B K n I' F J m A V' T → V' 0 3 = nI q → pE V V' → Q (.inl (some (.int (-1)))) (K, n, I', F, J))
    (w1 : ∀ t q I' V', txtP x L (p + 1) = (some t, q) → MS B K n I' F J m A V' T → V' 0 3 = nI q → 1 ≤ t.length → t.length ≤ 20 → (∀ i, i < t.length → V' 11 (fr + i) = nI (t.getD i 0)) → (∀ f j, ¬ (f = 0 ∧ j = 3) → ¬ (f = 11 ∧ fr ≤ j ∧ j < fr + 20) → V' f j = V f j) → Q (.inl (some (.int (nI t.length)))) (K, n, I', F, J)) :
    AW E m_Mo_letters (K, n, I, F, J) cb sb Q 0 [some (.ref m), some (.int (nI fr)), none] [] := by
  refine r_Mo_letters_0 ⟨h.K9, ?_⟩
  rw [h.o, hp, nI_1]
  unfold txtP at w0 w1
  dsimp only at w0 w1
  refine mo_letL (p0 := p + 1) hfr 20 0 _ _ (by omega) (by omega) (h.up0 3 (nI (p + 1))) (ht.up (by decide) (by omega)) (zup_s _ _ _ _) (fun i hi => by omega) (fun q I' V' e hM hq hf => w0 q I' V' e hM hq (fun f j a b => ?_)) (fun t q I' V' e hM hq _ l1 l2 hl hf => w1 t q I' V' e hM hq l1 l2 hl (fun f j a b => ?_))
  · rw [hf f j a (by omega), zup_at, if_neg a]
  · rw [hf f j a b, zup_at, if_neg a]
end
