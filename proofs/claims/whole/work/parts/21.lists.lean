-- ===== contracts of the JDK's methods =====
def zgrow (cap : Nat) : Nat := if cap = 0 then 10 else cap + cap / 2
/-- the list l holds xs, and has place for cap -/
def cL (E : zE) (K n : Nat → Nat) (I : Nat → Nat → Int32) (F : Nat → Nat → Option Nat) (l : Nat) (xs : List Nat) (cap : Nat) : Prop :=
  K l = 10 ∧ I l 2 = nI xs.length ∧ xs.length ≤ cap ∧ cap ≤ 50000 ∧ (∀ x ∈ xs, zEl (K x)) ∧ ∃ e, F l 1 = some e ∧ ((K e = 23 ∧ n e = cap ∧ 10 ≤ cap) ∨ (e = E.2.1 10 ∧ cap = 0)) ∧ ∀ i, i < xs.length → F e i = some (xs.getD i 0)
theorem zEl.ne {k : Nat} (h : zEl k) : k ≠ 0 := by rcases h with h | h | h | h <;> omega
theorem cL.fr {E : zE} {K n K' n' : Nat → Nat} {I I' : Nat → Nat → Int32} {F F' : Nat → Nat → Option Nat} {J J' : Nat → Nat → Int64} {l : Nat} {xs : List Nat} {cap : Nat} {S : Nat → Prop} (h : cL E K n I F l xs cap) (g : GR S (K, n, I, F, J) (K', n', I', F', J')) (hl : ¬ S l) (he : ∀ e, F l 1 = some e → K e = 23 → ¬ S e) : cL E K' n' I' F' l xs cap := by
  obtain ⟨h1, h2, h3, h4, h5, e, h6, h7, h8⟩ := h
  have gl := g l (by show K l ≠ 0; omega)
  obtain ⟨g1, g2, g3⟩ := gl
  obtain ⟨g3, g4, -⟩ := g3 hl
  dsimp only at g1 g2 g3 g4
  refine ⟨by rw [g1]; exact h1, by rw [g3]; exact h2, h3, h4, fun x hx => ?_, e, by rw [g4]; exact h6, ?_, ?_⟩
  · have := (g x (zEl.ne (h5 x hx))).1
    dsimp only at this
    rw [this]
    exact h5 x hx
  · rcases h7 with h7 | h7
    · obtain ⟨a1, a2, -⟩ := g e (by show K e ≠ 0; omega)
      dsimp only at a1 a2
      exact Or.inl ⟨by rw [a1]; exact h7.1, by rw [a2]; exact h7.2.1, h7.2.2⟩
    · exact Or.inr h7
  · intro i hi
    rcases h7 with h7 | h7
    · obtain ⟨-, -, a3⟩ := g e (by show K e ≠ 0; omega)
      obtain ⟨-, a4, -⟩ := a3 (he e h6 h7.1)
      dsimp only at a4
      rw [a4]
      exact h8 i hi
    · omega
section
variable {E : zE} {K n : Nat → Nat} {I : Nat → Nat → Int32} {F : Nat → Nat → Option Nat} {J : Nat → Nat → Int64} {cb sb : Nat} {Q : zO → zH → Prop}
theorem c_max {a b : Nat} (ha : a < 2 ^ 31) (hb : b < 2 ^ 31) (w : Q (.inl (some (.int (nI (max a b))))) (K, n, I, F, J)) : AW E m_Math_max (K, n, I, F, J) cb sb Q 0 [some (.int (nI a)), some (.int (nI b))] [] :=
  r_Math_max_0 (pk_lt a b (fun h => by rw [Nat.max_eq_right (by omega)] at w; exact w) (fun h => by rw [Nat.max_eq_left (by omega)] at w; exact w) rfl rfl ha hb)
theorem c_min {a b : Nat} (ha : a < 2 ^ 31) (hb : b < 2 ^ 31) (w : Q (.inl (some (.int (nI (min a b))))) (K, n, I, F, J)) : AW E m_Math_min (K, n, I, F, J) cb sb Q 0 [some (.int (nI a)), some (.int (nI b))] [] :=
  r_Math_min_0 (pk_lt b a (fun h => by rw [Nat.min_eq_right (by omega)] at w; exact w) (fun h => by rw [Nat.min_eq_left (by omega)] at w; exact w) rfl rfl hb ha)
theorem c_size {l : Nat} {k : Nat} (hl : K l = 10) (hs : I l 2 = nI k) (w : Q (.inl (some (.int (nI k)))) (K, n, I, F, J)) : AW E m_ArrayList_size (K, n, I, F, J) cb sb Q 0 [some (.ref l)] [] :=
  r_ArrayList_size_0 ⟨hl, by rw [hs]; exact w⟩
theorem c_isEmpty {l : Nat} {k : Nat} (hl : K l = 10) (hs : I l 2 = nI k) (hk : k < 2 ^ 31) (w : Q (.inl (some (.int (if k = 0 then 1 else 0)))) (K, n, I, F, J)) : AW E m_ArrayList_isEmpty (K, n, I, F, J) cb sb Q 0 [some (.ref l)] [] := by
  refine r_ArrayList_isEmpty_0 ⟨hl, ?_⟩
  rw [hs]
  by_cases h : k = 0
  · subst h
    rw [if_pos rfl] at w
    exact ⟨fun z => absurd nI_0 z, fun _ => w⟩
  · rw [if_neg h] at w
    exact ⟨fun _ => w, fun z => absurd z (nI_ne0 (by omega) hk)⟩
theorem c_get {l i : Nat} {xs : List Nat} {cap : Nat} (hL : cL E K n I F l xs cap) (hi : i < xs.length) (w : Q (.inl (some (.ref (xs.getD i 0)))) (K, n, I, F, J)) : AW E m_ArrayList_get (K, n, I, F, J) cb sb Q 0 [some (.ref l), some (.int (nI i))] [] := by
  obtain ⟨h1, h2, h3, h4, h5, e, h6, h7, h8⟩ := hL
  have h7 : K e = 23 ∧ n e = cap ∧ 10 ≤ cap := by
    rcases h7 with h7 | h7
    · exact h7
    · omega
  refine r_ArrayList_get_0 ⟨h1, ?_⟩
  rw [h2]
  refine r_Objects_checkIndex_0 (r_Preconditions_checkIndex_0 (br_f (nI_pos (by omega)) (br_t (nI_lt hi (by omega)) ?_)))
  refine r_Objects_checkIndex_6 ?_
  refine r_ArrayList_get_8 ⟨h1, r_ArrayList_elementData_0 ⟨h1, e, h6, h7.1, i, rfl, by omega, by omega, ?_⟩⟩
  exact r_ArrayList_get_14 (sr0 := F e i) (by rw [h8 i hi]; exact w)
theorem va_up2 {α : Type} (f : Nat → α) (q : Nat) (x y : α) : va_up (va_up f q x) q y = va_up f q y := by
  funext j
  by_cases h : j = q <;> simp [va_up, h]
theorem zup_up {α : Type} (f : Nat → Nat → α) (q k : Nat) (g : Nat → α) (x : α) : zup (va_up f q g) q k x = va_up f q (va_up g k x) := by
  funext a j
  rw [zup_at]
  by_cases h : a = q
  · subst h
    by_cases h2 : j = k <;> simp [va_up, h2]
  · simp [va_up, h]
theorem zup2 {α : Type} (f : Nat → Nat → α) (q k : Nat) (x y : α) : zup (zup f q k x) q k y = zup f q k y := by
  funext a j
  rw [zup_at, zup_at, zup_at]
  by_cases h : a = q ∧ j = k <;> simp [h]
/-- ArrayList.grow(): the list is full -/
theorem c_grow {l e cap : Nat} (hl : K l = 10) (hs : I l 2 = nI cap) (hF : F l 1 = some e) (hc : cap ≤ 20000) (he : (K e = 23 ∧ n e = cap ∧ 10 ≤ cap ∧ ∀ i, i < cap → ∀ v, F e i = some v → zEl (K v)) ∨ (e = E.2.1 10 ∧ cap = 0)) (hcb : 1 ≤ cb) (hsb : zgrow cap ≤ sb)
    (w : ∀ (q : Nat) (g : Nat → Option Nat), K q = 0 → q ≠ E.2.1 10 → (∀ i, i < cap → g i = F e i) → Q (.inl (some (.ref q))) (va_up K q 23, va_up n q (zgrow cap), I, zup (va_up F q g) l 1 (some q), J)) : AW E m_ArrayList_grow (K, n, I, F, J) cb sb Q 0 [some (.ref l)] [] := by
  refine r_ArrayList_grow_0 ⟨hl, cb, sb, 0, 0, by omega, by omega, ?_⟩
  rw [hs]
  rcases he with ⟨k1, k2, k3, k4⟩ | ⟨rfl, rfl⟩
  · have hz : zgrow cap = cap + cap / 2 := if_neg (by omega)
    refine r_ArrayList_grow1_0 ⟨hl, e, hF, cap, Or.inl ⟨by omega, by omega, k2⟩, br_t (by have := nI_lt (a := 0) (b := cap) (by omega) (by omega); rwa [nI_0] at this) ⟨0, 0, cb, sb, by omega, by omega, ?_⟩⟩
    have e1 : nI cap + (1 : Int32) - nI cap = nI 1 := by
      rw [nI_1, pk_sub (by omega)]
      congr 1
      omega
    have e2 : nI cap >>> ((1 : Int32) &&& 31) = nI (cap / 2) := pk_shrN (by omega) ((1 : Int32) &&& 31) 1 (by decide)
    rw [e1, e2]
    refine r_ArraysSupport_newLength_0 (c_max (by omega) (by omega) ?_)
    have e3 : nI cap + nI (max 1 (cap / 2)) = nI (zgrow cap) := by
      rw [nI_add, hz, Nat.max_eq_right (by omega)]
    refine r_ArraysSupport_newLength_6 ?_
    rw [e3]
    refine br_f (fun z => ?_) (br_f (fun z => ?_) ?_)
    · exact nI_nle (by omega) (by omega) z
    · exact nI_nlt (a := 2147483639) (b := zgrow cap) (by omega) (by omega) z
    refine r_ArrayList_grow1_30 ⟨hl, e, hF, cb, sb, 0, 0, by omega, by omega, ?_⟩
    refine r_Arrays_copyOf_0 ⟨k1, cb, sb, 0, 0, by omega, by omega, ?_⟩
    refine r_Arrays_copyOf1_0 ⟨fun z => z rfl, fun _ => ⟨zgrow cap, rfl, by omega, 0, 0, by omega, by omega, fun q hq => ?_⟩⟩
    have hqe : e ≠ q := fun z => by rw [z, hq] at k1; cases k1
    have hql : l ≠ q := fun z => by rw [z, hq] at hl; cases hl
    refine aw_c0 (fun h0 => ?_)
    have hq10 : q ≠ E.2.1 10 := fun z => by rw [← z, va_up_s] at h0; cases h0
    refine r_Arrays_copyOf1_10 ⟨cap, Or.inl ⟨by rw [va_up_n _ _ hqe]; omega, by rw [va_up_n _ _ hqe]; omega, by rw [va_up_n _ _ hqe]; exact k2⟩, c_min (by omega) (by omega) ?_⟩
    rw [Nat.min_eq_left (by omega)]
    refine r_Arrays_copyOf1_35 ⟨by rw [va_up_n _ _ hqe]; exact k1, va_up_s _ _ _, 0, 0, cap, rfl, rfl, rfl, by rw [va_up_n _ _ hqe]; omega, by rw [va_up_s]; omega, by rw [va_up_n _ _ hqe]; omega, by rw [va_up_s]; omega, fun i hi v hv => ?_, ?_⟩
    · rw [va_up_n _ _ hqe, Nat.zero_add] at hv
      have := k4 i hi v hv
      rw [va_up_n _ _ (fun z => zEl.ne this (by rw [z, hq]))]
      exact this
    refine r_Arrays_copyOf_9 (r_ArrayList_grow1_40 ⟨by rw [va_up_n _ _ hql]; exact hl, r_ArrayList_grow_10 ?_⟩)
    rw [va_up2]
    exact w q _ hq hq10 (fun i hi => by
      rw [pk_cpy_in (by omega) (by omega), va_up_n _ _ hqe]
      congr 1
      omega)
  · refine r_ArrayList_grow1_0 ⟨hl, _, hF, 0, Or.inr ⟨rfl, rfl⟩, br_f (by rw [nI_0]; decide) ⟨fun _ => ?_, fun z => absurd rfl z⟩⟩
    have e1 : nI 0 + (1 : Int32) = nI 1 := nI_1 0
    rw [e1]
    refine c_max (a := 10) (b := 1) (by omega) (by omega) ?_
    refine r_ArrayList_grow1_52 ⟨10, rfl, by omega, 0, 0, by omega, by show 0 + 10 ≤ sb; have : zgrow 0 = 10 := rfl; omega, fun q hq => ?_⟩
    have hql : l ≠ q := fun z => by rw [z, hq] at hl; cases hl
    refine aw_c0 (fun h0 => ?_)
    have hq10 : q ≠ E.2.1 10 := fun z => by rw [← z, va_up_s] at h0; cases h0
    exact r_ArrayList_grow1_55 ⟨by rw [va_up_n _ _ hql]; exact hl, r_ArrayList_grow_10 (w q _ hq hq10 (fun i hi => by omega))⟩
end
