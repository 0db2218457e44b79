-- ===== the reference: rows and comparing =====
/-- a row of bytes in the array f from fb on, its length at gi of g -/
def mR (V : Nat → Nat → Int32) (f fb g gi : Nat) (r : List Nat) : Prop := V g gi = nI r.length ∧ r.length ≤ 100 ∧ (∀ x ∈ r, x < 256) ∧ ∀ k, k < r.length → V f (fb + k) = nI (r.getD k 0)
theorem mR.fr {V V' : Nat → Nat → Int32} {f fb g gi : Nat} {r : List Nat} (h : mR V f fb g gi r) (h1 : V' g gi = V g gi) (h2 : ∀ j, fb ≤ j → j < fb + 100 → V' f j = V f j) : mR V' f fb g gi r := by
  obtain ⟨a1, a2, a3, a4⟩ := h
  exact ⟨by rw [h1]; exact a1, a2, a3, fun k hk => by rw [h2 _ (by omega) (by omega)]; exact a4 k hk⟩
def sgn (z : Int) : Int32 := if z = 0 then 0 else if z < 0 then -1 else 1
theorem sgn_0 (z : Int) : sgn z = 0 ↔ z = 0 := by
  unfold sgn
  split
  · simp [*]
  · split <;> simp [*]
theorem sgn_neg (z : Int) : (0 : Int32) - sgn z = sgn (-z) := by
  unfold sgn
  by_cases h : z = 0
  · rw [if_pos h, if_pos (by omega)]; rfl
  · rw [if_neg h, if_neg (show ¬ -z = 0 by omega)]
    by_cases h2 : z < 0
    · rw [if_pos h2, if_neg (by omega)]; rfl
    · rw [if_neg h2, if_pos (by omega)]; rfl
theorem sgn_gt (z : Int) : (0 < sgn z ↔ 0 < z) ∧ (sgn z ≤ 0 ↔ z ≤ 0) := by
  unfold sgn
  by_cases h : z = 0
  · rw [if_pos h]; constructor <;> constructor <;> intro q <;> first | omega | exact absurd q (by decide) | decide
  · rw [if_neg h]
    by_cases h2 : z < 0
    · rw [if_pos h2]; constructor <;> constructor <;> intro q <;> first | omega | exact absurd q (by decide) | decide
    · rw [if_neg h2]; constructor <;> constructor <;> intro q <;> first | omega | exact absurd q (by decide) | decide
theorem dig_nI {u : Nat} (hu : u < 256) : (nI u < (48 : Int32) → dig u = 0) ∧ ((57 : Int32) < nI u → dig u = 0) ∧ (¬ nI u < (48 : Int32) → ¬ (57 : Int32) < nI u → nI u - (48 : Int32) = nI (dig u)) := by
  have e1 : nI u < (48 : Int32) ↔ u < 48 := nI_ltI (b := 48) (by omega) (by omega)
  have e2 : (57 : Int32) < nI u ↔ 57 < u := nI_ltI (a := 57) (by omega) (by omega)
  unfold dig
  refine ⟨fun h => if_neg (by have := e1.mp h; omega), fun h => if_neg (by have := e2.mp h; omega), fun h1 h2 => ?_⟩
  have a1 : ¬ u < 48 := fun z => h1 (e1.mpr z)
  have a2 : ¬ 57 < u := fun z => h2 (e2.mpr z)
  rw [if_pos (by omega)]
  exact pk_sub (b := 48) (by omega)
section
variable {E : zE} {B : (Nat → Nat → Int32) × (Nat → Nat → Int64)} {K n : Nat → Nat} {I : Nat → Nat → Int32} {F : Nat → Nat → Option Nat} {J : Nat → Nat → Int64} {m : Nat} {A : Nat → Nat} {V : Nat → Nat → Int32} {T : Nat → Int64} {cb sb : Nat} {Q : zO → zH → Prop}
/-- the row t of a table -/
def mRT (V : Nat → Nat → Int32) (f g t : Nat) (r : List Nat) : Prop := mR V f (100 * t) g t r ∧ 100 * t + 100 ≤ asz f ∧ t < asz g ∧ t < 1000
theorem mo_byteOf {f g t k : Nat} {r : List Nat} (h : MS B K n I F J m A V T) (hr : mRT V f g t r) (hk : k < 2 ^ 30) (w : Q (.inl (some (.int (nI (oct r k))))) (K, n, I, F, J)) :
    AW E m_Mo_byteOf (K, n, I, F, J) cb sb Q 0 [some (.ref (A f)), some (.ref (A g)), some (.int (nI t)), some (.int (nI k))] [] := by
  obtain ⟨⟨r1, r2, r3, r4⟩, r5, r6, r7⟩ := hr
  have hf : 0 < asz f := by omega
  have hg : 0 < asz g := by omega
  refine r_Mo_byteOf_0 ⟨h.k hg, t, rfl, by rw [h.sz hg]; exact r6, by omega, ?_⟩
  rw [h.a hg, r1]
  unfold oct at w
  refine pk_le r.length k (fun q => ?_) (fun q => ⟨h.k hf, 100 * t + k, ?_, by rw [h.sz hf]; omega, by omega, ?_⟩) rfl rfl (by omega) (by omega)
  · rw [zgetD_out q] at w; exact w
  · show nI 100 * nI t + nI k = _
    rw [pk_mul, nI_add]
  · rw [h.a hf, r4 k q]
    rw [zgetD_nat q] at w; exact w
theorem mo_digitAt {u : Nat} (hu : u < 256) (w : Q (.inl (some (.int (nI (dig u))))) (K, n, I, F, J)) : AW E m_Mo_digitAt (K, n, I, F, J) cb sb Q 0 [some (.int (nI u))] [] := by
  obtain ⟨d1, d2, d3⟩ := dig_nI hu
  refine r_Mo_digitAt_0 (br_c (fun q => ?_) (fun q => br_c (fun q2 => ?_) (fun q2 => ?_)))
  · rw [d1 q] at w; exact w
  · rw [d2 q2] at w; exact w
  · rw [d3 q q2]; exact w
theorem mo_asNumL {f g t fr len : Nat} {r : List Nat} (h : MS B K n I F J m A V T) (hr : mRT V f g t r) (hfl : fr + len ≤ 200) : ∀ (d k acc : Nat), k + d = len → Q (.inl (some (.long (lN (numIn (none, fr, len) r k d acc))))) (K, n, I, F, J) →
    AW E m_Mo_asNumber (K, n, I, F, J) cb sb Q 6 [some (.ref (A f)), some (.ref (A g)), some (.int (nI t)), some (.int (nI fr)), some (.int (nI len)), some (.long (lN acc)), none, some (.int (nI (fr + k))), none] []
  | 0, k, acc, hk, w => by
    refine r_Mo_asNumber_6 ?_
    rw [nI_add]
    exact br_t ((nI_leI (by omega) (by omega)).mpr (by omega)) w
  | d + 1, k, acc, hk, w => by
    refine r_Mo_asNumber_6 ?_
    rw [nI_add]
    refine br_f (nI_ge (by omega) (by omega)) (mo_byteOf h hr (by omega) ?_)
    have hu := oct_lt hr.1.2.2.1 (fr + k)
    obtain ⟨d1, d2, d3⟩ := dig_nI hu
    have ep : poct (none, fr, len) r k = oct r (fr + k) := by unfold poct; rw [if_pos (by show k < len; omega)]
    unfold numIn at w
    rw [ep] at w
    have nx := mo_asNumL h hr hfl d (k + 1) (acc * 10 + dig (oct r (fr + k))) (by omega) w
    have e0 : dig (oct r (fr + k)) = 0 → (10 : Int64) * lN acc + (0 : Int32).toInt64 = lN (acc * 10 + dig (oct r (fr + k))) := fun z => by
      rw [z]
      show lN 10 * lN acc + lN 0 = _
      rw [lN_mul, lN_add]; congr 1; omega
    refine r_Mo_asNumber_23 (br_c (fun q => ?_) (fun q => br_c (fun q2 => ?_) (fun q2 => ?_)))
    · rw [nI_1, e0 (d1 q)]; exact nx
    · rw [nI_1, e0 (d2 q2)]; exact nx
    · have e1 : (10 : Int64) * lN acc + (nI (oct r (fr + k)) - (48 : Int32)).toInt64 = lN (acc * 10 + dig (oct r (fr + k))) := by
        have := dig_le (oct r (fr + k))
        rw [d3 q q2, nI_l (by omega)]
        show lN 10 * lN acc + _ = _
        rw [lN_mul, lN_add]; congr 1; omega
      rw [nI_1, e1]; exact nx
theorem mo_asNum {f g t fr len : Nat} {r : List Nat} (h : MS B K n I F J m A V T) (hr : mRT V f g t r) (hfl : fr + len ≤ 200) (w : Q (.inl (some (.long (lN (numIn (none, fr, len) r 0 len 0))))) (K, n, I, F, J)) :
    AW E m_Mo_asNumber (K, n, I, F, J) cb sb Q 0 [some (.ref (A f)), some (.ref (A g)), some (.int (nI t)), some (.int (nI fr)), some (.int (nI len)), none, none, none, none] [] :=
  r_Mo_asNumber_0 (mo_asNumL h hr hfl len 0 0 (by omega) w)
theorem fdif_sgn {u v : Nat} (hu : u < 256) (hv : v < 256) (hne : u ≠ v) : (nI v ≤ nI u → sgn ((u : Int) - v) = 1) ∧ (¬ nI v ≤ nI u → sgn ((u : Int) - v) = -1) := by
  have e : nI v ≤ nI u ↔ v ≤ u := nI_leI (by omega) (by omega)
  unfold sgn
  refine ⟨fun h => ?_, fun h => ?_⟩
  · have := e.mp h
    rw [if_neg (by omega), if_neg (by omega)]
  · have : ¬ v ≤ u := fun z => h (e.mpr z)
    rw [if_neg (by omega), if_pos (by omega)]
theorem mo_byKeyL {c f g t f' g' t' : Nat} {r r' : List Nat} {k : zKey} (h : MS B K n I F J m A V T) (hk : kR V c k) (hc : c < 6) (hr : mRT V f g t r) (hr' : mRT V f' g' t' r') : ∀ (d i : Nat), i + d = k.2.1 →
    Q (.inl (some (.int (sgn (fdif (fun j => zdg k.2.2.2 (poct (kpart k) r j)) (fun j => zdg k.2.2.2 (poct (kpart k) r' j)) i d))))) (K, n, I, F, J) →
    AW E m_Mo_byKey (K, n, I, F, J) cb sb Q 37 [some (.ref m), some (.int (nI c)), some (.ref (A f)), some (.ref (A g)), some (.int (nI t)), some (.ref (A f')), some (.ref (A g')), some (.int (nI t')), some (.int (nI k.1)), some (.int (zB k.2.2.2)), some (.int (nI (k.1 + i))), none, none] []
  | 0, i, hi, w => by
    obtain ⟨k1, k2, k3, k4, k5⟩ := hk
    refine r_Mo_byKey_37 ⟨h.K9, _, h.f (f := 7) (by decide), h.k (by decide), 4 * c + 1, ?_, by rw [h.sz (by decide)]; show 4 * c + 1 < 48; omega, by omega, ?_⟩
    · show nI 4 * nI c + nI 1 = _
      rw [pk_mul, nI_add]
    rw [h.a (by decide), k2, nI_add]
    exact br_t ((nI_leI (by omega) (by omega)).mpr (by omega)) w
  | d + 1, i, hi, w => by
    obtain ⟨k1, k2, k3, k4, k5⟩ := id hk
    have hu := oct_lt hr.1.2.2.1 (k.1 + i)
    have hv := oct_lt hr'.1.2.2.1 (k.1 + i)
    have ep : poct (kpart k) r i = oct r (k.1 + i) := by unfold poct kpart; rw [if_pos (by show i < k.2.1; omega)]
    have ep' : poct (kpart k) r' i = oct r' (k.1 + i) := by unfold poct kpart; rw [if_pos (by show i < k.2.1; omega)]
    unfold fdif at w
    rw [ep, ep'] at w
    refine r_Mo_byKey_37 ⟨h.K9, _, h.f (f := 7) (by decide), h.k (by decide), 4 * c + 1, ?_, by rw [h.sz (by decide)]; show 4 * c + 1 < 48; omega, by omega, ?_⟩
    · show nI 4 * nI c + nI 1 = _
      rw [pk_mul, nI_add]
    rw [h.a (by decide), k2, nI_add]
    refine br_f (nI_ge (by omega) (by omega)) (mo_byteOf h hr (by omega) (r_Mo_byKey_64 (mo_byteOf h hr' (by omega) ?_)))
    have fin : ∀ u v, u < 256 → v < 256 → u = zdg k.2.2.2 (oct r (k.1 + i)) → v = zdg k.2.2.2 (oct r' (k.1 + i)) → ((nI u = nI v → AW E m_Mo_byKey (K, n, I, F, J) cb sb Q 37 [some (.ref m), some (.int (nI c)), some (.ref (A f)), some (.ref (A g)), some (.int (nI t)), some (.ref (A f')), some (.ref (A g')), some (.int (nI t')), some (.int (nI k.1)), some (.int (zB k.2.2.2)), some (.int (nI (k.1 + i) + (1 : Int32))), none, none] []) ∧ (¬ nI u = nI v → ((nI v ≤ nI u → Q (.inl (some (.int (1 : Int32)))) (K, n, I, F, J)) ∧ (¬ nI v ≤ nI u → Q (.inl (some (.int ((-1) : Int32)))) (K, n, I, F, J))))) := fun u v hu9 hv9 eu ev => by
      rw [← eu, ← ev] at w
      refine ⟨fun z => ?_, fun z => ?_⟩
      · have e : u = v := (nI_eq (by omega) (by omega)).mp z
        rw [if_pos e] at w
        rw [nI_1]
        exact mo_byKeyL h hk hc hr hr' d (i + 1) (by omega) w
      · have hne : u ≠ v := fun y => z (by rw [y])
        rw [if_neg hne] at w
        obtain ⟨s1, s2⟩ := fdif_sgn hu9 hv9 hne
        exact ⟨fun y => by rw [s1 y] at w; exact w, fun y => by rw [s2 y] at w; exact w⟩
    cases hb : k.2.2.2 with
    | false =>
      have f9 := fin _ _ hu hv (by rw [hb]; rfl) (by rw [hb]; rfl)
      rw [hb] at f9
      exact r_Mo_byKey_77 ⟨fun _ => ⟨fun _ => f9, fun z => absurd rfl z⟩, fun z => absurd rfl z⟩
    | true =>
      have d1 := dig_le (oct r (k.1 + i))
      have d2 := dig_le (oct r' (k.1 + i))
      have f9 := fin (dig (oct r (k.1 + i))) (dig (oct r' (k.1 + i))) (by omega) (by omega) (by rw [hb]; rfl) (by rw [hb]; rfl)
      rw [hb] at f9
      exact r_Mo_byKey_77 ⟨fun z => absurd z (by decide), fun _ => mo_digitAt hu (r_Mo_byKey_89 ⟨fun z => absurd z (by decide), fun _ => mo_digitAt hv (r_Mo_byKey_106 f9)⟩)⟩
theorem mo_byKey {c f g t f' g' t' : Nat} {r r' : List Nat} {k : zKey} (h : MS B K n I F J m A V T) (hk : kR V c k) (hc : c < 6) (hr : mRT V f g t r) (hr' : mRT V f' g' t' r') (w : Q (.inl (some (.int (sgn (cmpK k r r'))))) (K, n, I, F, J)) :
    AW E m_Mo_byKey (K, n, I, F, J) cb sb Q 0 [some (.ref m), some (.int (nI c)), some (.ref (A f)), some (.ref (A g)), some (.int (nI t)), some (.ref (A f')), some (.ref (A g')), some (.int (nI t')), none, none, none, none, none] [] := by
  obtain ⟨k1, k2, k3, k4, k5⟩ := id hk
  have e4 : (4 : Int32) * nI c = nI (4 * c) := pk_mul 4 c
  refine r_Mo_byKey_0 ⟨h.K9, _, h.f (f := 7) (by decide), h.k (by decide), 4 * c, e4, by rw [h.sz (by decide)]; show 4 * c < 48; omega, by omega, 4 * c + 3, by rw [e4]; exact nI_add (4 * c) 3, by rw [h.sz (by decide)]; show 4 * c + 3 < 48; omega, by omega, ?_⟩
  have e1 : nI (k.1 + 1) - (1 : Int32) = nI k.1 := nI_pred k.1
  rw [h.a (by decide), k1, k4, e1]
  unfold cmpK cmpP at w
  have em : max (kpart k).2.2 (kpart k).2.2 = k.2.1 := Nat.max_self _
  rw [em] at w
  have g9 := mo_byKeyL (E := E) (cb := cb) (sb := sb) h hk hc hr hr' k.2.1 0 (by omega) w
  rw [Nat.add_zero] at g9
  cases hb : k.2.2.2 with
  | false => rw [hb] at g9; exact ⟨fun _ => g9, fun z => absurd z (by decide)⟩
  | true => rw [hb] at g9; exact ⟨fun z => absurd rfl z, fun _ => g9⟩
theorem mo_byKeysL {st : zStm} {f g t f' g' t' : Nat} {r r' : List Nat} (h : MS B K n I F J m A V T) (hL : mL V st) (hr : mRT V f g t r) (hr' : mRT V f' g' t' r') : ∀ (ks : List zKey) (c : Nat), st.1.drop c = ks → c ≤ st.1.length →
    Q (.inl (some (.int (sgn (cmpR ks r r'))))) (K, n, I, F, J) →
    AW E m_Mo_byKeys (K, n, I, F, J) cb sb Q 3 [some (.ref m), some (.ref (A f)), some (.ref (A g)), some (.int (nI t)), some (.ref (A f')), some (.ref (A g')), some (.int (nI t')), some (.int (nI c)), none] []
  | [], c, hd, hc, w => by
    have e : st.1.length ≤ c := List.drop_eq_nil_iff.mp hd
    have h6 := hL.1.1.1
    refine r_Mo_byKeys_3 ⟨h.K9, _, h.f (f := 5) (by decide), h.k (by decide), 1, rfl, by rw [h.sz (by decide)]; decide, by decide, ?_⟩
    rw [h.a (by decide), hL.2.1.1]
    exact br_t ((nI_leI (by omega) (by omega)).mpr (by omega)) w
  | k :: ks, c, hd, hc, w => by
    obtain ⟨ef, ed, el⟩ := zdrop_at hd
    have h6 := hL.1.1.1
    have hk := hL.2.2.1 c k ef
    refine r_Mo_byKeys_3 ⟨h.K9, _, h.f (f := 5) (by decide), h.k (by decide), 1, rfl, by rw [h.sz (by decide)]; decide, by decide, ?_⟩
    rw [h.a (by decide), hL.2.1.1]
    refine br_f (nI_ge (by omega) (by omega)) (mo_byKey h hk (by omega) hr hr' ?_)
    unfold cmpR at w
    refine r_Mo_byKeys_29 ⟨fun z => ?_, fun z => ⟨h.K9, _, h.f (f := 7) (by decide), h.k (by decide), 4 * c + 2, ?_, by rw [h.sz (by decide)]; show 4 * c + 2 < 48; omega, by omega, ?_⟩⟩
    · rw [if_pos ((sgn_0 _).mp z)] at w
      rw [nI_1]
      exact mo_byKeysL h hL hr hr' ks (c + 1) ed (by omega) w
    · show nI 4 * nI c + nI 2 = _
      rw [pk_mul, nI_add]
    · rw [if_neg (fun y => z ((sgn_0 _).mpr y))] at w
      rw [h.a (by decide), hk.2.2.1]
      cases hb : k.2.2.1 with
      | false => rw [hb, if_neg (by decide)] at w; exact ⟨fun _ => w, fun z => absurd z (by decide)⟩
      | true => rw [hb, if_pos rfl] at w; exact ⟨fun z => absurd rfl z, fun _ => by rw [sgn_neg]; exact w⟩
theorem mo_byKeys {st : zStm} {f g t f' g' t' : Nat} {r r' : List Nat} (h : MS B K n I F J m A V T) (hL : mL V st) (hr : mRT V f g t r) (hr' : mRT V f' g' t' r') (w : Q (.inl (some (.int (sgn (cmpR st.1 r r'))))) (K, n, I, F, J)) :
    AW E m_Mo_byKeys (K, n, I, F, J) cb sb Q 0 [some (.ref m), some (.ref (A f)), some (.ref (A g)), some (.int (nI t)), some (.ref (A f')), some (.ref (A g')), some (.int (nI t')), none, none] [] :=
  r_Mo_byKeys_0 (mo_byKeysL h hL hr hr' st.1 0 rfl (by omega) w)
end
