-- ===== the class's join =====
def longF (rc : zRec) (a : Nat) : Nat → Nat → Nat → Nat
  | 0, _, acc => acc
  | d + 1, i, acc => longF rc a d (i + 1) (if (rc i).1 = a then max acc (rc i).2.length else acc)
def jrow (wd : Nat) (r r' : List Nat) : List Nat := r'.foldl zapp ((List.replicate (wd - r.length) 32).foldl zapp r)
def jwF (key : zKey) (rc : zRec) (b wd : Nat) (r : List Nat) : Nat → Nat → Bool → List (List Nat) → Bool × List (List Nat)
  | 0, _, fo, L => (fo, L)
  | d + 1, q, fo, L => if (rc q).1 = b ∧ cmpK key r (rc q).2 = 0 then jwF key rc b wd r d (q + 1) true (if L.length < 150 then L ++ [jrow wd r (rc q).2] else L) else jwF key rc b wd r d (q + 1) fo L
def jnF (key : zKey) (rc : zRec) (a b wd m : Nat) : Nat → Nat → List (List Nat) → List Nat → List (List Nat) × List Nat
  | 0, _, L, u => (L, u)
  | d + 1, i, L, u => if (rc i).1 = a then jnF key rc a b wd m d (i + 1) (jwF key rc b wd (rc i).2 m 0 false L).2 (if (jwF key rc b wd (rc i).2 m 0 false L).1 then u else u ++ [i]) else jnF key rc a b wd m d (i + 1) L u
def joinF (st : zStm) (rc : zRec) (m a b : Nat) : List (List Nat) × List Nat := jnF (st.1.headD (0, 0, false, false)) rc a b (longF rc a m 0 0) m m 0 [] []
theorem longF_le (rc : zRec) (a : Nat) : ∀ (d i acc : Nat), acc ≤ 100 → (∀ t, t < i + d → (rc t).2.length ≤ 100) → longF rc a d i acc ≤ 100
  | 0, i, acc, h, _ => h
  | d + 1, i, acc, h, hr => by
    unfold longF
    refine longF_le rc a d (i + 1) _ ?_ (fun t ht => hr t (by omega))
    have := hr i (by omega)
    split <;> omega
theorem jwF_ge (key : zKey) (rc : zRec) (b wd : Nat) (r : List Nat) : ∀ (d q : Nat) (fo : Bool) (L : List (List Nat)), L.length ≤ 150 → L.length ≤ (jwF key rc b wd r d q fo L).2.length ∧ (jwF key rc b wd r d q fo L).2.length ≤ 150
  | 0, q, fo, L, h => by unfold jwF; exact ⟨Nat.le_refl _, h⟩
  | d + 1, q, fo, L, h => by
    unfold jwF
    split
    · have := jwF_ge key rc b wd r d (q + 1) true (if L.length < 150 then L ++ [jrow wd r (rc q).2] else L)
      split at this
      · rw [List.length_append, List.length_singleton] at this
        have := this (by omega)
        rw [if_pos (by assumption)]
        omega
      · rw [if_neg (by assumption)]
        exact this h
    · exact jwF_ge key rc b wd r d (q + 1) fo L h
theorem jnF_ge (key : zKey) (rc : zRec) (a b wd m : Nat) : ∀ (d i : Nat) (L : List (List Nat)) (u : List Nat), L.length ≤ 150 → (L.length ≤ (jnF key rc a b wd m d i L u).1.length ∧ (jnF key rc a b wd m d i L u).1.length ≤ 150) ∧ u.length ≤ (jnF key rc a b wd m d i L u).2.length ∧ (jnF key rc a b wd m d i L u).2.length ≤ u.length + d
  | 0, i, L, u, h => by unfold jnF; exact ⟨⟨Nat.le_refl _, h⟩, Nat.le_refl _, Nat.le_refl _⟩
  | d + 1, i, L, u, h => by
    unfold jnF
    split
    · have h1 := jwF_ge key rc b wd (rc i).2 m 0 false L h
      have h2 := jnF_ge key rc a b wd m d (i + 1) (jwF key rc b wd (rc i).2 m 0 false L).2 (if (jwF key rc b wd (rc i).2 m 0 false L).1 then u else u ++ [i]) h1.2
      by_cases e : (jwF key rc b wd (rc i).2 m 0 false L).1 = true
      · rw [if_pos e] at h2 ⊢
        exact ⟨⟨by omega, h2.1.2⟩, h2.2.1, by omega⟩
      · rw [if_neg e] at h2 ⊢
        rw [List.length_append, List.length_singleton] at h2
        exact ⟨⟨by omega, h2.1.2⟩, by omega, by omega⟩
    · have := jnF_ge key rc a b wd m d (i + 1) L u h
      exact ⟨this.1, this.2.1, by omega⟩
section
variable {E : zE} {U : zU} {K n : Nat → Nat} {F : Nat → Nat → Option Nat} {J : Nat → Nat → Int64} {cb sb : Nat} {Q : zO → zH → Prop} {k : Nat → Nat} {X : Nat → List Nat} {N : Nat → Nat × Nat × Nat} {st : zStm} {pu pp : List Nat} {cu cp : Nat} {D Sg : Nat → Int32} {rc : zRec}
/-- the other row is appended -/
theorem cc_ajA {a a2 : Nat} {r2 : List Nat} (ha : rws U X a) (h2 : rws U X a2) (hne : a2 ≠ a) : ∀ (d q : Nat) (I : Nat → Nat → Int32) (R : Nat → List Nat), q + d = r2.length → CC E U K n I F J k X R N st pu cu pp cp D Sg → R a2 = r2 →
    (∀ I', CC E U K n I' F J k X (va_up R a ((r2.drop q).foldl zapp (R a))) N st pu cu pp cp D Sg → Q (.inl none) (K, n, I', F, J)) →
    AW E m_Su_addJoined (K, n, I, F, J) cb sb Q 49 [none, none, some (.ref a2), none, some (.ref a), some (.int (nI q))] []
  | 0, q, I, R, hq, h, hR, w => by
    have v := (h.rV h2).1
    rw [hR] at v
    have := v.2.1
    refine r_Su_addJoined_49 ⟨v.1, ?_⟩
    rw [v.2.2.2.1]
    rw [List.drop_of_length_le (by omega)] at w
    refine br_t ((nI_leI (by omega) (by omega)).mpr (by omega)) (w I ?_)
    rw [List.foldl_nil, va_up_id]; exact h
  | d + 1, q, I, R, hq, h, hR, w => by
    have v := (h.rV h2).1
    rw [hR] at v
    have hl := v.2.1
    have va := (h.rV ha).1
    refine r_Su_addJoined_49 ⟨v.1, ?_⟩
    rw [v.2.2.2.1]
    refine br_f (nI_ge (by omega) (by omega)) (c_octetAt v (by omega) (r_Su_addJoined_66 ⟨va.1, c_append va (oct_lt v.2.2.1 q) (fun I' g gi hr => r_Su_addJoined_69 ?_)⟩))
    rw [nI_1]
    have C := h.rowB ha (g.mono (fun _ _ z => z)) gi hr
    refine cc_ajA (r2 := r2) ha h2 hne d (q + 1) I' _ (by omega) C (by rw [va_up_n _ _ hne]; exact hR) (fun I2 C2 => w I2 ?_)
    rw [va_up2, va_up_s] at C2
    have e : r2.drop q = oct r2 q :: r2.drop (q + 1) := by
      rw [List.drop_eq_getElem_cons (by omega)]
      congr 1
      unfold oct
      rw [List.getD_eq_getElem?_getD, List.getElem?_eq_getElem (by omega)]; rfl
    rw [e, List.foldl_cons]
    exact C2
/-- blanks up to the width -/
theorem cc_ajP {a a2 wd : Nat} {r2 : List Nat} (ha : rws U X a) (h2 : rws U X a2) (hne : a2 ≠ a) (hwd : wd ≤ 100) : ∀ (d q : Nat) (I : Nat → Nat → Int32) (R : Nat → List Nat), q + d = wd ∨ (d = 0 ∧ wd ≤ q ∧ q ≤ 100) → CC E U K n I F J k X R N st pu cu pp cp D Sg → R a2 = r2 →
    (∀ I', CC E U K n I' F J k X (va_up R a (r2.foldl zapp ((List.replicate d 32).foldl zapp (R a)))) N st pu cu pp cp D Sg → Q (.inl none) (K, n, I', F, J)) →
    AW E m_Su_addJoined (K, n, I, F, J) cb sb Q 27 [none, none, some (.ref a2), some (.int (nI wd)), some (.ref a), some (.int (nI q))] []
  | 0, q, I, R, hq, h, hR, w => by
    refine r_Su_addJoined_27 (br_t ((nI_leI (by omega) (by omega)).mpr (by omega)) ?_)
    exact cc_ajA ha h2 hne r2.length 0 I R (by omega) h hR (fun I' C => w I' C)
  | d + 1, q, I, R, hq, h, hR, w => by
    have va := (h.rV ha).1
    refine r_Su_addJoined_27 (br_f (nI_ge (by omega) (by omega)) ⟨va.1, c_append (u := 32) va (by omega) (fun I' g gi hr => r_Su_addJoined_40 ?_)⟩)
    rw [nI_1]
    have C := h.rowB ha (g.mono (fun _ _ z => z)) gi hr
    refine cc_ajP (r2 := r2) ha h2 hne hwd d (q + 1) I' _ (by omega) C (by rw [va_up_n _ _ hne]; exact hR) (fun I2 C2 => w I2 ?_)
    rw [va_up2, va_up_s] at C2
    exact C2
end
section
variable {E : zE} {U : zU} {K n : Nat → Nat} {I : Nat → Nat → Int32} {F : Nat → Nat → Option Nat} {J : Nat → Nat → Int64} {cb sb : Nat} {Q : zO → zH → Prop} {k : Nat → Nat} {X : Nat → List Nat} {R : Nat → List Nat} {N : Nat → Nat × Nat × Nat} {st : zStm} {pu pp : List Nat} {cu cp : Nat} {D Sg : Nat → Int32} {rc : zRec}
/-- addJoined(row, other, width) -/
theorem cc_addJ {i q wd : Nat} {L : List (List Nat)} (h : CC E U K n I F J k X R N st pu cu pp cp D Sg) (hB : RB k X R N rc) (hL : cB k X R 3 L) (hi : i < k 0) (hq : q < k 0) (hwd : wd ≤ 100) (hb : L.length < 150 → L.length = (X 3).length → 3 ≤ cb ∧ 405 ≤ sb)
    (w : ∀ K' n' I' F' k' X' R' N', CC E U K' n' I' F' J k' X' R' N' st pu cu pp cp D Sg → RB k' X' R' N' rc → cB k' X' R' 3 (if L.length < 150 then L ++ [jrow wd (rc i).2 (rc q).2] else L) → (∀ j, j ≠ 3 → k' j = k j ∧ X' j = X j) → (X' 3).length = max (X 3).length (if L.length < 150 then L ++ [jrow wd (rc i).2 (rc q).2] else L).length → (∀ j x, j < 4 → j ≠ 3 → x ∈ X j → R' x = R x ∧ N' x = N x) → Q (.inl none) (K', n', I', F', J)) :
    AW E m_Su_addJoined (K, n, I, F, J) cb sb Q 0 [some (.ref (uo U)), some (.ref ((X 0).getD i 0)), some (.ref ((X 0).getD q 0)), some (.int (nI wd)), none, none] [] := by
  obtain ⟨u1, u2, u3, u4, u5⟩ := h.w (i := 3) (by decide)
  have hk := hL.1
  have hk0 := (h.w (i := 0) (by decide)).2.2.2.1
  refine r_Su_addJoined_0 ⟨h.ro, _, u1, u2, cb, sb, 0, 0, by omega, by omega, ?_⟩
  refine cc_add h (by decide) (fun z1 z2 => hb (by omega) (by omega)) (fun z => ?_) (fun z K' n' I' F' X' N' a C hN hX ea et hlX hor => ?_)
  · refine r_Su_addJoined_7 (sr0 := none) ⟨fun _ => ?_, fun z1 e => by cases e⟩
    rw [if_neg (by omega)] at w
    exact w K n I F k X R N h hB hL (fun j _ => ⟨rfl, rfl⟩) (by omega) (fun _ _ _ _ _ => ⟨rfl, rfl⟩)
  · rw [if_pos (by omega)] at w
    refine r_Su_addJoined_7 (sr0 := some a) ⟨fun e => (by cases e), fun z1 e => ?_⟩
    cases e
    have hX0 := hX 0 (by decide)
    have hkX : k 3 < (X' 3).length := by omega
    have haX : rws U X' a := by rw [← ea]; exact rws.at (by decide) hkX
    have hoth : ∀ j x, j < 4 → j ≠ 3 → x ∈ X j → x ≠ a := fun j x hj hj2 hx q => by
      obtain ⟨cap, fo, c1, -⟩ := C
      rw [q, ← hX j hj2] at hx
      exact hj2 (c1.2.2.2.2.2.2.2.2.2.2.2.1 j 3 a hj (by decide) hx (by rw [← ea]; exact zgetD_mem hkX))
    have hne : ∀ t, t < k 0 → (X 0).getD t 0 ≠ a := fun t ht => hoth 0 _ (by decide) (by decide) (zgetD_mem (by omega))
    have hir : ∀ t, t < k 0 → rws U X' ((X 0).getD t 0) := fun t ht => by rw [← hX0]; exact rws.at (by decide) (by rw [hX0]; omega)
    have va := C.rV haX
    have vi := C.rV (hir i hi)
    rw [va_up_s] at va
    rw [va_up_n _ _ (hne i hi), hN _ (hne i hi), (hB i hi).1, (hB i hi).2] at vi
    refine ⟨va.1.1, c_become va.1 vi.1 (fun q => hne i hi q.symm) C.G (fun I2 g i2 i3 i4 hr => ?_)⟩
    have C2 := C.row haX (g.mono (fun _ _ q => q)) (t := ((N' a).1, i, 1)) ⟨hr, by rw [i2]; exact va.2.1, by rw [i3]; exact vi.2.2.1, by rw [i4]; exact vi.2.2.2⟩
    rw [va_up2] at C2
    have vi2 := (C2.rV (hir i hi)).1
    rw [va_up_n _ _ (hne i hi), (hB i hi).1] at vi2
    refine r_Su_addJoined_21 ⟨vi2.1, ?_⟩
    rw [vi2.2.2.2.1]
    have hil := vi2.2.1
    refine cc_ajP haX (hir q hq) (hne q hq) hwd (wd - (rc i).2.length) (rc i).2.length I2 _ (by omega) C2 (r2 := (rc q).2) (by rw [va_up_n _ _ (hne q hq), (hB q hq).1]) (fun I3 C3 => ?_)
    rw [va_up2, va_up_s] at C3
    refine w K' n' I3 F' _ X' _ _ C3 (hB.up (va_up_n _ _ (by decide)) hX0 (fun t ht => ⟨va_up_n _ _ (hne t ht), by rw [va_up_n _ _ (hne t ht)]; exact hN _ (hne t ht)⟩)) ⟨by rw [va_up_s]; simp; omega, fun t ht => ?_⟩ (fun j hj => ⟨va_up_n _ _ hj, hX j hj⟩) (by rw [hlX]; simp; omega) (fun j x hj hj2 hx => ?_)
    · rw [va_up_s] at ht
      by_cases e : t = k 3
      · rw [e, ea, va_up_s, ← hk]; simp [List.getD_eq_getElem?_getD, jrow]
      · have htk : t < k 3 := by omega
        have q : (X' 3).getD t 0 ≠ a := fun q => by
          rw [← ea] at q
          have := C.ne (i := 3) (j := 3) (by decide) (by decide) (by omega) hkX q
          omega
        rw [va_up_n _ _ q, et t htk, hL.2 t htk]
        simp [List.getD_eq_getElem?_getD, List.getElem?_append_left (show t < L.length by omega)]
    · have q := hoth j x hj hj2 hx
      rw [va_up_n _ _ q, va_up_n _ _ q]; exact ⟨rfl, hN _ q⟩
/-- longestOf(input) -/
theorem cc_longL {b : Nat} (h : CC E U K n I F J k X R N st pu cu pp cp D Sg) (hB : RB k X R N rc) (hr3 : ∀ t, t < k 0 → (rc t).1 < 3) (hb : b < 3) : ∀ (d i acc : Nat), i + d = k 0 → acc ≤ 100 → Q (.inl (some (.int (nI (longF rc b d i acc))))) (K, n, I, F, J) →
    AW E m_Su_longestOf (K, n, I, F, J) cb sb Q 4 [some (.ref (uo U)), some (.int (nI b)), some (.int (nI acc)), some (.int (nI i)), none] []
  | 0, i, acc, hi, ha, w => by
    obtain ⟨u1, u2, u3, u4, u5⟩ := h.w (i := 0) (by decide)
    refine r_Su_longestOf_4 ⟨h.ro, _, u1, u2, ?_⟩
    rw [u3]
    exact br_t ((nI_leI (by omega) (by omega)).mpr (by omega)) w
  | d + 1, i, acc, hi, ha, w => by
    obtain ⟨u1, u2, u3, u4, u5⟩ := h.w (i := 0) (by decide)
    obtain ⟨l, cap, hW⟩ := h.at (i := 0) (by decide)
    have hik : i < k 0 := by omega
    refine r_Su_longestOf_4 ⟨h.ro, _, u1, u2, ?_⟩
    rw [u3]
    refine br_f (nI_ge hik (by omega)) (c_atIn hW hik ?_)
    have v := h.rV (h.rx (i := 0) (by decide) hik)
    rw [(hB i hik).1, (hB i hik).2] at v
    refine r_Su_longestOf_23 (sr0 := some _) ⟨fun e => (by cases e), fun z1 e => ?_⟩
    cases e
    have hl := v.1.2.1
    have h3 := hr3 i hik
    refine ⟨v.1.1, ?_⟩
    rw [v.2.1, v.1.2.2.2.1, nI_1]
    unfold longF at w
    have e : nI ((rc i).1, i, 1).1 = nI b ↔ (rc i).1 = b := nI_eq (by show (rc i).1 < _; omega) (by omega)
    refine ⟨fun q => ?_, fun q => ?_⟩
    · rw [if_neg (fun z => q (e.mpr z))] at w
      exact cc_longL h hB hr3 hb d (i + 1) acc (by omega) ha w
    · rw [if_pos (e.mp q)] at w
      refine c_max (by omega) (by omega) (r_Su_longestOf_48 ?_)
      rw [nI_1]
      exact cc_longL h hB hr3 hb d (i + 1) _ (by omega) (by omega) w
end
section
variable {E : zE} {J : Nat → Nat → Int64} {Q : zO → zH → Prop} {st : zStm} {pp : List Nat} {cp : Nat} {D Sg : Nat → Int32} {rc : zRec}
/-- joinWithAll: the loop -/
theorem cc_jwL {i b wd : Nat} {pu : List Nat} {cu : Nat} {key : zKey} (hwd : wd ≤ 100) (hb3 : b < 3) : ∀ (d q : Nat) (fo : Bool) (L : List (List Nat)) (U : zU) (K n : Nat → Nat) (I : Nat → Nat → Int32) (F : Nat → Nat → Option Nat) (k : Nat → Nat) (X : Nat → List Nat) (R : Nat → List Nat) (N : Nat → Nat × Nat × Nat) (ka cb sb : Nat),
    i < k 0 → (∀ t, t < k 0 → (rc t).1 < 3) → cK K n I F ka key → CC E U K n I F J k X R N st pu cu pp cp D Sg → RB k X R N rc → cB k X R 3 L → q + d = k 0 →
    3 * ((jwF key rc b wd (rc i).2 d q fo L).2.length - (X 3).length) ≤ cb → 405 * ((jwF key rc b wd (rc i).2 d q fo L).2.length - (X 3).length) ≤ sb →
    (∀ K' n' I' F' k' X' R' N', CC E U K' n' I' F' J k' X' R' N' st pu cu pp cp D Sg → RB k' X' R' N' rc → cB k' X' R' 3 (jwF key rc b wd (rc i).2 d q fo L).2 → (∀ j, j ≠ 3 → k' j = k j ∧ X' j = X j) → (X' 3).length = max (X 3).length (jwF key rc b wd (rc i).2 d q fo L).2.length → (∀ j x, j < 4 → j ≠ 3 → x ∈ X j → R' x = R x ∧ N' x = N x) → Q (.inl (some (.int (zB (jwF key rc b wd (rc i).2 d q fo L).1)))) (K', n', I', F', J)) →
    AW E m_Su_joinWithAll (K, n, I, F, J) cb sb Q 37 [some (.ref (uo U)), some (.ref ((X 0).getD i 0)), some (.int (nI b)), some (.int (nI wd)), some (.ref ka), some (.int (zB fo)), some (.int (nI q)), none] []
  | 0, q, fo, L, U, K, n, I, F, k, X, R, N, ka, cb, sb, hi, hr3, hka, h, hB, hL, hq, hcb, hsb, w => by
    obtain ⟨u1, u2, u3, u4, u5⟩ := h.w (i := 0) (by decide)
    obtain ⟨v1, v2, v3, v4, v5⟩ := h.w (i := 3) (by decide)
    refine r_Su_joinWithAll_37 ⟨h.ro, _, u1, u2, ?_⟩
    rw [u3]
    have := hL.1
    unfold jwF at w
    exact br_t ((nI_leI (by omega) (by omega)).mpr (by omega)) ⟨zB_01 fo, w K n I F k X R N h hB hL (fun j _ => ⟨rfl, rfl⟩) (by show (X 3).length = max (X 3).length L.length; omega) (fun _ _ _ _ _ => ⟨rfl, rfl⟩)⟩
  | d + 1, q, fo, L, U, K, n, I, F, k, X, R, N, ka, cb, sb, hi, hr3, hka, h, hB, hL, hq, hcb, hsb, w => by
    obtain ⟨u1, u2, u3, u4, u5⟩ := h.w (i := 0) (by decide)
    obtain ⟨v1, v2, v3, v4, v5⟩ := h.w (i := 3) (by decide)
    obtain ⟨l, cap, hW⟩ := h.at (i := 0) (by decide)
    have hqk : q < k 0 := by omega
    have hLk := hL.1
    refine r_Su_joinWithAll_37 ⟨h.ro, _, u1, u2, ?_⟩
    rw [u3]
    refine br_f (nI_ge hqk (by omega)) (c_atIn hW hqk ?_)
    have v := h.rV (h.rx (i := 0) (by decide) hqk)
    rw [(hB q hqk).1, (hB q hqk).2] at v
    have vi := (h.rV (h.rx (i := 0) (by decide) hi)).1
    rw [(hB i hi).1] at vi
    refine r_Su_joinWithAll_58 (sr0 := some _) ⟨fun e => (by cases e), fun z1 e => ?_⟩
    cases e
    have h3 := hr3 q hqk
    refine ⟨v.1.1, ?_⟩
    rw [v.2.1]
    have e : nI ((rc q).1, q, 1).1 = nI b ↔ (rc q).1 = b := nI_eq (by show (rc q).1 < _; omega) (by omega)
    have skip : ¬ ((rc q).1 = b ∧ cmpK key (rc i).2 (rc q).2 = 0) → AW E m_Su_joinWithAll (K, n, I, F, J) cb sb Q 109 [some (.ref (uo U)), some (.ref ((X 0).getD i 0)), some (.int (nI b)), some (.int (nI wd)), some (.ref ka), some (.int (zB fo)), some (.int (nI q)), none] [] := fun hn => by
      unfold jwF at hcb hsb w
      rw [if_neg hn] at hcb hsb w
      refine r_Su_joinWithAll_109 ?_
      rw [nI_1]
      exact cc_jwL hwd hb3 d (q + 1) fo L U K n I F k X R N ka cb sb hi hr3 hka h hB hL (by omega) hcb hsb w
    refine ⟨fun z => skip (fun y => z (e.mpr y.1)), fun z => ?_⟩
    obtain ⟨k1, k2, k3, p, k4, k5⟩ := hka
    refine ⟨k1, p, k4, ?_⟩
    rw [k3]
    refine c_cmpP k5 vi k5 v.1 (fun x hx _ => r_Su_joinWithAll_95 ⟨fun y => skip (fun y2 => y ?_), fun y => ⟨h.ro, ?_⟩⟩)
    · exact (zi0 x).1.mpr (by rw [hx]; exact y2.2)
    · have hyes : (rc q).1 = b ∧ cmpK key (rc i).2 (rc q).2 = 0 := ⟨e.mp z, by have := (zi0 x).1.mp y; rw [hx] at this; exact this⟩
      unfold jwF at hcb hsb w
      rw [if_pos hyes] at hcb hsb w
      have hl1 : (if L.length < 150 then L ++ [jrow wd (rc i).2 (rc q).2] else L).length = if L.length < 150 then L.length + 1 else L.length := by
        by_cases q : L.length < 150
        · rw [if_pos q, if_pos q]; simp
        · rw [if_neg q, if_neg q]
      have hge := jwF_ge key rc b wd (rc i).2 d (q + 1) true (if L.length < 150 then L ++ [jrow wd (rc i).2 (rc q).2] else L) (by rw [hl1]; split <;> omega)
      have hA : L.length < 150 ∧ L.length = (X 3).length → (X 3).length + 1 ≤ (jwF key rc b wd (rc i).2 d (q + 1) true (if L.length < 150 then L ++ [jrow wd (rc i).2 (rc q).2] else L)).2.length := fun c => by
        have h1 := hge.1
        have h2 := hl1
        rw [if_pos c.1] at h2
        rw [if_pos c.1] at h1 ⊢
        rw [if_pos c.1] at h2
        omega
      have hM : (L.length < 150 ∧ L.length = (X 3).length → max (X 3).length (if L.length < 150 then L ++ [jrow wd (rc i).2 (rc q).2] else L).length = (X 3).length + 1) ∧ (¬ (L.length < 150 ∧ L.length = (X 3).length) → max (X 3).length (if L.length < 150 then L ++ [jrow wd (rc i).2 (rc q).2] else L).length = (X 3).length) := by
        rw [hl1]
        refine ⟨fun c => ?_, fun c => ?_⟩
        · rw [if_pos c.1]; omega
        · by_cases c1 : L.length < 150
          · rw [if_pos c1]; omega
          · rw [if_neg c1]; omega
      refine ⟨(if L.length < 150 ∧ L.length = (X 3).length then 3 else 0), (if L.length < 150 ∧ L.length = (X 3).length then 405 else 0), cb - (if L.length < 150 ∧ L.length = (X 3).length then 3 else 0), sb - (if L.length < 150 ∧ L.length = (X 3).length then 405 else 0), ?_, ?_, ?_⟩
      · by_cases c : L.length < 150 ∧ L.length = (X 3).length
        · have := hA c; rw [if_pos c]; omega
        · rw [if_neg c]; omega
      · by_cases c : L.length < 150 ∧ L.length = (X 3).length
        · have := hA c; rw [if_pos c]; omega
        · rw [if_neg c]; omega
      have hka' : cK K n I F ka key := ⟨k1, k2, k3, p, k4, k5⟩
      have go := cc_addJ (cb := (if L.length < 150 ∧ L.length = (X 3).length then 3 else 0)) (sb := (if L.length < 150 ∧ L.length = (X 3).length then 405 else 0)) (Q := zAft E m_Su_joinWithAll (cb - (if L.length < 150 ∧ L.length = (X 3).length then 3 else 0)) (sb - (if L.length < 150 ∧ L.length = (X 3).length then 405 else 0)) Q 106 [some (.ref (uo U)), some (.ref ((X 0).getD i 0)), some (.int (nI b)), some (.int (nI wd)), some (.ref ka), some (.int (1 : Int32)), some (.int (nI q)), none] []) (wd := wd) h.re hB hL hi hqk hwd (fun z1 z2 => by rw [if_pos ⟨z1, z2⟩, if_pos ⟨z1, z2⟩]; exact ⟨Nat.le_refl _, Nat.le_refl _⟩) (fun K' n' I' F' k' X' R' N' C' hB' hL' hX' hl' ho' => ?_)
      · exact go
      · show AW E m_Su_joinWithAll (K', n', I', F', J) _ _ Q 109 [some (.ref (uo U)), some (.ref ((X 0).getD i 0)), some (.int (nI b)), some (.int (nI wd)), some (.ref ka), some (.int (1 : Int32)), some (.int (nI q)), none] []
        refine r_Su_joinWithAll_109 ?_
        rw [nI_1]
        have e0 := hX' 0 (by decide)
        rw [← e0.2]
        refine cc_jwL hwd hb3 d (q + 1) true _ U K' n' I' F' k' X' R' N' ka _ _ (by rw [e0.1]; exact hi) (by rw [e0.1]; exact hr3) (C'.key hka') (h.un C') hB' hL' (by rw [e0.1]; omega) ?_ ?_ (fun K2 n2 I2 F2 k2 X2 R2 N2 C2 hB2 hL2 hX2 hl2 ho2 => w K2 n2 I2 F2 k2 X2 R2 N2 C2 hB2 hL2 (fun j hj => ⟨(hX2 j hj).1.trans (hX' j hj).1, (hX2 j hj).2.trans (hX' j hj).2⟩) (by rw [hl2, hl']; omega) (fun j x hj hj3 hx => ?_))
        · rw [hl']
          by_cases c : L.length < 150 ∧ L.length = (X 3).length
          · have := hA c; rw [hM.1 c, if_pos c]; omega
          · rw [hM.2 c, if_neg c]; omega
        · rw [hl']
          by_cases c : L.length < 150 ∧ L.length = (X 3).length
          · have := hA c; rw [hM.1 c, if_pos c]; omega
          · rw [hM.2 c, if_neg c]; omega
        · have o1 := ho' j x hj hj3 hx
          have o2 := ho2 j x hj hj3 (by rw [(hX' j hj3).2]; exact hx)
          exact ⟨o2.1.trans o1.1, o2.2.trans o1.2⟩
/-- join: the loop -/
theorem cc_jnL {U : zU} {a b wd : Nat} {key : zKey} (hwd : wd ≤ 100) (ha3 : a < 3) (hb3 : b < 3) (hkey : st.1[0]? = some key) : ∀ (d i : Nat) (L : List (List Nat)) (u : List Nat) (K n : Nat → Nat) (I : Nat → Nat → Int32) (F : Nat → Nat → Option Nat) (k : Nat → Nat) (X : Nat → List Nat) (R : Nat → List Nat) (N : Nat → Nat × Nat × Nat) (cu cb sb m : Nat), m = k 0 →
    (∀ t, t < k 0 → (rc t).1 < 3) → CC E U K n I F J k X R N st (xm X u) cu pp cp D Sg → RB k X R N rc → cB k X R 3 L → (∀ j ∈ u, j < k 0) → u.length ≤ i → i + d = k 0 →
    3 * ((jnF key rc a b wd m d i L u).1.length - (X 3).length) + ((jnF key rc a b wd m d i L u).2.length - cu) ≤ cb → 405 * ((jnF key rc a b wd m d i L u).1.length - (X 3).length) + 300 * ((jnF key rc a b wd m d i L u).2.length - cu) ≤ sb →
    (∀ K' n' I' F' k' X' R' N' cu', CC E U K' n' I' F' J k' X' R' N' st (xm X' (jnF key rc a b wd m d i L u).2) cu' pp cp D Sg → RB k' X' R' N' rc → cB k' X' R' 3 (jnF key rc a b wd m d i L u).1 → (∀ j, j ≠ 3 → k' j = k j ∧ X' j = X j) → (X' 3).length = max (X 3).length (jnF key rc a b wd m d i L u).1.length → cu ≤ cu' → (∀ j x, j < 4 → j ≠ 3 → x ∈ X j → R' x = R x ∧ N' x = N x) → Q (.inl (some (.int (nI (jnF key rc a b wd m d i L u).1.length)))) (K', n', I', F', J)) →
    AW E m_Su_join (K, n, I, F, J) cb sb Q 57 [some (.ref (uo U)), some (.int (nI a)), some (.int (nI b)), some (.int (nI wd)), some (.int (nI i)), none] []
  | 0, i, L, u, K, n, I, F, k, X, R, N, cu, cb, sb, m, hm, hr3, h, hB, hL, hu, hui, hi, hcb, hsb, w => by
    obtain ⟨u1, u2, u3, u4, u5⟩ := h.w (i := 0) (by decide)
    obtain ⟨v1, v2, v3, v4, v5⟩ := h.w (i := 3) (by decide)
    refine r_Su_join_57 ⟨h.ro, _, u1, u2, ?_⟩
    rw [u3]
    have hLk := hL.1
    unfold jnF at w
    refine br_t ((nI_leI (by omega) (by omega)).mpr (by omega)) ⟨_, v1, v2, ?_⟩
    rw [v3, ← hLk]
    exact w K n I F k X R N cu h hB hL (fun j _ => ⟨rfl, rfl⟩) (by show (X 3).length = max (X 3).length L.length; omega) (Nat.le_refl _) (fun _ _ _ _ _ => ⟨rfl, rfl⟩)
  | d + 1, i, L, u, K, n, I, F, k, X, R, N, cu, cb, sb, m, hm, hr3, h, hB, hL, hu, hui, hi, hcb, hsb, w => by
    obtain ⟨u1, u2, u3, u4, u5⟩ := h.w (i := 0) (by decide)
    obtain ⟨v1, v2, v3, v4, v5⟩ := h.w (i := 3) (by decide)
    obtain ⟨l, cap, hW⟩ := h.at (i := 0) (by decide)
    have hik : i < k 0 := by omega
    have hLk := hL.1
    refine r_Su_join_57 ⟨h.ro, _, u1, u2, ?_⟩
    rw [u3]
    refine br_f (nI_ge hik (by omega)) (c_atIn hW hik ?_)
    have v := h.rV (h.rx (i := 0) (by decide) hik)
    rw [(hB i hik).1, (hB i hik).2] at v
    refine r_Su_join_78 (sr0 := some _) ⟨fun e => (by cases e), fun z1 e => ?_⟩
    cases e
    have h3 := hr3 i hik
    refine ⟨v.1.1, ?_⟩
    rw [v.2.1, nI_1]
    have e : nI ((rc i).1, i, 1).1 = nI a ↔ (rc i).1 = a := nI_eq (by show (rc i).1 < _; omega) (by omega)
    unfold jnF at hcb hsb w
    refine ⟨fun z => ?_, fun z => ⟨h.ro, ?_⟩⟩
    · rw [if_neg (fun y => z (e.mpr y))] at hcb hsb w
      exact cc_jnL hwd ha3 hb3 hkey d (i + 1) L u K n I F k X R N cu cb sb m hm hr3 h hB hL hu (by omega) (by omega) hcb hsb w
    · rw [if_pos (e.mp z)] at hcb hsb w
      obtain ⟨fo, f1, f2, f3⟩ := h.sta
      obtain ⟨-, -, -, -, -, -, -, -, l0, l1, l2, l3, g0, g1, g2, g3, ⟨x0, p0, hL0, hp0, hlen0, hC0⟩, -⟩ := f3
      have hkl : 0 < st.1.length := (List.getElem?_eq_some_iff.mp hkey).1
      have hka := hC0 0 key hkey
      have b0 := hL0.2.2.1
      have hw1 := jwF_ge key rc b wd (rc i).2 m 0 false L (by omega)
      have hw2 := jnF_ge key rc a b wd m d (i + 1) (jwF key rc b wd (rc i).2 m 0 false L).2 (if (jwF key rc b wd (rc i).2 m 0 false L).1 then u else u ++ [i]) hw1.2
      refine ⟨3 * ((jwF key rc b wd (rc i).2 m 0 false L).2.length - (X 3).length), 405 * ((jwF key rc b wd (rc i).2 m 0 false L).2.length - (X 3).length), cb - 3 * ((jwF key rc b wd (rc i).2 m 0 false L).2.length - (X 3).length), sb - 405 * ((jwF key rc b wd (rc i).2 m 0 false L).2.length - (X 3).length), by omega, by omega, ?_⟩
      refine r_Su_joinWithAll_0 ⟨h.ro, fo, f1, f2, l0, g0, hL0.1, c_isEmpty hL0.1 hL0.2.1 (by omega) ?_⟩
      rw [if_neg (by omega)]
      refine r_Su_joinWithAll_10 ⟨fun _ => ⟨h.ro, fo, f1, f2, l0, g0, hL0.1, c_get (i := 0) hL0 (by omega) (r_Su_joinWithAll_26 ⟨hka.1, ?_⟩)⟩, fun y => absurd rfl y⟩
      refine cc_jwL (fo := false) hwd hb3 m 0 L U K n I F k X R N _ _ _ hik hr3 hka h hB hL (by omega) (Nat.le_refl _) (Nat.le_refl _) (fun K' n' I' F' k' X' R' N' C' hB' hL' hX' hl' ho' => ?_)
      have e0 := hX' 0 (by decide)
      have hxm : xm X' u = xm X u := by unfold xm; rw [e0.2]
      have hmk : m = k' 0 := by rw [e0.1]; exact hm
      by_cases hf : (jwF key rc b wd (rc i).2 m 0 false L).1 = true
      · rw [if_pos hf] at hcb hsb w hw2
        rw [hf]
        refine r_Su_join_102 ⟨fun _ => ?_, fun y => absurd y (by decide)⟩
        rw [nI_1]
        exact cc_jnL hwd ha3 hb3 hkey d (i + 1) _ u K' n' I' F' k' X' R' N' cu _ _ m hmk (by rw [e0.1]; exact hr3) (by rw [hxm]; exact C') hB' hL' (by rw [e0.1]; exact hu) (by omega) (by rw [e0.1]; omega) (by rw [hl']; omega) (by rw [hl']; omega) (fun K2 n2 I2 F2 k2 X2 R2 N2 cu2 C2 hB2 hL2 hX2 hl2 hcu2 ho2 => w K2 n2 I2 F2 k2 X2 R2 N2 cu2 C2 hB2 hL2 (fun j hj => ⟨(hX2 j hj).1.trans (hX' j hj).1, (hX2 j hj).2.trans (hX' j hj).2⟩) (by rw [hl2, hl']; omega) hcu2 (fun j x hj hj3 hx => by
          have o1 := ho' j x hj hj3 hx
          have o2 := ho2 j x hj hj3 (by rw [(hX' j hj3).2]; exact hx)
          exact ⟨o2.1.trans o1.1, o2.2.trans o1.2⟩))
      · rw [if_neg hf] at hcb hsb w hw2
        have hf' : (jwF key rc b wd (rc i).2 m 0 false L).1 = false := by
          cases q : (jwF key rc b wd (rc i).2 m 0 false L).1
          · rfl
          · exact absurd q hf
        rw [hf']
        obtain ⟨y1, y2, y3, y4⟩ := C'.l4
        have hlen := xm_len X u
        have hcul := y2.2.2.1
        have hc0' := y2.cap0
        rw [List.length_append, List.length_singleton] at hw2
        have hzg : u.length = cu → cu < zgrow cu ∧ zgrow cu ≤ 300 := fun q => by
          unfold zgrow; split <;> omega
        have vi4 := (C'.rV (C'.rx (i := 0) (t := i) (by decide) (by rw [e0.1]; exact hik))).1.1
        refine r_Su_join_102 ⟨fun y => absurd rfl y, fun _ => ⟨C'.ro, _, y1, y2.1, (if u.length = cu then 1 else 0), (if u.length = cu then 300 else 0), cb - 3 * ((jwF key rc b wd (rc i).2 m 0 false L).2.length - (X 3).length) - (if u.length = cu then 1 else 0), sb - 405 * ((jwF key rc b wd (rc i).2 m 0 false L).2.length - (X 3).length) - (if u.length = cu then 300 else 0), by split <;> omega, by split <;> omega, ?_⟩⟩
        rw [e0.2] at vi4
        refine aw_c0 (fun hc0 => c_add y2 C'.G (Or.inr (Or.inr (Or.inl vi4))) (by omega) (fun q => ?_) (fun K3 n3 I3 F3 g3 hG3 hL3 _ => r_Su_join_114 ?_))
        · rw [hlen] at q
          rw [if_pos q, if_pos q]
          exact ⟨Nat.le_refl _, (hzg q).2⟩
        · rw [nI_1]
          have exm : xm X u ++ [(X 0).getD i 0] = xm X' (u ++ [i]) := by unfold xm; rw [e0.2]; simp
          rw [exm, hlen] at hL3
          have hk0' := (C'.w (i := 0) (by decide)).2.2.2.1
          have hc3 : (if u.length = cu then zgrow cu else cu) ≤ 300 := by
            by_cases q : u.length = cu
            · rw [if_pos q]; exact (hzg q).2
            · rw [if_neg q]; exact y3
          have C3 := C'.lst4 hc0 g3 hG3 hL3 hc3 (fun x hx => by
            unfold xm at hx
            obtain ⟨j, hj, ej⟩ := List.mem_map.mp hx
            have : j < k 0 := by
              rcases List.mem_append.mp hj with q | q
              · exact hu j q
              · rw [List.mem_singleton.mp q]; exact hik
            rw [← ej]; exact zgetD_mem (by omega))
          refine cc_jnL hwd ha3 hb3 hkey d (i + 1) _ (u ++ [i]) K3 n3 I3 F3 k' X' R' N' _ _ _ m hmk (by rw [e0.1]; exact hr3) C3 hB' hL' (fun j hj => ?_) (by simp; omega) (by rw [e0.1]; omega) ?_ ?_ (fun K2 n2 I2 F2 k2 X2 R2 N2 cu2 C2 hB2 hL2 hX2 hl2 hcu2 ho2 => w K2 n2 I2 F2 k2 X2 R2 N2 cu2 C2 hB2 hL2 (fun j hj => ⟨(hX2 j hj).1.trans (hX' j hj).1, (hX2 j hj).2.trans (hX' j hj).2⟩) (by rw [hl2, hl']; omega) ?_ (fun j x hj hj3 hx => by
            have o1 := ho' j x hj hj3 hx
            have o2 := ho2 j x hj hj3 (by rw [(hX' j hj3).2]; exact hx)
            exact ⟨o2.1.trans o1.1, o2.2.trans o1.2⟩))
          · rw [e0.1]
            rcases List.mem_append.mp hj with q | q
            · exact hu j q
            · rw [List.mem_singleton.mp q]; exact hik
          · rw [hl']
            by_cases q : u.length = cu
            · rw [if_pos q, if_pos q]; have := hzg q; omega
            · rw [if_neg q, if_neg q]; omega
          · rw [hl']
            by_cases q : u.length = cu
            · rw [if_pos q, if_pos q]; have := hzg q; omega
            · rw [if_neg q, if_neg q]; omega
          · by_cases q : u.length = cu
            · rw [if_pos q] at hcu2; have := hzg q; omega
            · rw [if_neg q] at hcu2; exact hcu2
end
section
variable {E : zE} {U : zU} {K n : Nat → Nat} {I : Nat → Nat → Int32} {F : Nat → Nat → Option Nat} {J : Nat → Nat → Int64} {cb sb : Nat} {Q : zO → zH → Prop} {k : Nat → Nat} {X : Nat → List Nat} {R : Nat → List Nat} {N : Nat → Nat × Nat × Nat} {st : zStm} {pu pp : List Nat} {cu cp : Nat} {D Sg : Nat → Int32} {rc : zRec}
/-- join(a, b) -/
theorem cc_join {x y : Int32} (h : CC E U K n I F J k X R N st pu cu pp cp D Sg) (hB : RB k X R N rc) (hr3 : ∀ t, t < k 0 → (rc t).1 < 3)
    (hcb : 3 * ((joinF st rc (k 0) (xN x) (xN y)).1.length - (X 3).length) + ((joinF st rc (k 0) (xN x) (xN y)).2.length - cu) ≤ cb) (hsb : 405 * ((joinF st rc (k 0) (xN x) (xN y)).1.length - (X 3).length) + 300 * ((joinF st rc (k 0) (xN x) (xN y)).2.length - cu) ≤ sb)
    (w1 : ¬ (st.1 ≠ [] ∧ inR x 3 ∧ inR y 3 ∧ x ≠ y) → Q (.inl (some (.int (-1)))) (K, n, I, F, J))
    (w2 : (st.1 ≠ [] ∧ inR x 3 ∧ inR y 3 ∧ x ≠ y) → ∀ K' n' I' F' k' X' R' N' cu', CC E U K' n' I' F' J k' X' R' N' st (xm X' (joinF st rc (k 0) (xN x) (xN y)).2) cu' pp cp D Sg → RB k' X' R' N' rc → cB k' X' R' 3 (joinF st rc (k 0) (xN x) (xN y)).1 → (∀ j, j ≠ 3 → k' j = k j ∧ X' j = X j) → (X' 3).length = max (X 3).length (joinF st rc (k 0) (xN x) (xN y)).1.length → cu ≤ cu' → (joinF st rc (k 0) (xN x) (xN y)).2.length ≤ cu' → (∀ j x, j < 4 → j ≠ 3 → x ∈ X j → R' x = R x ∧ N' x = N x) → Q (.inl (some (.int (nI (joinF st rc (k 0) (xN x) (xN y)).1.length)))) (K', n', I', F', J)) :
    AW E m_Su_join (K, n, I, F, J) cb sb Q 0 [some (.ref (uo U)), some (.int x), some (.int y), none, none, none] [] := by
  obtain ⟨fo, f1, f2, f3⟩ := h.sta
  obtain ⟨-, -, -, -, -, -, -, -, l0, l1, l2, l3, g0, g1, g2, g3, ⟨x0, p0, hL0, hp0, hlen0, hC0⟩, -⟩ := f3
  have b0 := hL0.2.2.1
  have isI : ∀ (z : Int32) (Q' : zO → zH → Prop) (cb' sb' : Nat), (inR z 3 → Q' (.inl (some (.int 1))) (K, n, I, F, J)) → (¬ inR z 3 → Q' (.inl (some (.int 0))) (K, n, I, F, J)) → AW E m_Su_isInput (K, n, I, F, J) cb' sb' Q' 0 [some (.int z)] [] := fun z Q' cb' sb' q1 q2 => by
    refine r_Su_isInput_0 (br_c (fun hx => q2 (fun q => q.1 hx)) (fun hx => ?_))
    obtain ⟨j, hj, e⟩ := nI_of hx
    subst e
    exact pk_le 3 j (fun z => q2 (fun q => by rw [inR_n hj (by decide)] at q; omega)) (fun z => q1 ((inR_n hj (by decide)).mpr z)) rfl rfl (by decide) hj
  refine r_Su_join_0 ⟨h.ro, fo, f1, f2, l0, g0, hL0.1, c_isEmpty hL0.1 hL0.2.1 (by omega) ?_⟩
  by_cases hk0 : st.1 = []
  · rw [hlen0, hk0, if_pos List.length_nil]
    exact r_Su_join_10 ⟨fun _ => w1 (fun q => q.1 hk0), fun z => absurd z (by decide)⟩
  have hkl : 0 < st.1.length := by
    cases e : st.1 with
    | nil => exact absurd e hk0
    | cons a b => simp
  rw [if_neg (by omega)]
  refine r_Su_join_10 ⟨fun z => absurd rfl z, fun _ => isI x _ _ _ (fun hx => ?_) (fun hx => r_Su_join_17 ⟨fun _ => w1 (fun q => hx q.2.1), fun z => absurd rfl z⟩)⟩
  refine r_Su_join_17 ⟨fun z => absurd z (by decide), fun _ => isI y _ _ _ (fun hy => ?_) (fun hy => r_Su_join_24 ⟨fun _ => w1 (fun q => hy q.2.2.1), fun z => absurd rfl z⟩)⟩
  obtain ⟨v1, v2, v3, v4, v5⟩ := h.w (i := 3) (by decide)
  refine r_Su_join_24 ⟨fun z => absurd z (by decide), fun _ => ⟨fun hxy => ⟨h.ro, _, v1, v2, cc_clearW h (by decide) (fun I1 C1 => ?_)⟩, fun hxy => w1 (fun q => q.2.2.2 hxy)⟩⟩
  obtain ⟨y1, y2, y3, y4⟩ := C1.l4
  refine r_Su_join_41 ⟨C1.ro, _, y1, y2.1, aw_c0 (fun hc0 => c_clear y2 C1.G (fun I2 F2 g2 hG2 hL2 => r_Su_join_48 ?_))⟩
  have C2 := C1.lst4 hc0 g2 hG2 hL2 y3 (fun a ha => by cases ha)
  have ek0 : va_up k 3 0 0 = k 0 := va_up_n _ _ (by decide)
  have hB2 : RB (va_up k 3 0) X R N rc := hB.up ek0 rfl (fun _ _ => ⟨rfl, rfl⟩)
  obtain ⟨a, ha, ea, ea2⟩ := inR_e (by decide) hx
  obtain ⟨b, hb, eb, eb2⟩ := inR_e (by decide) hy
  rw [ea2, eb2] at hcb hsb w2
  rw [ea, eb]
  have hl100 : ∀ t, t < k 0 → (rc t).2.length ≤ 100 := fun t ht => by
    have := (h.rV (h.rx (i := 0) (by decide) ht)).1.2.1
    rw [(hB t ht).1] at this; exact this
  have hwd : longF rc a (k 0) 0 0 ≤ 100 := longF_le rc a (k 0) 0 0 (by omega) (fun t ht => hl100 t (by omega))
  refine ⟨C2.ro, r_Su_longestOf_0 (cc_longL C2 hB2 (by rw [ek0]; exact hr3) ha (k 0) 0 0 (by rw [ek0]; omega) (by omega) (r_Su_join_53 ?_))⟩
  obtain ⟨key, hkey⟩ : ∃ key, st.1[0]? = some key := ⟨_, List.getElem?_eq_getElem hkl⟩
  have hhead : st.1.headD (0, 0, false, false) = key := by
    cases e : st.1 with
    | nil => exact absurd e hk0
    | cons a b => rw [e] at hkey; simpa using hkey
  have hjF : joinF st rc (k 0) a b = jnF key rc a b (longF rc a (k 0) 0 0) (k 0) (k 0) 0 [] [] := by unfold joinF; rw [hhead]
  rw [hjF] at hcb hsb w2
  refine cc_jnL hwd ha hb hkey (k 0) 0 [] [] K n I2 F2 _ X R N cu cb sb (k 0) ek0.symm (by rw [ek0]; exact hr3) C2 hB2 ⟨by rw [va_up_s]; rfl, fun t ht => by rw [va_up_s] at ht; omega⟩ (by simp) (by simp) (by rw [ek0]; omega) hcb hsb (fun K' n' I' F' k' X' R' N' cu' C' hB' hL' hX' hl' hcu' ho' => ?_)
  have hcl := C'.l4.2.1.2.2.1
  rw [xm_len] at hcl
  exact w2 ⟨hk0, hx, hy, hxy⟩ K' n' I' F' k' X' R' N' cu' C' hB' hL' (fun j hj => ⟨by rw [(hX' j hj).1, va_up_n _ _ hj], (hX' j hj).2⟩) hl' hcu' hcl ho'
end
