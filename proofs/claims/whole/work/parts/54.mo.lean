-- ===== the reference: which records come; outputs =====
/-- the row t of the output o -/
def oR (V : Nat → Nat → Int32) (o t : Nat) (r : List Nat) : Prop := mR V 24 (15000 * o + 100 * t) 25 (150 * o + t) r
def oF (V V' : Nat → Nat → Int32) (o t : Nat) : Prop := ∀ f j, ¬ (f = 24 ∧ 15000 * o + 100 * t ≤ j ∧ j < 15000 * o + 100 * t + 100) → ¬ (f = 25 ∧ j = 150 * o + t) → V' f j = V f j
theorem oF.refl (V : Nat → Nat → Int32) (o t : Nat) : oF V V o t := fun _ _ _ _ => rfl
theorem oF.tr {V V' V'' : Nat → Nat → Int32} {o t : Nat} (h : oF V V' o t) (h' : oF V' V'' o t) : oF V V'' o t := fun f j a b => (h' f j a b).trans (h f j a b)
theorem oR.fr {V V' : Nat → Nat → Int32} {o t o' t' : Nat} {r : List Nat} (h : oR V o' t' r) (hf : oF V V' o t) (ht : t < 150) (ht' : t' < 150) (hne : ¬ (o' = o ∧ t' = t)) : oR V' o' t' r :=
  mR.fr h (hf 25 _ (by omega) (by omega)) (fun j h1 h2 => hf 24 j (by omega) (by omega))
section
variable {E : zE} {B : (Nat → Nat → Int32) × (Nat → Nat → Int64)} {K n : Nat → Nat} {I : Nat → Nat → Int32} {F : Nat → Nat → Option Nat} {J : Nat → Nat → Int64} {m : Nat} {A : Nat → Nat} {V : Nat → Nat → Int32} {T : Nat → Int64} {cb sb : Nat} {Q : zO → zH → Prop}
theorem mo_holds {c i : Nat} {t : zTest} {r : List Nat} (h : MS B K n I F J m A V T) (ht : tR V c t) (hc : c < 10) (hr : mRT V 12 13 i r) (w : Q (.inl (some (.int (zB (tval t r))))) (K, n, I, F, J)) :
    AW E m_Mo_holds (K, n, I, F, J) cb sb Q 0 [some (.ref m), some (.int (nI c)), some (.int (nI i)), none, none, none, none, none, none] [] := by
  have e6 : (6 : Int32) * nI c = nI (6 * c) := pk_mul 6 c
  have L := mo_holdsL (E := E) (cb := cb) (sb := sb) h ht hc hr w _ 0 (Nat.zero_add _) rfl
  obtain ⟨t1, t2, t3, t4, t5, t6, t7⟩ := ht
  obtain ⟨r1, r2⟩ := rR_len t7
  refine r_Mo_holds_0 ⟨h.K9, _, h.f (f := 8) (by decide), h.k (by decide), 6 * c + 2, by rw [e6]; exact nI_add (6 * c) 2, by rw [h.sz (by decide)]; show 6 * c + 2 < 120; omega, by omega, 6 * c + 5, by rw [e6]; exact nI_add (6 * c) 5, by rw [h.sz (by decide)]; show 6 * c + 5 < 120; omega, by omega, ?_⟩
  have r1' : V 8 (6 * c + 5) = nI t.2.2.2.2.2 := r1
  rw [h.a (by decide), t3, r1', e6]
  refine pk_le t.2.1.2.2 t.2.2.2.2.2 (fun q => ?_) (fun q => ?_) rfl rfl (by omega) (by omega)
  · rw [Nat.max_eq_right q] at L; exact L
  · rw [Nat.max_eq_left (by omega)] at L; exact L
theorem mo_comesL {st : zStm} {b : Nat → Bool} {i : Nat} {r : List Nat} (h : MS B K n I F J m A V T) (hS : mB V b st) (hne : st.2.1 ≠ []) (hr : mRT V 12 13 i r) : ∀ (ts : List zTest) (c : Nat) (v : Bool), st.2.1.drop c = ts → 1 ≤ c → c ≤ st.2.1.length →
    Q (.inl (some (.int (zB (tfold r ts v != st.2.2.2.2.1))))) (K, n, I, F, J) →
    AW E m_Mo_comes (K, n, I, F, J) cb sb Q 27 [some (.ref m), some (.int (nI i)), some (.int (zB v)), some (.int (nI c))] []
  | [], c, v, hd, hc1, hc, w => by
    obtain ⟨⟨l1, l2, l3, l4, l5, l6⟩, w1, w2, w3, w4⟩ := hS
    have e : st.2.1.length ≤ c := List.drop_eq_nil_iff.mp hd
    have h10 := l1.1.2.1
    refine r_Mo_comes_27 ⟨h.K9, _, h.f (f := 5) (by decide), h.k (by decide), 2, rfl, by rw [h.sz (by decide)]; decide, by decide, ?_⟩
    rw [h.a (by decide), l2.2.1]
    refine br_t ((nI_leI (by omega) (by omega)).mpr (by omega)) ⟨_, h.f (f := 4) (by decide), h.k (by decide), 1, rfl, by rw [h.sz (by decide)]; decide, by decide, ?_⟩
    rw [h.a (by decide), w1 1 (by decide)]
    have hb12 : b 1 = true ∧ b 2 = false ∨ b 1 = false ∧ b 2 = true := by
      have n1 := fun z => hne (w2.2.1.mpr z)
      have n2 := w2.2.2.2.1
      cases h1 : b 1 <;> cases h2 : b 2
      · exact absurd ⟨h1, h2⟩ n1
      · exact Or.inr ⟨rfl, rfl⟩
      · exact Or.inl ⟨rfl, rfl⟩
      · exact absurd ⟨h1, h2⟩ n2
    have ho := w2.2.2.1
    unfold tfold at w
    rcases hb12 with ⟨q1, q2⟩ | ⟨q1, q2⟩
    · rw [q1]
      rw [← ho, q2] at w
      refine ⟨fun z => absurd z (by decide), fun _ => ⟨zB_01 v, ?_⟩⟩
      cases v <;> exact w
    · rw [q1]
      rw [← ho, q2] at w
      refine ⟨fun _ => ⟨fun z => ?_, fun z => ?_⟩, fun z => absurd (by decide) z⟩
      · cases v
        · exact absurd rfl z
        · exact w
      · cases v
        · exact w
        · exact absurd z (by decide)
  | t :: ts, c, v, hd, hc1, hc, w => by
    obtain ⟨⟨l1, l2, l3, l4, l5, l6⟩, w1, w2, w3, w4⟩ := id hS
    obtain ⟨ef, ed, el⟩ := zdrop_at hd
    have h10 := l1.1.2.1
    obtain ⟨t1, t2⟩ := l4 c t ef
    have e6 : (6 : Int32) * nI c = nI (6 * c) := pk_mul 6 c
    refine r_Mo_comes_27 ⟨h.K9, _, h.f (f := 5) (by decide), h.k (by decide), 2, rfl, by rw [h.sz (by decide)]; decide, by decide, ?_⟩
    rw [h.a (by decide), l2.2.1]
    refine br_f (nI_ge (by omega) (by omega)) ⟨_, h.f (f := 8) (by decide), h.k (by decide), 6 * c, e6, by rw [h.sz (by decide)]; show 6 * c < 120; omega, by omega, ?_⟩
    have hwy := t2 hc1
    unfold wyR at hwy
    rw [h.a (by decide), hwy]
    unfold tfold at w
    have nx : ∀ v' : Bool, v' = (if t.1 then v || tval t r else v && tval t r) → AW E m_Mo_comes (K, n, I, F, J) cb sb Q 27 [some (.ref m), some (.int (nI i)), some (.int (zB v')), some (.int (nI c + (1 : Int32)))] [] := fun v' e => by
      rw [nI_1]
      exact mo_comesL h hS hne hr ts (c + 1) v' ed (by omega) (by omega) (by rw [e]; exact w)
    cases hb : t.1 with
    | false =>
      rw [hb] at nx
      refine ⟨fun z => absurd rfl z, fun _ => ⟨fun z => ?_, fun z => ?_⟩⟩
      · cases v
        · exact nx false (by simp)
        · exact absurd z (by decide)
      · cases v
        · exact absurd rfl z
        · refine mo_holds h t1 (by omega) hr (r_Mo_comes_60 ⟨fun z2 => nx false ?_, fun z2 => nx true ?_⟩)
          · have := (zB_0 _).mp z2; rw [this]; rfl
          · cases hv : tval t r
            · rw [hv] at z2; exact absurd rfl z2
            · rfl
    | true =>
      rw [hb] at nx
      refine ⟨fun _ => ⟨fun z => ?_, fun z => ?_⟩, fun z => absurd z (by decide)⟩
      · cases v
        · exact absurd rfl z
        · exact nx true (by simp)
      · cases v
        · refine mo_holds h t1 (by omega) hr (r_Mo_comes_81 ⟨fun z2 => nx false ?_, fun z2 => nx true ?_⟩)
          · have := (zB_0 _).mp z2; rw [this]; rfl
          · cases hv : tval t r
            · rw [hv] at z2; exact absurd rfl z2
            · rfl
        · exact absurd z (by decide)
theorem mo_comes {st : zStm} {b : Nat → Bool} {i : Nat} {r : List Nat} (h : MS B K n I F J m A V T) (hS : mB V b st) (hr : mRT V 12 13 i r) (w : Q (.inl (some (.int (zB (keepsB st r))))) (K, n, I, F, J)) :
    AW E m_Mo_comes (K, n, I, F, J) cb sb Q 0 [some (.ref m), some (.int (nI i)), none, none] [] := by
  obtain ⟨⟨l1, l2, l3, l4, l5, l6⟩, w1, w2, w3, w4⟩ := id hS
  refine r_Mo_comes_0 ⟨h.K9, _, h.f (f := 4) (by decide), h.k (by decide), 1, rfl, by rw [h.sz (by decide)]; decide, by decide, 2, rfl, by rw [h.sz (by decide)]; decide, by decide, ?_⟩
  rw [h.a (by decide), w1 1 (by decide), w1 2 (by decide)]
  have key : ∀ c d : Bool, (zB c + zB d = 0 ↔ c = false ∧ d = false) := by decide
  unfold keepsB at w
  refine ⟨fun z => ?_, fun z => ?_⟩
  · have hne : st.2.1 ≠ [] := fun y => z ((key _ _).mpr (w2.2.1.mp y))
    cases ht : st.2.1 with
    | nil => exact absurd ht hne
    | cons t ts =>
      rw [ht] at w
      dsimp only at w
      have ef : st.2.1[0]? = some t := by rw [ht]; rfl
      refine mo_holds (c := 0) h (l4 0 t ef).1 (by omega) hr (r_Mo_comes_24 ?_)
      exact mo_comesL h hS hne hr ts 1 _ (by rw [ht]; rfl) (by omega) (by rw [ht]; simp) w
  · have ht : st.2.1 = [] := w2.2.1.mpr ((key _ _).mp z)
    rw [ht] at w
    exact w
theorem mo_put {o t u : Nat} {r : List Nat} (h : MS B K n I F J m A V T) (ho : o < 3) (ht : V 26 o = nI t) (ht1 : t < 150) (hr : oR V o t r) (hu : u < 256)
    (w : ∀ I' V', MS B K n I' F J m A V' T → oR V' o t (zapp r u) → oF V V' o t → Q (.inl none) (K, n, I', F, J)) :
    AW E m_Mo_put (K, n, I, F, J) cb sb Q 0 [some (.ref m), some (.int (nI o)), some (.int (nI u)), none, none] [] := by
  obtain ⟨r1, r2, r3, r4⟩ := id hr
  refine r_Mo_put_0 ⟨h.K9, _, h.f (f := 26) (by decide), h.k (by decide), o, rfl, by rw [h.sz (by decide)]; exact ho, by omega, _, h.f (f := 25) (by decide), h.k (by decide), 150 * o + t, ?_, by rw [h.sz (by decide)]; show 150 * o + t < 450; omega, by omega, ?_⟩
  · rw [h.a (by decide), ht]
    show nI 150 * nI o + nI t = _
    rw [pk_mul, nI_add]
  rw [h.a (by decide), h.a (by decide), r1, ht]
  have e100 : nI r.length = (100 : Int32) ↔ r.length = 100 := nI_eq (a := r.length) (b := 100) (by omega) (by omega)
  unfold zapp at w
  refine ⟨fun z => ⟨_, h.f (f := 24) (by decide), h.k (by decide), 15000 * o + 100 * t + r.length, ?_, ?_, by omega, ?_⟩, fun z => ?_⟩
  · show nI 15000 * nI o + nI 100 * nI t + nI r.length = _
    rw [pk_mul, pk_mul, nI_add, nI_add]
  · have : r.length ≠ 100 := fun y => z (e100.mpr y)
    rw [h.sz (by decide)]; show 15000 * o + 100 * t + r.length < 45000; omega
  · have hl : r.length < 100 := Nat.lt_of_le_of_ne r2 (fun y => z (e100.mpr y))
    rw [if_pos hl] at w
    have h2 := h.up (f := 24) (by decide) (15000 * o + 100 * t + r.length) (nI u)
    have e1 : zup I (A 24) (15000 * o + 100 * t + r.length) (nI u) (A 25) (150 * o + t) + (1 : Int32) = nI (r.length + 1) := by
      rw [h2.a (by decide), zup_n _ _ _ (by decide), r1, nI_1]
    rw [e1]
    refine w _ _ (h2.up (f := 25) (by decide) (150 * o + t) (nI (r.length + 1))) ⟨by rw [zup_s]; simp, by simp; omega, fun y hy => ?_, fun k hk => ?_⟩ (fun f j a1 a2 => ?_)
    · rcases List.mem_append.mp hy with q | q
      · exact r3 y q
      · rw [List.mem_singleton.mp q]; exact hu
    · rw [zup_n _ _ _ (by decide), zup_at]
      simp at hk
      by_cases e : k = r.length
      · subst e
        rw [if_pos ⟨rfl, rfl⟩, zgetD_last]
      · rw [if_neg (fun z => by omega), zgetD_append (by omega)]; exact r4 k (by omega)
    · rw [zup_at, if_neg a2, zup_at, if_neg (fun z => a1 ⟨z.1, by omega, by omega⟩)]
  · have := e100.mp z
    rw [if_neg (by omega)] at w
    exact w I V h hr (oF.refl _ _ _)
theorem mo_begin {o t : Nat} (h : MS B K n I F J m A V T) (ho : o < 3) (ht : V 26 o = nI t) (ht1 : t < 150)
    (w : ∀ I' V', MS B K n I' F J m A V' T → oR V' o t [] → oF V V' o t → Q (.inl none) (K, n, I', F, J)) :
    AW E m_Mo_begin (K, n, I, F, J) cb sb Q 0 [some (.ref m), some (.int (nI o))] [] := by
  refine r_Mo_begin_0 ⟨h.K9, _, h.f (f := 25) (by decide), _, h.f (f := 26) (by decide), h.k (by decide), o, rfl, by rw [h.sz (by decide)]; exact ho, by omega, h.k (by decide), 150 * o + t, ?_, by rw [h.sz (by decide)]; show 150 * o + t < 450; omega, by omega, ?_⟩
  · rw [h.a (by decide), ht]
    show nI 150 * nI o + nI t = _
    rw [pk_mul, nI_add]
  · refine w _ _ (h.up (f := 25) (by decide) (150 * o + t) 0) ⟨by rw [zup_s]; rfl, by simp, by simp, by simp⟩ (fun f j a1 a2 => ?_)
    rw [zup_at, if_neg a2]
end
