/-- new statements, the first j lists are there -/
def stL (E : zE) (Kp K n : Nat → Nat) (I : Nat → Nat → Int32) (F : Nat → Nat → Option Nat) (fo j : Nat) : Prop :=
  K fo = 6 ∧ Kp (E.2.1 10) = 0 ∧ (∀ a, Kp a ≠ 0 → K a ≠ 0) ∧ HG E K F ∧ (∀ i, i < j → ∃ l, F fo i = some l ∧ Kp l = 0 ∧ cL E K n I F l [] 0) ∧ ∀ i i' l, i < j → i' < j → F fo i = some l → F fo i' = some l → i = i'
section
variable {E : zE} {Kp K n K' n' : Nat → Nat} {I I' : Nat → Nat → Int32} {F F' : Nat → Nat → Option Nat} {J J' : Nat → Nat → Int64} {fo j l : Nat}
theorem stL.new (h : stL E Kp K n I F fo j) (g : GR (fun _ => False) (K, n, I, F, J) (K', n', I', F', J')) (hG' : HG E K' F') : stL E Kp K' n' I' F' fo j := by
  obtain ⟨h1, h2, h3, h4, h5, h6⟩ := h
  have ff : F' fo = F fo := (g.f (by omega) id).2.1
  refine ⟨by rw [g.k (by omega)]; exact h1, h2, fun a ha => by rw [g.k (h3 a ha)]; exact h3 a ha, hG', fun i hi => ?_, fun i i' l hi hi' => ?_⟩
  · obtain ⟨l, l1, l2, l3⟩ := h5 i hi
    exact ⟨l, by rw [ff]; exact l1, l2, l3.fr g id (fun e _ _ => id)⟩
  · rw [ff]; exact h6 i i' l hi hi'
theorem stL.add (h : stL E Kp K n I F fo j) (hl : cL E K n I F l [] 0) (hp : Kp l = 0) (hno : ∀ i, i < j → F fo i ≠ some l) : stL E Kp K n I (zup F fo j (some l)) fo (j + 1) := by
  obtain ⟨h1, h2, h3, h4, h5, h6⟩ := h
  have g : GR (fun a => a = fo) (K, n, I, F, fun _ _ => (0 : Int64)) (K, n, I, zup F fo j (some l), fun _ _ => (0 : Int64)) := fun a _ => ⟨rfl, rfl, fun hn => ⟨rfl, zup_n _ _ _ hn, rfl⟩⟩
  have fr : ∀ {l'}, cL E K n I F l' [] 0 → cL E K n I (zup F fo j (some l)) l' [] 0 := fun {l'} q => q.fr g (fun z => by have := q.1; rw [z] at this; omega) (fun e _ hk z => by rw [z] at hk; omega)
  refine ⟨h1, h2, h3, h4.put fo j _ (by omega) (by omega) (by omega), fun i hi => ?_, fun i i' l' hi hi' e e' => ?_⟩
  · by_cases q : i = j
    · subst q; exact ⟨l, zup_s _ _ _ _, hp, fr hl⟩
    · obtain ⟨l', l1, l2, l3⟩ := h5 i (by omega)
      exact ⟨l', by rw [zup_k _ _ _ q]; exact l1, l2, fr l3⟩
  · by_cases q : i = j <;> by_cases q' : i' = j
    · omega
    · subst q
      rw [zup_s] at e
      rw [zup_k _ _ _ q', ← Option.some.inj e] at e'
      exact absurd e' (hno i' (by omega))
    · subst q'
      rw [zup_s] at e'
      rw [zup_k _ _ _ q, ← Option.some.inj e'] at e
      exact absurd e (hno i (by omega))
    · rw [zup_k _ _ _ q] at e
      rw [zup_k _ _ _ q'] at e'
      exact h6 i i' l' (by omega) (by omega) e e'
end
section
variable {E : zE} {K n : Nat → Nat} {I : Nat → Nat → Int32} {F : Nat → Nat → Option Nat} {J : Nat → Nat → Int64} {cb sb : Nat} {Q : zO → zH → Prop}
/-- new Statements(): its <init> -/
theorem c_stmInit {fo : Nat} (hfo : K fo = 6) (hG : HG E K F) (hcb : 4 ≤ cb) (hsb : 12 ≤ sb)
    (w : ∀ K' n' I' F', GR (fun a => a = fo) (K, n, I, F, J) (K', n', I', F', J) → HG E K' F' → cSt E K' n' I' F' fo stm0 → fF K K' F' fo → Q (.inl none) (K', n', I', F', J)) :
    AW E m_Statements_init (K, n, I, F, J) cb sb Q 0 [some (.ref fo)] [] := by
  refine aw_c0 (fun hc0 => ?_)
  have S0 : stL E K K n I F fo 0 := ⟨hfo, hc0, fun _ h => h, hG, fun i hi => by omega, fun i i' l hi => by omega⟩
  -- one list more
  have step : ∀ {K1 n1 : Nat → Nat} {I1 : Nat → Nat → Int32} {F1 : Nat → Nat → Option Nat} {l j : Nat}, stL E K K1 n1 I1 F1 fo j → K1 l = 0 → GR (fun a => a = fo) (K, n, I, F, J) (K1, n1, I1, F1, J) →
      ∀ {Q' : zO → zH → Prop} {cb sb : Nat}, (∀ I2 F2, stL E K (va_up K1 l 10) n1 I2 F2 fo j → stL E K (va_up K1 l 10) n1 I2 (zup F2 fo j (some l)) fo (j + 1) → GR (fun a => a = fo) (K, n, I, F, J) (va_up K1 l 10, n1, I2, zup F2 fo j (some l), J) → va_up K1 l 10 fo = 6 → Q' (.inl none) (va_up K1 l 10, n1, I2, F2, J)) →
      AW E m_ArrayList_init (va_up K1 l 10, n1, va_up I1 l (fun _ => 0), va_up F1 l (fun _ => none), J) cb sb Q' 0 [some (.ref l)] [] := by
    intro K1 n1 I1 F1 l j S hl g Q' cb sb w
    refine c_newList (M := m_Rows_init) (pc := 0) (lv := []) (st := []) S.2.2.2.1 hl (Nat.zero_le _) (fun I2 F2 _ g2 hG2 hL2 => ?_)
    have S2 := S.new g2 hG2
    have hKl : K l = 0 := Nat.eq_zero_of_not_pos (fun z => S.2.2.1 l (by omega) hl)
    have hno : ∀ i, i < j → F2 fo i ≠ some l := fun i hi e => by
      obtain ⟨l', l1, l2, l3⟩ := S.2.2.2.2.1 i hi
      have ff : F2 fo = F1 fo := (g2.f (by have := S.1; omega) id).2.1
      rw [ff, l1] at e
      have := l3.1
      rw [Option.some.inj e, hl] at this
      cases this
    have S3 := S2.add hL2 hKl hno
    refine w I2 F2 S2 S3 ?_ S2.1
    refine GR.trans (g.trans (g2.mono (fun _ _ z => z.elim)) (fun _ _ z => z)) (S' := fun a => a = fo) (fun a _ => ⟨rfl, rfl, fun hn => ⟨rfl, zup_n _ _ _ hn, rfl⟩⟩) (fun _ _ z => z)
  refine r_Statements_init_0 ⟨3, 9, by omega, by omega, fun l0 h0 => r_Statements_init_8 (step S0 h0 (GR.refl _) (fun I1 F1 S1 T1 g1 k1 => r_Statements_init_12 ⟨k1, 2, 6, by omega, by omega, fun l1 h1 => ?_⟩))⟩
  refine r_Statements_init_19 (step T1 h1 g1 (fun I2 F2 S2 T2 g2 k2 => r_Statements_init_23 ⟨k2, 1, 3, by omega, by omega, fun l2 h2 => ?_⟩))
  refine r_Statements_init_30 (step T2 h2 g2 (fun I3 F3 S3 T3 g3 k3 => r_Statements_init_34 ⟨k3, 0, 0, by omega, by omega, fun l3 h3 => ?_⟩))
  refine r_Statements_init_41 (step T3 h3 g3 (fun I4 F4 S4 T4 g4 k4 => r_Statements_init_45 ⟨k4, k4, ?_⟩))
  generalize va_up (va_up (va_up (va_up K l0 10) l1 10) l2 10) l3 10 = K4 at *
  generalize zup F4 fo 3 (some l3) = F5 at *
  have g5 : GR (fun a => a = fo) (K4, n, I4, F5, J) (K4, n, zup (zup (zup (zup I4 fo 4 (0 : Int32)) fo 5 (0 : Int32)) fo 6 (9999 : Int32)) fo 7 (0 : Int32), F5, J) := fun a _ => ⟨rfl, rfl, fun hn => ⟨by show zup _ _ _ _ a = I4 a; rw [zup_n _ _ _ hn, zup_n _ _ _ hn, zup_n _ _ _ hn, zup_n _ _ _ hn], rfl, rfl⟩⟩
  obtain ⟨t1, t2, t3, t4, t5, t6⟩ := T4
  obtain ⟨m0, a0, b0, c0⟩ := t5 0 (by omega)
  obtain ⟨m1, a1, b1, c1⟩ := t5 1 (by omega)
  obtain ⟨m2, a2, b2, c2⟩ := t5 2 (by omega)
  obtain ⟨m3, a3, b3, c3⟩ := t5 3 (by omega)
  have fr : ∀ {l'}, cL E K4 n I4 F5 l' [] 0 → cL E K4 n (zup (zup (zup (zup I4 fo 4 (0 : Int32)) fo 5 (0 : Int32)) fo 6 (9999 : Int32)) fo 7 (0 : Int32)) F5 l' [] 0 := fun {l'} q => q.fr g5 (fun z => by have := q.1; rw [z] at this; omega) (fun e _ hk z => by rw [z] at hk; omega)
  have em : ∀ {α : Type} {C : Nat → α → Prop} {l'}, cL E K4 n I4 F5 l' [] 0 → cA E K4 n (zup (zup (zup (zup I4 fo 4 (0 : Int32)) fo 5 (0 : Int32)) fo 6 (9999 : Int32)) fo 7 (0 : Int32)) F5 C l' [] := fun q => ⟨[], 0, fr q, by omega, rfl, fun i t ht => by simp at ht⟩
  refine w K4 n _ F5 (g4.trans g5 (fun _ _ z => z)) t4 ⟨t1, ?_, ?_, ?_, ?_, by decide, by decide, by decide, m0, m1, m2, m3, a0, a1, a2, a3, em c0, em c1, em c2, em c3⟩ ⟨t6, fun i l hi hl => ?_⟩
  · rw [zup_k _ _ _ (by decide), zup_k _ _ _ (by decide), zup_k _ _ _ (by decide), zup_s]; rfl
  · rw [zup_k _ _ _ (by decide), zup_k _ _ _ (by decide), zup_s]; rfl
  · rw [zup_k _ _ _ (by decide), zup_s]; rfl
  · rw [zup_s]; rfl
  · obtain ⟨l', x1, x2, x3⟩ := t5 i hi
    cases hl.symm.trans x1
    refine ⟨x3.1, x2, fun e he _ => ?_⟩
    obtain ⟨-, -, -, -, -, e', y1, y2, -⟩ := x3
    cases he.symm.trans y1
    rcases y2 with y2 | y2
    · omega
    · rw [y2.1]; exact hc0
end
