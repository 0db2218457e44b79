-- ===== the law from its beginning =====
theorem mSt0 : mSt (fun _ _ => (0 : Int32)) stm0 := by
  refine ⟨fun _ => false, ⟨⟨⟨by decide, by decide, by decide, by decide⟩, fun f hf => (by cases hf)⟩, ⟨rfl, rfl, rfl, rfl⟩, fun i k h => (by cases h), fun i k h => (by cases h), fun i k h => (by cases h), fun i k h => (by cases h)⟩, fun k _ => rfl, ⟨⟨fun _ => rfl, fun _ => rfl⟩, ⟨fun _ => ⟨rfl, rfl⟩, fun _ => rfl⟩, rfl, (fun z => by cases z.1), ⟨fun _ => rfl, fun _ => rfl⟩, ⟨fun _ => rfl, fun _ => rfl⟩, fun _ => rfl, fun _ => rfl⟩, ⟨fun z => (by cases z), fun z => (by cases z), by decide, by decide⟩, rfl⟩
theorem MV0 : MV (fun _ _ => (0 : Int32)) (fun _ => 0) 0 stm0 (fun _ => (0, [])) 0 [] [] [] [] 0 false 0 :=
  ⟨⟨rfl, by decide, fun i hi => absurd hi (Nat.not_lt_zero _)⟩, mSt0, ⟨⟨rfl, by decide, fun i hi => absurd hi (Nat.not_lt_zero _)⟩, fun _ _ _ => rfl⟩, ⟨⟨rfl, fun i hi => absurd hi (Nat.not_lt_zero _)⟩, by decide⟩, ⟨⟨rfl, fun i hi => absurd hi (Nat.not_lt_zero _)⟩, by decide⟩, ⟨⟨rfl, fun i hi => absurd hi (Nat.not_lt_zero _)⟩, by decide⟩, ⟨rfl, by decide, fun i hi => absurd hi (Nat.not_lt_zero _)⟩, by decide, rfl, rfl, rfl⟩
theorem AB0 : AB (fun _ => 0) (fun _ => []) (fun _ => []) (fun _ => (0, 0, 1)) [] 0 0 (fun _ => (0 : Int32)) (fun _ => (0 : Int32)) (fun _ => 0) 0 (fun _ => (0, [])) 0 [] [] [] [] 0 false 0 2100 333000 :=
  ⟨⟨rfl, fun i hi => absurd hi (Nat.not_lt_zero _)⟩, ⟨rfl, rfl, fun i hi => absurd hi (Nat.not_lt_zero _)⟩, ⟨⟨rfl, fun i hi => absurd hi (Nat.not_lt_zero _)⟩, ⟨rfl, fun i hi => absurd hi (Nat.not_lt_zero _)⟩, ⟨rfl, fun i hi => absurd hi (Nat.not_lt_zero _)⟩⟩, ⟨rfl, fun j hj => (by cases hj)⟩, ⟨rfl, rfl, rfl⟩, by decide, by decide⟩
section
variable {E : zE} {K n : Nat → Nat} {I : Nat → Nat → Int32} {F : Nat → Nat → Option Nat} {J : Nat → Nat → Int64} {cb sb a0 : Nat} {Q : zO → zH → Prop}
theorem law_all (hG : HG E K F) (hlen : E.2.1 15 ≤ 2048) (ha0 : a0 = E.2.1 14) (hcb : 601024 ≤ cb) (hsb : 7293034 ≤ sb) (w : ∀ h, Q (.inl (some (.int 1))) h) : AW E m_Law_law (K, n, I, F, J) cb sb Q 0 [some (.ref a0), none, none, none, none] [] := by
  refine r_Law_law_0 ⟨cb - 1, sb - 15, by omega, by omega, fun o ho => ?_⟩
  refine r_Law_law_3 ⟨20, 700, cb - 21, sb - 715, by omega, by omega, ?_⟩
  refine cc_init (va_up_s _ _ _) (va_up_s _ _ _) (hG.new 8 ho) (Nat.le_refl _) (Nat.le_refl _) (fun U K1 n1 I1 F1 J1 eo C => ?_)
  refine r_Law_law_7 ⟨cb - 22, sb - 757, by omega, by omega, fun m hm => ?_⟩
  have C2 := C.other (GR.newO (S := fun _ => False) (J := J1) (n := n1) hm 9 (fun _ => 0) (fun _ => none)) (C.G.new 9 hm) (fun a _ z => z.elim)
  refine r_Law_law_11 ⟨40, 79775, cb - 62, sb - 80532, by omega, by omega, ?_⟩
  refine mo_init (va_up_s _ _ _) (va_up_s _ _ _) C2.G (Nat.le_refl _) (Nat.le_refl _) (fun K3 n3 I3 F3 J3 A T hG3 g hA hA39 hS => ?_)
  obtain ⟨k1, k2⟩ := C2.sK
  have hmK : va_up K1 m 9 m = 9 := va_up_s _ _ _
  have ms : m ≠ usg U := fun z => by
    have k1' : va_up K1 m 9 (usg U) = 21 := k1
    rw [← z] at k1'; omega
  have mn : m ≠ uns U := fun z => by
    have k2' : va_up K1 m 9 (uns U) = 22 := k2
    rw [← z] at k2'; omega
  have C3 := C2.other g hG3 (fun a _ z => by
    rw [z]
    exact ⟨Or.inl (va_up_s _ _ _), ms, mn⟩)
  refine r_Law_law_15 ?_
  have e1 : uo U = U.2.1 := rfl
  rw [← eo]
  refine law_loop (Uo := U.2) (m := m) (A := A) hlen ha0 w 512 0 K3 n3 I3 F3 J3 (fun _ => 0) 0 stm0 (fun _ => (0, [])) 0 [] [] [] [] 0 false 0 2100 333000 _ _ (by omega) (by omega) ⟨⟨_, _, _, _, _, _, _, _, _, _, C3, AB0⟩, ⟨_, T, hS, trivial, MV0⟩, fun a z => ?_⟩ (by omega) (by omega)
  rcases z with z | ⟨f, hf, z⟩ | z
  · rw [z]; exact ⟨ms, mn⟩
  · have := hA f hf
    refine ⟨fun y => ?_, fun y => ?_⟩
    · have k1' : va_up K1 m 9 (usg U) = 21 := k1
      rw [show usg U = A f from y.symm.trans z, this] at k1'; cases k1'
    · have k2' : va_up K1 m 9 (uns U) = 22 := k2
      rw [show uns U = A f from y.symm.trans z, this] at k2'; cases k2'
  · refine ⟨fun y => ?_, fun y => ?_⟩
    · have k1' : va_up K1 m 9 (usg U) = 21 := k1
      rw [show usg U = A 39 from y.symm.trans z, hA39] at k1'; cases k1'
    · have k2' : va_up K1 m 9 (uns U) = 22 := k2
      rw [show uns U = A 39 from y.symm.trans z, hA39] at k2'; cases k2'
end
