-- ===== the class's small doings =====
theorem zup_row {α : Type} (f : Nat → Nat → α) (a k : Nat) (v : α) : zup f a k v a = va_up (f a) k v := by
  funext j
  rw [zup_at]
  by_cases h : j = k <;> simp [va_up, h]
section
variable {E : zE} {U : zU} {K n : Nat → Nat} {I I' : Nat → Nat → Int32} {F : Nat → Nat → Option Nat} {J : Nat → Nat → Int64} {cb sb : Nat} {Q : zO → zH → Prop} {k : Nat → Nat} {X : Nat → List Nat} {R : Nat → List Nat} {N : Nat → Nat × Nat × Nat} {st : zStm} {pu pp : List Nat} {cu cp : Nat} {D Sg : Nat → Int32}
theorem CC.sgI (h : CC E U K n I F J k X R N st pu cu pp cp D Sg) (g : ∀ a, a ≠ usg U → I' a = I a) : CC E U K n I' F J k X R N st pu cu pp cp D (I' (usg U)) := by
  obtain ⟨cap, fo, h1, h2, h3, h4, h5, h6, h7, h8⟩ := h
  have hG := h1.2.1
  have ho := h1.1
  have hs := h1.2.2.1.2.1
  have gr : GR (fun a => a = usg U) (K, n, I, F, J) (K, n, I', F, J) := fun a _ => ⟨rfl, rfl, fun hn => ⟨g a hn, rfl, rfl⟩⟩
  have hK : ∀ a, a = usg U → K a = 21 := fun a z => by rw [z]; exact hs
  have fr : ∀ x r, cR K n I F x r → cR K n I' F x r := fun x r hx => hx.fr gr (fun z => by have := hK x z; have := hx.1; omega) (fun b hb z => by have := hG.2.2.1 x b hx.1 hb; have := hK b z; omega)
  have C : CG E K n I' F (uo U) (usg U) fo (uhd U) (uns U) (uw U) (ul U) cap k X := by
    obtain ⟨g1, g2, g3, g4, g5, g6, g7, g8, g9, g10, g11, g12, g13, g14⟩ := h1
    refine ⟨g1, g2, g3, g4, fun i hi => ?_, g6, ⟨g7.1, ?_⟩, g8, g9, g10, g11, g12, g13, g14⟩
    · obtain ⟨q1, q2⟩ := g5 i hi
      refine ⟨q1, q2.frX gr (fun z => by have := hK _ z; have := q2.1; omega) (fun z => by have := hK _ z; have := q2.2.2.1.1; omega) (fun e _ hk z => by have := hK _ z; omega) (fun x hx => ?_)⟩
      obtain ⟨r, hr⟩ := q2.2.2.2.2.2.2.2 x hx
      exact ⟨r, fr x r hr⟩
    · obtain ⟨r, hr⟩ := g7.2
      exact ⟨r, fr _ r hr⟩
  refine ⟨cap, fo, C, h2.frF gr hG (fun a _ z => Or.inl (by have := hK a z; omega)), h3.frN gr (fun a _ z => by have := hK a z; omega), h4.frN gr (fun a _ z => by have := hK a z; omega), h5, ⟨?_, rfl⟩, CC.bs h7 gr (fun a _ z => ⟨by have := hK a z; omega, Or.inr (Or.inl z)⟩), fun x hx => ?_⟩
  · rw [g _ (fun z => by have := hK _ z; omega)]; exact h6.1
  · obtain ⟨v1, v2⟩ := h8 x hx
    refine ⟨fr x _ v1, ?_⟩
    rw [g x (fun z => by have := hK x z; have := v1.1; omega)]; exact v2
/-- sign(c) -/
theorem cc_sign {x : Int32} {L : Nat} (h : CC E U K n I F J k X R N st pu cu pp cp D Sg) (hL : D 1 = nI L) (hL5 : L ≤ 500) (w1 : L = 500 → Q (.inl none) (K, n, I, F, J)) (w2 : L < 500 → ∀ I', CC E U K n I' F J k X R N st pu cu pp cp (va_up D 1 (nI (L + 1))) (va_up Sg L x) → Q (.inl none) (K, n, I', F, J)) :
    AW E m_Su_sign (K, n, I, F, J) cb sb Q 0 [some (.ref (uo U)), some (.int x)] [] := by
  refine r_Su_sign_0 ⟨h.ro, ?_⟩
  have hs : F (uo U) 0 = some (usg U) ∧ K (usg U) = 21 ∧ n (usg U) = 500 ∧ I (usg U) = Sg := by
    obtain ⟨cap, fo, h1, h2, h3, h4, h5, h6, h7, h8⟩ := h
    exact ⟨h1.2.2.1.1, h1.2.2.1.2.1, h1.2.2.1.2.2, h6.2⟩
  have ho := h.ro
  have hos : uo U ≠ usg U := fun z => by rw [z] at ho; omega
  rw [h.oD, hL]
  refine pk_le 500 L (fun z => w1 (by omega)) (fun z => ⟨usg U, hs.1, hs.2.1, L, rfl, by omega, by omega, ?_⟩) rfl rfl (by omega) (by omega)
  rw [zup_n _ _ _ hos, h.oD, hL, nI_1]
  have c1 := h.sgI (I' := zup I (usg U) L x) (fun a ha => zup_n _ _ _ ha)
  have c2 := c1.oI (I' := zup (zup I (usg U) L x) (uo U) 1 (nI (L + 1))) (fun a ha => zup_n _ _ _ ha)
  rw [zup_row, zup_row, zup_n _ _ _ hos, h.oD, hs.2.2.2] at c2
  exact w2 z _ c2
/-- exit(does, stops) -/
theorem cc_exit {x y : Int32} (h : CC E U K n I F J k X R N st pu cu pp cp D Sg) (hy : y = 0 ∨ y = 1) (w1 : ¬ inR x 3 → Q (.inl (some (.int (-1)))) (K, n, I, F, J)) (w2 : inR x 3 → ∀ I', CC E U K n I' F J k X R N st pu cu pp cp (va_up (va_up D 8 x) 9 y) Sg → Q (.inl (some (.int (D 8)))) (K, n, I', F, J)) :
    AW E m_Su_exit (K, n, I, F, J) cb sb Q 0 [some (.ref (uo U)), some (.int x), some (.int y), none] [] := by
  refine r_Su_exit_0 (br_c (fun hx => w1 (fun z => z.1 hx)) (fun hx => ?_))
  obtain ⟨j, hj, e⟩ := nI_of hx
  subst e
  refine pk_le j 2 (fun z => ⟨h.ro, hy, ?_⟩) (fun z => w1 (fun q => by rw [inR_n hj (by decide)] at q; omega)) rfl rfl hj (by decide)
  have c1 := h.oI (I' := zup (zup I (uo U) 8 (nI j)) (uo U) 9 y) (fun a ha => by rw [zup_n _ _ _ ha, zup_n _ _ _ ha])
  rw [zup_row, zup_row, h.oD] at c1
  rw [h.oD]
  exact w2 ((inR_n hj (by decide)).mpr (by omega)) _ c1
/-- record(input) -/
theorem cc_record {x : Int32} (h : CC E U K n I F J k X R N st pu cu pp cp D Sg) (hk : (X 0).length = k 0) (hb : inR x 3 → k 0 < 150 → 3 ≤ cb ∧ 405 ≤ sb) (w1 : ¬ (inR x 3 ∧ k 0 < 150) → Q (.inl (some (.int (-1)))) (K, n, I, F, J))
    (w2 : inR x 3 → k 0 < 150 → ∀ K' n' I' F' X' N' a, CC E U K' n' I' F' J (va_up k 0 (k 0 + 1)) X' (va_up R a []) N' st pu cu pp cp D Sg → (∀ x, x ≠ a → N' x = N x) → N' a = (xN x, k 0, 1) → (∀ j, j ≠ 0 → X' j = X j) → (X' 0).getD (k 0) 0 = a → (∀ t, t < k 0 → (X' 0).getD t 0 = (X 0).getD t 0) → (X' 0).length = k 0 + 1 → Q (.inl (some (.int (nI (k 0))))) (K', n', I', F', J)) :
    AW E m_Su_record (K, n, I, F, J) cb sb Q 0 [some (.ref (uo U)), some (.int x), none, none] [] := by
  obtain ⟨u1, u2, u3, u4, u5⟩ := h.w (i := 0) (by decide)
  have key : ∀ y : Int32, (y = 1 ∧ inR x 3) ∨ (y = 0 ∧ ¬ inR x 3) → AW E m_Su_record (K, n, I, F, J) cb sb Q 4 [some (.ref (uo U)), some (.int x), none, none] [.int y] := fun y hy => by
    refine r_Su_record_4 ⟨fun hy0 => ?_, fun hy0 => ?_⟩
    · have hx : inR x 3 := by
        rcases hy with q | q
        · exact q.2
        · exact absurd q.1 hy0
      refine ⟨h.ro, _, u1, u2, cb, sb, 0, 0, by omega, by omega, ?_⟩
      rw [u3]
      refine cc_add h (by decide) (fun z _ => hb hx z) (fun z => ?_) (fun z K' n' I' F' X' N' a C hN hX ea et hl hor => ?_)
      · exact r_Su_record_24 (sr0 := none) ⟨fun _ => w1 (fun q => z q.2), fun z1 e => by cases e⟩
      · refine r_Su_record_24 (sr0 := some a) ⟨fun e => (by cases e), fun z1 e => ?_⟩
        cases e
        have haX : rws U X' a := by rw [← ea]; exact C.rx (i := 0) (by decide) (by rw [va_up_s]; omega)
        have hNa : N' a = (0, 0, 1) := by
          rcases hor with q | q
          · omega
          · exact q.2
        obtain ⟨r1, r2, r3, r4⟩ := C.rV haX
        rw [va_up_s] at r1
        rw [hNa] at r4
        have g : GR (rowS F' a) (K', n', I', F', J) (K', n', zup (zup I' a 2 x) a 3 (nI (k 0)), F', J) := fun c _ => ⟨rfl, rfl, fun hn => ⟨by show zup _ _ _ _ c = I' c; rw [zup_n _ _ _ (fun z => hn (Or.inl z)), zup_n _ _ _ (fun z => hn (Or.inl z))], rfl, rfl⟩⟩
        have hr' : cR K' n' (zup (zup I' a 2 x) a 3 (nI (k 0))) F' a [] := by
          obtain ⟨k1, k2, k3, k4, b, k5, k6, k7, k8, k9⟩ := r1
          have hba : b ≠ a := fun z => by rw [z] at k6; omega
          exact ⟨k1, k2, k3, by rw [zup_k _ _ _ (by decide), zup_k _ _ _ (by decide)]; exact k4, b, k5, k6, k7, by simp, fun j hj => by rw [zup_n _ _ _ hba, zup_n _ _ _ hba]; exact k9 j hj⟩
        obtain ⟨j, hj, ex, ex2⟩ := inR_e (by decide) hx
        have C2 := C.row haX g (r' := []) (t := (xN x, k 0, 1)) ⟨hr', by rw [zup_k _ _ _ (by decide), zup_s, ex2]; exact ex, by rw [zup_s], by rw [zup_k _ _ _ (by decide), zup_k _ _ _ (by decide)]; exact r4⟩
        rw [va_up2] at C2
        refine ⟨r1.1, w2 hx z K' n' _ F' X' _ a C2 (fun y hy => by rw [va_up_n _ _ hy]; exact hN y hy) (va_up_s _ _ _) hX ea et (by rw [hl, hk]; omega)⟩
    · refine w1 (fun q => ?_)
      rcases hy with p | p
      · rw [p.1] at hy0; exact absurd hy0 (by decide)
      · exact p.2 q.1
  refine r_Su_record_0 (r_Su_isInput_0 (br_c (fun hx => key 0 (Or.inr ⟨rfl, fun q => q.1 hx⟩)) (fun hx => ?_)))
  obtain ⟨j, hj, e⟩ := nI_of hx
  subst e
  exact pk_le 3 j (fun z => key 0 (Or.inr ⟨rfl, fun q => by rw [inR_n hj (by decide)] at q; omega⟩)) (fun z => key 1 (Or.inl ⟨rfl, (inR_n hj (by decide)).mpr z⟩)) rfl rfl (by decide) hj
/-- octet(record, i, b) -/
theorem cc_octet {x y z : Int32} (h : CC E U K n I F J k X R N st pu cu pp cp D Sg) (hcb : 1 ≤ cb) (hsb : 6 ≤ sb) (w1 : ¬ (inR x (k 0) ∧ inR y 100) → Q (.inr "java/lang/ArrayIndexOutOfBoundsException") (K, n, I, F, J))
    (w2 : inR x (k 0) → inR y 100 → ∀ I' a, a = (X 0).getD (xN x) 0 → CC E U K n I' F J k X (va_up R a (zput (R a) (xN y) (z.toBitVec.toNat % 256))) N st pu cu pp cp D Sg → Q (.inl none) (K, n, I', F, J)) :
    AW E m_Su_octet (K, n, I, F, J) cb sb Q 0 [some (.ref (uo U)), some (.int x), some (.int y), some (.int z), none] [] := by
  obtain ⟨u1, u2, u3, u4, u5⟩ := h.w (i := 0) (by decide)
  have hk := h.k31 (i := 0) (by decide)
  refine r_Su_octet_0 ⟨h.ro, _, u1, u2, cc_at h (by decide) (fun hx => ?_) (fun hx => ?_)⟩
  · refine r_Su_octet_8 (sr0 := some _) ⟨fun e => (by cases e), fun z1 e => ?_⟩
    cases e
    obtain ⟨t, ht, ex, ex2⟩ := inR_e (by omega) hx
    refine br_c (fun hy => ⟨hcb, hsb, w1 (fun q => q.2.1 hy)⟩) (fun hy => ?_)
    obtain ⟨j, hj, e⟩ := nI_of hy
    subst e
    have haX := h.rx (i := 0) (by decide) ht
    obtain ⟨r1, r2⟩ := h.rV haX
    refine pk_lt j 100 (fun hl => ⟨by rw [ex2]; exact r1.1, ?_⟩) (fun hl => ⟨hcb, hsb, w1 (fun q => by have := q.2; rw [inR_n hj (by decide)] at this; omega)⟩) rfl rfl hj (by decide)
    rw [ex2]
    refine c_put r1 hl (fun I' g gi hr' => r_Su_octet_42 ?_)
    have C := h.row haX (g.mono (fun _ _ q => q)) (t := N ((X 0).getD t 0)) ⟨hr', by rw [gi 2 (by decide)]; exact r2.1, by rw [gi 3 (by decide)]; exact r2.2.1, by rw [gi 4 (by decide)]; exact r2.2.2⟩
    have e : va_up N ((X 0).getD t 0) (N ((X 0).getD t 0)) = N := by
      funext q
      by_cases hq : q = (X 0).getD t 0
      · rw [hq, va_up_s]
      · rw [va_up_n _ _ hq]
    rw [e] at C
    refine w2 hx ((inR_n hj (by decide)).mpr hl) I' _ (by rw [ex2]) ?_
    rw [xN_n hj]
    exact C
  · refine r_Su_octet_8 (sr0 := none) ⟨fun _ => ⟨hcb, hsb, w1 (fun q => hx q.1)⟩, fun z1 e => by cases e⟩
end
