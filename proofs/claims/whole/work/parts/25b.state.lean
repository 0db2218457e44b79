/-- what add costs, what is laid by for it -/
def adC (X : List Nat) (k : Nat) : Nat := if k = X.length then 3 else 0
def adS (X : List Nat) (cap k : Nat) : Nat := if k = X.length then 105 + (if X.length = cap then zgrow cap else 0) else 0
theorem getD_mem_idx {xs : List Nat} {t : Nat} (ht : t < xs.length) : xs.getD t 0 ∈ xs := zgetD_mem ht
theorem nodup_getD {xs : List Nat} (h : xs.Nodup) {i j : Nat} (hi : i < xs.length) (hj : j < xs.length) (e : xs.getD i 0 = xs.getD j 0) : i = j := by
  rw [List.getD_eq_getElem?_getD, List.getD_eq_getElem?_getD, List.getElem?_eq_getElem hi, List.getElem?_eq_getElem hj] at e
  exact (List.getElem_inj h).mp e
section
variable {E : zE} {K n : Nat → Nat} {I : Nat → Nat → Int32} {F : Nat → Nat → Option Nat} {J : Nat → Nat → Int64} {cb sb : Nat} {Q : zO → zH → Prop} {o sg fo hd ns : Nat} {w l cap k : Nat → Nat} {X : Nat → List Nat} {st : zStm}
/-- Rows.add() of one of the four -/
theorem c_gAdd {i : Nat} (h : CG E K n I F o sg fo hd ns w l cap k X) (hS : cSt E K n I F fo st) (hi : i < 4) (hcb : adC (X i) (k i) ≤ cb) (hsb : adS (X i) (cap i) (k i) ≤ sb)
    (w1 : ¬ k i < 150 → Q (.inl (some (va_rf none))) (K, n, I, F, J))
    (w2 : k i < 150 → ∀ K' n' I' F' X' cap' a, CG E K' n' I' F' o sg fo hd ns w l cap' (va_up k i (k i + 1)) X' → cSt E K' n' I' F' fo st → GR (fun c => c = w i ∨ SL K F (l i) c ∨ (k i < (X i).length ∧ c = a)) (K, n, I, F, J) (K', n', I', F', J) → (∀ j, j ≠ i → X' j = X j ∧ cap' j = cap j) → a ∈ X' i → (X' i).getD (k i) 0 = a → (∀ t, t < k i → (X' i).getD t 0 = (X i).getD t 0) → cR K' n' I' F' a [] → (∀ x r, x ≠ a → cR K n I F x r → cR K' n' I' F' x r ∧ I' x = I x) → (∀ j xs c, j < 6 → 4 ≤ j → cL E K n I F (l j) xs c → cL E K' n' I' F' (l j) xs c) →
      ((k i < (X i).length ∧ X' i = X i ∧ cap' i = cap i ∧ ∀ j, j ≠ 1 → I' a j = I a j) ∨ (k i = (X i).length ∧ K a = 0 ∧ X' i = X i ++ [a] ∧ cap' i = (if (X i).length = cap i then zgrow (cap i) else cap i) ∧ I' a 2 = 0 ∧ I' a 3 = 0 ∧ I' a 4 = 1)) → Q (.inl (some (.ref a))) (K', n', I', F', J)) :
    AW E m_Rows_add (K, n, I, F, J) cb sb Q 0 [some (.ref (w i)), none] [] := by
  refine aw_c0 (fun hc0 => ?_)
  obtain ⟨q1, hW⟩ := h.2.2.2.2.1 i hi
  have hG := h.2.1
  have hli := h.lK (i := i) (by omega)
  refine c_rowsAdd hW hG (fun z => ⟨?_, ?_⟩) w1 (fun hk K' n' I' F' xs' cap9 a g hG' hW' ea hr hor => ?_)
  · unfold adC at hcb; rw [if_pos z] at hcb; exact hcb
  · unfold adS at hsb; rw [if_pos z] at hsb; exact hsb
  have hK4 : ∀ {x r}, cR K n I F x r → K x = 4 := fun q => q.1
  rcases hor with ⟨hlt, rfl, rfl, rfl, rfl, rfl, rfl⟩ | ⟨heq, ha0, rfl, rfl, i2, i3, i4⟩
  · -- a row of the store
    obtain ⟨r0, hr0⟩ := h.row hi hlt
    have haX : (X i).getD (k i) 0 ∈ X i := zgetD_mem hlt
    rw [← ea] at hr0 haX
    have ha4 := hr0.1
    have g1 : GR (rowS F' a) (K', n', I, F', J) (K', n', zup I a 1 (0 : Int32), F', J) := fun c _ => ⟨rfl, rfl, fun hn => ⟨zup_n _ _ _ (fun z => hn (Or.inl z)), rfl, rfl⟩⟩
    have hw5 := hW.1
    have hwa : a ≠ w i := fun z => by rw [z] at ha4; omega
    have hr1 : cR K' n' (zup I a 1 (0 : Int32)) F' a [] := by
      obtain ⟨k1, k2, k3, k4, b, k5, k6, k7, k8, k9⟩ := hr0
      have hba : b ≠ a := fun z => by rw [z] at k6; omega
      exact ⟨k1, by simp, by simp, by rw [zup_s]; rfl, b, k5, k6, k7, by simp, fun j hj => by rw [zup_n _ _ _ hba]; exact k9 j hj⟩
    have C1 := h.rowStep ha4 g1 hr1
    obtain ⟨C2, g2⟩ := C1.wStep (J := J) (i := i) (m := k i + 1) hi hlt
    have hS1 := CG.stm hS hG ha4 g1
    have hS2 := hS1.frF g2 hG (fun c _ z => Or.inl (by have hb : c = w i := z; rw [hb]; omega))
    have fr : ∀ x r, x ≠ a → cR K' n' I F' x r → cR K' n' (zup (zup I a 1 (0 : Int32)) (w i) 1 (nI (k i + 1))) F' x r ∧ (zup (zup I a 1 (0 : Int32)) (w i) 1 (nI (k i + 1))) x = I x := fun x r hxa hx => by
      have hx1 := row_fr hx g1 hG ha4 hxa
      have hxw : x ≠ w i := fun z => by have := hx.1; rw [z] at this; omega
      refine ⟨hx1.fr g2 hxw (fun b hb z => by have := hG.2.2.1 x b hx.1 hb; rw [z] at this; omega), ?_⟩
      rw [zup_n _ _ _ hxw, zup_n _ _ _ hxa]
    refine w2 hk K' n' _ F' X cap a C2 hS2 (g.mono (fun c _ z => ?_)) (fun j _ => ⟨rfl, rfl⟩) haX ea.symm (fun t _ => rfl) hr fr (fun j xs c hj hj4 q => ?_) (Or.inl ⟨hlt, rfl, rfl, fun j hj => ?_⟩)
    · rcases z with z | z | z | z
      · exact Or.inl z
      · exact Or.inr (Or.inl (Or.inl z))
      · exact Or.inr (Or.inl (Or.inr z))
      · exact Or.inr (Or.inr ⟨hlt, by rw [ea]; exact z.2⟩)
    · refine q.frN g (fun c _ z => ?_)
      sorry
    · rw [zup_n _ _ _ hwa, zup_k _ _ _ hj]
  · -- a new row
    sorry
end
