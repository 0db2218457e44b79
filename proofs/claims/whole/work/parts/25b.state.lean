theorem getD_mem_idx {xs : List Nat} {t : Nat} (ht : t < xs.length) : xs.getD t 0 ∈ xs := zgetD_mem ht
theorem nodup_getD {xs : List Nat} (h : xs.Nodup) {i j : Nat} (hi : i < xs.length) (hj : j < xs.length) (e : xs.getD i 0 = xs.getD j 0) : i = j := by
  rw [List.getD_eq_getElem?_getD, List.getD_eq_getElem?_getD, List.getElem?_eq_getElem hi, List.getElem?_eq_getElem hj] at e
  exact (List.getElem_inj h).mp e
section
variable {E : zE} {K n : Nat → Nat} {I : Nat → Nat → Int32} {F : Nat → Nat → Option Nat} {J : Nat → Nat → Int64} {cb sb : Nat} {Q : zO → zH → Prop} {o sg fo hd ns : Nat} {w l cap k : Nat → Nat} {X : Nat → List Nat} {st : zStm}
/-- Rows.add() of one of the four -/
theorem c_gAdd {i : Nat} (h : CG E K n I F o sg fo hd ns w l cap k X) (hS : cSt E K n I F fo st) (hi : i < 4) (hb : k i < 150 → k i = (X i).length → 3 ≤ cb ∧ 405 ≤ sb)
    (w1 : ¬ k i < 150 → Q (.inl (some (va_rf none))) (K, n, I, F, J))
    (w2 : k i < 150 → ∀ K' n' I' F' X' cap' a, CG E K' n' I' F' o sg fo hd ns w l cap' (va_up k i (k i + 1)) X' → cSt E K' n' I' F' fo st → GR (fun c => c = w i ∨ SL K F (l i) c ∨ (k i < (X i).length ∧ c = a)) (K, n, I, F, J) (K', n', I', F', J) → (∀ j, j ≠ i → X' j = X j ∧ cap' j = cap j) → a ∈ X' i → (X' i).getD (k i) 0 = a → (∀ t, t < k i → (X' i).getD t 0 = (X i).getD t 0) → cR K' n' I' F' a [] → (∀ x r, x ≠ a → cR K n I F x r → cR K' n' I' F' x r ∧ I' x = I x) → (∀ j xs c, j < 6 → 4 ≤ j → cL E K n I F (l j) xs c → cL E K' n' I' F' (l j) xs c) →
      ((k i < (X i).length ∧ X' i = X i ∧ cap' i = cap i ∧ ∀ j, j ≠ 1 → I' a j = I a j) ∨ (k i = (X i).length ∧ K a = 0 ∧ X' i = X i ++ [a] ∧ cap' i = (if (X i).length = cap i then zgrow (cap i) else cap i) ∧ I' a 2 = 0 ∧ I' a 3 = 0 ∧ I' a 4 = 1)) → Q (.inl (some (.ref a))) (K', n', I', F', J)) :
    AW E m_Rows_add (K, n, I, F, J) cb sb Q 0 [some (.ref (w i)), none] [] := by
  refine aw_c0 (fun hc0 => ?_)
  obtain ⟨q1, hW⟩ := h.2.2.2.2.1 i hi
  have hG := h.2.1
  have hli := h.lK (i := i) (by omega)
  refine c_rowsAdd hW hG hb w1 (fun hk K' n' I' F' xs' cap9 a g hG' hW' ea hr hor => ?_)
  have hK4 : ∀ {x r}, cR K n I F x r → K x = 4 := fun q => q.1
  rcases hor with ⟨hlt, rfl, rfl, rfl, rfl, rfl, rfl⟩ | ⟨heq, ha0, rfl, rfl, i2, i3, i4⟩
  · -- a row of the store
    obtain ⟨r0, hr0⟩ := h.row hi hlt
    have haX : (X i).getD (k i) 0 ∈ X i := zgetD_mem hlt
    rw [← ea] at hr0 haX
    have ha4 := hr0.1
    have g1 : GR (rowS F' a) (K', n', I, F', J) (K', n', zup I a 1 (0 : Int32), F', J) := fun c _ => ⟨rfl, rfl, fun hn => ⟨zup_n _ _ _ (fun z => hn (Or.inl z)), rfl, rfl⟩⟩
    have hw5 := hW.1
    have hwa : a ≠ w i := fun z => by rw [z] at ha4; omega
    have hr1 : cR K' n' (zup I a 1 (0 : Int32)) F' a [] := by
      obtain ⟨k1, k2, k3, k4, b, k5, k6, k7, k8, k9⟩ := hr0
      have hba : b ≠ a := fun z => by rw [z] at k6; omega
      exact ⟨k1, by simp, by simp, by rw [zup_s]; rfl, b, k5, k6, k7, by simp, fun j hj => by rw [zup_n _ _ _ hba]; exact k9 j hj⟩
    have C1 := h.rowStep ha4 g1 hr1
    obtain ⟨C2, g2⟩ := C1.wStep (J := J) (i := i) (m := k i + 1) hi hlt
    have hS1 := CG.stm hS hG ha4 g1
    have hS2 := hS1.frF g2 hG (fun c _ z => Or.inl (by have hb : c = w i := z; rw [hb]; omega))
    have fr : ∀ x r, x ≠ a → cR K' n' I F' x r → cR K' n' (zup (zup I a 1 (0 : Int32)) (w i) 1 (nI (k i + 1))) F' x r ∧ (zup (zup I a 1 (0 : Int32)) (w i) 1 (nI (k i + 1))) x = I x := fun x r hxa hx => by
      have hx1 := row_fr hx g1 hG ha4 hxa
      have hxw : x ≠ w i := fun z => by have := hx.1; rw [z] at this; omega
      refine ⟨hx1.fr g2 hxw (fun b hb z => by have := hG.2.2.1 x b hx.1 hb; rw [z] at this; omega), ?_⟩
      rw [zup_n _ _ _ hxw, zup_n _ _ _ hxa]
    refine w2 hk K' n' _ F' X cap a C2 hS2 (g.mono (fun c _ z => ?_)) (fun j _ => ⟨rfl, rfl⟩) haX ea.symm (fun t _ => rfl) hr fr (fun j xs c hj hj4 q => ?_) (Or.inl ⟨hlt, rfl, rfl, fun j hj => ?_⟩)
    · rcases z with z | z | z | z
      · exact Or.inl z
      · exact Or.inr (Or.inl (Or.inl z))
      · exact Or.inr (Or.inl (Or.inr z))
      · exact Or.inr (Or.inr ⟨hlt, by rw [ea]; exact z.2⟩)
    · obtain ⟨e1, e2⟩ := h.lst hc0 (j := i) (i := j) (by omega) hj (by omega) (h.lK hj) hli
      refine q.fr g (fun z => ?_) (fun e he hk9 z => ?_)
      · have hlj := h.lK hj
        rcases z with z | z | z | z
        · rw [z] at hlj; omega
        · exact e1 (Or.inl z)
        · exact e1 (Or.inr z)
        · rw [z.2, ← ea] at hlj; omega
      · rcases z with z | z | z | z
        · rw [z] at hk9; omega
        · exact e2 e he hk9 (Or.inl z)
        · exact e2 e he hk9 (Or.inr z)
        · rw [z.2, ← ea] at hk9; omega
    · rw [zup_n _ _ _ hwa, zup_k _ _ _ hj]
  · -- a new row
    have hw5 := hW.1
    have ho8 := h.1
    have g1 : GR (fun c => c = w i ∨ SL K F (l i) c) (K, n, I, F, J) (K', n', I', F', J) := g.mono (fun c _ z => by
      rcases z with z | z | z | z
      · exact Or.inl z
      · exact Or.inr (Or.inl z)
      · exact Or.inr (Or.inr z)
      · omega)
    have hSK : ∀ c, (c = w i ∨ SL K F (l i) c) → K c = 5 ∨ K c = 10 ∨ K c = 23 := fun c z => by
      rcases z with z | z | z
      · rw [z]; exact Or.inl hw5
      · rw [z]; exact Or.inr (Or.inl hli)
      · exact Or.inr (Or.inr z.2)
    have frR : ∀ x r, cR K n I F x r → cR K' n' I' F' x r := fun x r hx => hx.fr g1 (fun z => by have := hx.1; rcases hSK x z with y | y | y <;> omega) (fun b hb z => by
      have := hG.2.2.1 x b hx.1 hb
      rcases hSK b z with y | y | y <;> omega)
    have hnX : ∀ j, j < 4 → a ∉ X j := fun j hj z => by
      obtain ⟨r, hr9⟩ := (h.2.2.2.2.1 j hj).2.2.2.2.2.2.2.2 a z
      have := hr9.1; omega
    have X1 : ∀ j, va_up X i (X i ++ [a]) j = if j = i then X i ++ [a] else X j := fun j => by
      by_cases e : j = i
      · rw [if_pos e, e, va_up_s]
      · rw [if_neg e, va_up_n _ _ e]
    have mX : ∀ j c, c ∈ va_up X i (X i ++ [a]) j → c ∈ X j ∨ (j = i ∧ c = a) := fun j c hc => by
      rw [X1 j] at hc
      by_cases e : j = i
      · rw [if_pos e] at hc
        rcases List.mem_append.mp hc with q | q
        · rw [e]; exact Or.inl q
        · exact Or.inr ⟨e, List.mem_singleton.mp q⟩
      · rw [if_neg e] at hc; exact Or.inl hc
    have hhd : K hd = 4 := by obtain ⟨r, hr9⟩ := h.2.2.2.2.2.2.1.2; exact hr9.1
    have res := h.gen g1 hG' (cap' := va_up cap i (if (X i).length = cap i then zgrow (cap i) else cap i)) (k' := va_up k i (k i + 1)) (X' := va_up X i (X i ++ [a])) (fun c _ z => by
      refine ⟨fun q => ?_, ?_⟩
      · rw [q] at z; rcases hSK o z with y | y | y <;> omega
      · rcases hSK c z with y | y | y <;> omega) (fun j hj => by
      by_cases e : j = i
      · subst e
        rw [va_up_s, va_up_s, va_up_s]; exact hW'
      · rw [va_up_n _ _ e, va_up_n _ _ e, va_up_n _ _ e]
        obtain ⟨-, q2⟩ := h.2.2.2.2.1 j hj
        obtain ⟨e1, e2⟩ := h.lst hc0 (j := i) (i := j) (by omega) (by omega) e (h.lK (by omega)) hli
        refine q2.frX g1 (fun z => ?_) (fun z => ?_) (fun c hc hk9 z => ?_) (fun x hx => ?_)
        · rcases z with z | z
          · exact e (h.2.2.2.2.2.2.2.2.1 j i hj hi z)
          · have := q2.1; rcases hSK _ (Or.inr z) with y | y | y <;> first | omega | (rcases z with z | z <;> first | (rw [z] at this; omega) | omega)
        · rcases z with z | z
          · have := h.lK (i := j) (by omega); rw [z] at this; omega
          · exact e1 z
        · rcases z with z | z
          · rw [z] at hk9; omega
          · exact e2 c hc hk9 z
        · obtain ⟨r, hr9⟩ := q2.2.2.2.2.2.2.2 x hx
          exact ⟨r, frR x r hr9⟩) (fun j j' c hj hj' hc hc' => by
      rcases mX j c hc with q | q <;> rcases mX j' c hc' with q' | q'
      · exact h.2.2.2.2.2.2.2.2.2.2.2.1 j j' c hj hj' q q'
      · rw [q'.2] at q; exact absurd q (hnX j hj)
      · rw [q.2] at q'; exact absurd q' (hnX j' hj')
      · rw [q.1, q'.1]) (fun j hj => by
      rw [X1 j]
      by_cases e : j = i
      · rw [if_pos e]
        refine List.nodup_append.mpr ⟨h.2.2.2.2.2.2.2.2.2.2.2.2.1 i hi, by simp, fun c hc d hd9 => ?_⟩
        rw [List.mem_singleton.mp hd9]
        exact fun z => hnX i hi (by rw [← z]; exact hc)
      · rw [if_neg e]; exact h.2.2.2.2.2.2.2.2.2.2.2.2.1 j hj) (fun j hj hc => by
      rcases mX j hd hc with q | q
      · exact h.2.2.2.2.2.2.2.2.2.2.2.2.2 j hj q
      · rw [q.2] at hhd; omega)
    obtain ⟨C', -, hI4⟩ := res
    have hS' : cSt E K' n' I' F' fo st := hS.frF g1 hG (fun c _ z => by
      rcases z with z | z
      · exact Or.inl (by rw [z]; omega)
      · exact h.forS hS hc0 (by omega) z)
    refine w2 hk K' n' I' F' _ _ a C' hS' (g1.mono (fun c _ z => z.elim Or.inl (fun z => Or.inr (Or.inl z)))) (fun j hj => ⟨va_up_n _ _ hj, va_up_n _ _ hj⟩) (by rw [va_up_s]; simp) (by rw [va_up_s, heq]; exact zgetD_last _ _) (fun t ht => by rw [va_up_s]; exact zgetD_append (by omega)) hr (fun x r _ hx => ⟨frR x r hx, hI4 x hx.1⟩) (fun j xs c hj hj4 q => ?_) (Or.inr ⟨heq, ha0, va_up_s _ _ _, va_up_s _ _ _, i2, i3, i4⟩)
    obtain ⟨e1, e2⟩ := h.lst hc0 (j := i) (i := j) (by omega) hj (by omega) (h.lK hj) hli
    refine q.fr g1 (fun z => ?_) (fun e he hk9 z => ?_)
    · rcases z with z | z
      · have := h.lK hj; rw [z] at this; omega
      · exact e1 z
    · rcases z with z | z
      · rw [z] at hk9; omega
      · exact e2 e he hk9 z
end
