/-- the list with v at place i -/
def zins (xs : List Nat) (i v : Nat) : List Nat := xs.take i ++ v :: xs.drop i
theorem zins_len {xs : List Nat} {i v : Nat} (hi : i ≤ xs.length) : (zins xs i v).length = xs.length + 1 := by
  simp [zins]; omega
theorem zins_mem {xs : List Nat} {i v x : Nat} (h : x ∈ zins xs i v) : x = v ∨ x ∈ xs := by
  unfold zins at h
  rcases List.mem_append.mp h with q | q
  · exact Or.inr (List.mem_of_mem_take q)
  · rcases List.mem_cons.mp q with q | q
    · exact Or.inl q
    · exact Or.inr (List.mem_of_mem_drop q)
theorem zins_at {xs : List Nat} {i v j : Nat} (hi : i ≤ xs.length) : (zins xs i v).getD j 0 = if j < i then xs.getD j 0 else if j = i then v else xs.getD (j - 1) 0 := by
  have hl : (xs.take i).length = i := by simp; omega
  unfold zins
  by_cases h1 : j < i
  · rw [if_pos h1]
    simp only [List.getD_eq_getElem?_getD]
    rw [List.getElem?_append_left (by omega), List.getElem?_take_of_lt h1]
  · rw [if_neg h1]
    simp only [List.getD_eq_getElem?_getD]
    rw [List.getElem?_append_right (by omega), hl]
    by_cases h2 : j = i
    · rw [if_pos h2]
      simp [h2]
    · rw [if_neg h2]
      obtain ⟨d, rfl⟩ : ∃ d, j = i + 1 + d := ⟨j - i - 1, by omega⟩
      have e1 : i + 1 + d - i = d + 1 := by omega
      have e2 : i + 1 + d - 1 = i + d := by omega
      rw [e1, e2, List.getElem?_cons_succ, List.getElem?_drop]
section
variable {E : zE} {K n : Nat → Nat} {I : Nat → Nat → Int32} {F : Nat → Nat → Option Nat} {J : Nat → Nat → Int64} {cb sb : Nat} {Q : zO → zH → Prop}
/-- add(i, v) -/
theorem c_addI {l v i : Nat} {xs : List Nat} {cap : Nat} (hL : cL E K n I F l xs cap) (hG : HG E K F) (hv : zEl (K v)) (hi : i ≤ xs.length) (hc : cap ≤ 20000) (hb : xs.length = cap → 1 ≤ cb ∧ zgrow cap ≤ sb)
    (w : ∀ K' n' I' F', GR (fun a => a = l ∨ (F l 1 = some a ∧ K a = 23)) (K, n, I, F, J) (K', n', I', F', J) → HG E K' F' → cL E K' n' I' F' l (zins xs i v) (if xs.length = cap then zgrow cap else cap) → Q (.inl none) (K', n', I', F', J)) :
    AW E m_ArrayList_add1 (K, n, I, F, J) cb sb Q 0 [some (.ref l), some (.int (nI i)), some (.ref v), none, none] [] := by
  obtain ⟨h1, h2, h3, h4, h5, e, h6, h7, h8⟩ := hL
  refine r_ArrayList_add1_0 ⟨h1, 0, 0, cb, sb, by omega, by omega, r_ArrayList_rangeCheckForAdd_0 ⟨h1, ?_⟩⟩
  rw [h2]
  refine br_f (nI_nlt (by omega) (by omega)) (br_t (nI_pos' (by omega)) ?_)
  have hzl : zlen E K n e cap := by
    rcases h7 with h7 | h7
    · exact Or.inl ⟨by omega, by omega, h7.2.1⟩
    · exact Or.inr h7
  have hel : ∀ x ∈ zins xs i v, zEl (K x) := fun x hx => by
    rcases zins_mem hx with q | q
    · rw [q]; exact hv
    · exact h5 x q
  have hlen := zins_len (v := v) hi
  have esub : nI xs.length - nI i = nI (xs.length - i) := pk_sub hi
  refine r_ArrayList_add1_5 ⟨h1, e, h6, cap, hzl, ?_⟩
  rw [zup_k _ _ _ (by decide), h2]
  refine ⟨fun z => ?_, fun z => ?_⟩
  · have hne : xs.length ≠ cap := fun q => z (by rw [q])
    have h7 : K e = 23 ∧ n e = cap ∧ 10 ≤ cap := by
      rcases h7 with h7 | h7
      · exact h7
      · omega
    have hle : l ≠ e := fun q => by rw [← q] at h7; omega
    refine ⟨h7.1, i, i + 1, xs.length - i, rfl, nI_1 i, esub, by omega, by omega, by omega, by omega, fun j hj u hu => ?_, i, rfl, by omega, by omega, hv, ?_⟩
    · rw [h8 _ (by omega)] at hu
      rw [← Option.some.inj hu]
      exact h5 _ (zgetD_mem (by omega))
    rw [nI_1]
    rw [if_neg hne] at w
    refine w K n _ _ (fun a ha => ⟨rfl, rfl, fun hn => ⟨?_, ?_, rfl⟩⟩) (hG.arr (fun a ha => ?_)) (cL_put (xs := xs) (v := v) (i := 0) (I := I) (F := F) h1 ?_ (by omega) h4 hel ?_ h7.1 h7.2.1 h7.2.2 (fun j hj => ?_))
    · show zup _ _ _ _ a = I a
      rw [zup_n _ _ _ (fun q => hn (Or.inl q)), zup_n _ _ _ (fun q => hn (Or.inl q))]
    · have hae : a ≠ e := fun q => hn (Or.inr ⟨by rw [q]; exact h6, by rw [q]; exact h7.1⟩)
      show zup _ _ _ _ a = F a
      rw [zup_n _ _ _ hae, va_up_n _ _ hae]
    · have hae : a ≠ e := fun q => by rw [q] at ha; omega
      rw [zup_n _ _ _ hae, va_up_n _ _ hae]
    · rw [zup_s, hlen]
    · rw [zup_n _ _ _ hle, va_up_n _ _ hle]; exact h6
    · rw [zins_at hi]
      by_cases q : j = i
      · subst q
        rw [zup_s, if_neg (by omega), if_pos rfl]
      · rw [zup_k _ _ _ q, va_up_s]
        by_cases q2 : j < i
        · rw [if_pos q2, pk_cpy_out (by omega)]
          exact h8 j (by omega)
        · rw [if_neg q2, if_neg q, pk_cpy_in (by omega) (by omega), h8 _ (by omega)]
          congr 2
          omega
  · have hxe : xs.length = cap := (nI_eq (by omega) (by omega)).mp z
    obtain ⟨b1, b2⟩ := hb hxe
    rw [if_pos hxe] at w
    refine ⟨cb, sb, 0, 0, by omega, by omega, ?_⟩
    refine c_grow (e := e) (cap := cap) h1 (by rw [zup_k _ _ _ (by decide), h2, hxe]) h6 hc ?_ b1 b2 (fun q g hq hq10 hg => ?_)
    · rcases h7 with h7 | h7
      · refine Or.inl ⟨h7.1, h7.2.1, h7.2.2, fun i hi u hu => ?_⟩
        rw [h8 i (by omega)] at hu
        rw [← Option.some.inj hu]
        exact h5 _ (zgetD_mem (by omega))
      · exact Or.inr h7
    · have hql : l ≠ q := fun q9 => by rw [q9, hq] at h1; cases h1
      have hqv : v ≠ q := fun q9 => by rw [q9, hq] at hv; exact zEl.ne hv rfl
      have hz : cap < zgrow cap ∧ 10 ≤ zgrow cap ∧ zgrow cap ≤ 50000 := by
        unfold zgrow
        split
        · omega
        · rcases h7 with h7 | h7 <;> omega
      have hF1 : (zup (va_up F q g) l 1 (some q)) q = g := by rw [zup_n _ _ _ (fun z => hql z.symm), va_up_s]
      refine r_ArrayList_add1_36 ⟨va_up_s _ _ _, i, i + 1, xs.length - i, rfl, nI_1 i, esub, by rw [va_up_s]; omega, by rw [va_up_s]; omega, by rw [va_up_s]; omega, by rw [va_up_s]; omega, fun j hj u hu => ?_, i, rfl, by rw [va_up_s]; omega, by omega, by rw [va_up_n _ _ hqv]; exact hv, by rw [va_up_n _ _ hql]; exact h1, ?_⟩
      · rw [hF1, hg _ (by omega), h8 _ (by omega)] at hu
        rw [← Option.some.inj hu]
        have := h5 _ (zgetD_mem (xs := xs) (i := i + j) (by omega))
        rw [va_up_n _ _ (fun q9 => zEl.ne this (by rw [q9, hq]))]
        exact this
      rw [nI_1]
      refine w _ _ _ _ (fun a ha => ?_) ?_ (cL_put (xs := xs) (v := v) (i := 0) (I := I) (F := F) (e := q) ?_ ?_ (by omega) hz.2.2 ?_ ?_ (va_up_s _ _ _) (va_up_s _ _ _) hz.2.1 (fun j hj => ?_))
      · have haq : a ≠ q := fun q9 => ha (by rw [q9]; exact hq)
        refine ⟨va_up_n _ _ haq, va_up_n _ _ haq, fun hn => ⟨?_, ?_, rfl⟩⟩
        · show zup _ _ _ _ a = I a
          rw [zup_n _ _ _ (fun q => hn (Or.inl q)), zup_n _ _ _ (fun q => hn (Or.inl q))]
        · show zup _ _ _ _ a = F a
          rw [zup_n _ _ _ haq, va_up_n _ _ haq, zup_n _ _ _ (fun q => hn (Or.inl q)), va_up_n _ _ haq]
      · have hG1 : HG E (va_up K q 23) (va_up F q g) := (hG.new 23 hq).arr (fun a ha => by
          have haq : a ≠ q := fun q9 => by rw [q9, va_up_s] at ha; omega
          rw [va_up_n _ _ haq, va_up_n _ _ haq])
        have hG2 := hG1.putL l q (by rw [va_up_n _ _ hql]; exact h1) (Or.inr ⟨va_up_s _ _ _, fun l' hl' hq' => by
          have hl'q : l' ≠ q := fun q9 => by rw [q9, va_up_s] at hl'; omega
          rw [va_up_n _ _ hl'q] at hl' hq'
          rcases hG.1 l' q hl' hq' with z1 | z1
          · omega
          · exact hq10 z1⟩)
        refine hG2.arr (fun a ha => ?_)
        have haq : a ≠ q := fun q9 => by rw [q9, va_up_s] at ha; omega
        rw [zup_n _ _ _ haq, va_up_n _ _ haq]
      · rw [va_up_n _ _ hql]; exact h1
      · rw [zup_s, hlen]
      · intro x hx
        have := hel x hx
        rw [va_up_n _ _ (fun q9 => zEl.ne this (by rw [q9, hq]))]
        exact this
      · rw [zup_n _ _ _ hql, va_up_n _ _ hql, zup_s]
      · rw [zins_at hi]
        by_cases q9 : j = i
        · subst q9
          rw [zup_s, if_neg (by omega), if_pos rfl]
        · rw [zup_k _ _ _ q9, va_up_s, hF1]
          by_cases q2 : j < i
          · rw [if_pos q2, pk_cpy_out (by omega), hg j (by omega)]
            exact h8 j (by omega)
          · rw [if_neg q2, if_neg q9, pk_cpy_in (by omega) (by omega), hg _ (by omega), h8 _ (by omega)]
            congr 2
            omega
/-- Arrays.fill of bytes -/
theorem c_fillL {b : Nat} {x : Int32} (hb : K b = 20) (h31 : n b < 2 ^ 31) : ∀ (d i : Nat) (I : Nat → Nat → Int32), i + d = n b → (∀ I', (∀ a, a ≠ b → I' a = I a) → (∀ j, j < i → I' b j = I b j) → (∀ j, i ≤ j → j < n b → I' b j = x.toInt8.toInt32) → Q (.inl none) (K, n, I', F, J)) → AW E m_Arrays_fill (K, n, I, F, J) cb sb Q 5 [some (.ref b), some (.int x), some (.int (nI i)), some (.int (nI (n b)))] []
  | 0, i, I, hi, w => r_Arrays_fill_5 (br_t (nI_le (by omega) (by omega)) (w I (fun a _ => rfl) (fun j _ => rfl) (fun j h1 h2 => by omega)))
  | d + 1, i, I, hi, w => by
    refine r_Arrays_fill_5 (br_f (nI_ge (by omega) (by omega)) ⟨hb, i, rfl, by omega, by omega, ?_⟩)
    rw [nI_1]
    refine c_fillL hb h31 d (i + 1) _ (by omega) (fun I' h1 h2 h3 => w I' (fun a ha => by rw [h1 a ha, zup_n _ _ _ ha]) (fun j hj => by rw [h2 j (by omega), zup_k _ _ _ (by omega)]) (fun j hj hj2 => ?_))
    by_cases q : j = i
    · subst q
      rw [h2 j (by omega), zup_s]
    · exact h3 j (by omega) hj2
theorem c_fill {b : Nat} {x : Int32} (hb : K b = 20) (h31 : n b < 2 ^ 31) (w : ∀ I', (∀ a, a ≠ b → I' a = I a) → (∀ j, j < n b → I' b j = x.toInt8.toInt32) → Q (.inl none) (K, n, I', F, J)) : AW E m_Arrays_fill (K, n, I, F, J) cb sb Q 0 [some (.ref b), some (.int x), none, none] [] :=
  r_Arrays_fill_0 ⟨⟨by omega, by omega⟩, c_fillL hb h31 (n b) 0 I (by omega) (fun I' h1 _ h3 => w I' h1 (fun j hj => h3 j (by omega) hj))⟩
end
