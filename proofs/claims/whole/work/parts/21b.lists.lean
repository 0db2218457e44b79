theorem zgetD_append {xs : List Nat} {v i : Nat} (hi : i < xs.length) : (xs ++ [v]).getD i 0 = xs.getD i 0 := by
  simp [List.getD_eq_getElem?_getD, List.getElem?_append_left hi]
theorem zgetD_last (xs : List Nat) (v : Nat) : (xs ++ [v]).getD xs.length 0 = v := by
  simp [List.getD_eq_getElem?_getD]
theorem zgetD_mem {xs : List Nat} {i : Nat} (hi : i < xs.length) : xs.getD i 0 ∈ xs := by
  rw [List.getD_eq_getElem?_getD, List.getElem?_eq_getElem hi]
  exact List.getElem_mem hi
section
variable {E : zE} {K n : Nat → Nat} {I : Nat → Nat → Int32} {F : Nat → Nat → Option Nat} {J : Nat → Nat → Int64} {cb sb : Nat} {Q : zO → zH → Prop}
/-- new ArrayList(): its <init> -/
theorem c_listInit {l : Nat} (hl : K l = 10) (hl0 : I l 2 = 0) (hG : HG E K F) (w : ∀ I' F', GR (fun a => a = l) (K, n, I, F, J) (K, n, I', F', J) → HG E K F' → cL E K n I' F' l [] 0 → Q (.inl none) (K, n, I', F', J)) : AW E m_ArrayList_init (K, n, I, F, J) cb sb Q 0 [some (.ref l)] [] := by
  refine r_ArrayList_init_0 (r_AbstractList_init_0 (r_AbstractCollection_init_0 (r_AbstractList_init_4 ⟨hl, r_ArrayList_init_4 ⟨hl, ?_⟩⟩)))
  refine w _ _ (fun a ha => ⟨rfl, rfl, fun hn => ⟨zup_n _ _ _ hn, zup_n _ _ _ hn, rfl⟩⟩) (hG.putL l _ hl (Or.inl rfl)) ⟨hl, ?_, by simp, by omega, by simp, _, zup_s _ _ _ _, Or.inr ⟨rfl, rfl⟩, by simp⟩
  rw [zup_k _ _ _ (by decide)]
  exact hl0
theorem c_clearL {e N : Nat} (hN : N < 2 ^ 31) (he : 0 < N → K e = 23 ∧ N ≤ n e) : ∀ (d i : Nat) (F : Nat → Nat → Option Nat), i + d = N → (∀ F', (∀ a, (a ≠ e ∨ N = 0) → F' a = F a) → Q (.inl none) (K, n, I, F', J)) → AW E m_ArrayList_clear (K, n, I, F, J) cb sb Q 27 [none, some (.ref e), some (.int (nI N)), some (.int (nI i))] []
  | 0, i, F, hi, w => by
    refine r_ArrayList_clear_27 (br_t (nI_le (by omega) (by omega)) (w F (fun a _ => rfl)))
  | d + 1, i, F, hi, w => by
    obtain ⟨k1, k2⟩ := he (by omega)
    refine r_ArrayList_clear_27 (br_f (nI_ge (by omega) (by omega)) ⟨k1, i, rfl, by omega, by omega, ?_⟩)
    rw [nI_1]
    exact c_clearL hN he d (i + 1) _ (by omega) (fun F' hF' => w F' (fun a ha => by rw [hF' a ha, zup_n _ _ _ (by omega)]))
/-- clear() -/
theorem c_clear {l : Nat} {xs : List Nat} {cap : Nat} (hL : cL E K n I F l xs cap) (hG : HG E K F) (w : ∀ I' F', GR (fun a => a = l ∨ (F l 1 = some a ∧ K a = 23)) (K, n, I, F, J) (K, n, I', F', J) → HG E K F' → cL E K n I' F' l [] cap → Q (.inl none) (K, n, I', F', J)) : AW E m_ArrayList_clear (K, n, I, F, J) cb sb Q 0 [some (.ref l), none, none, none] [] := by
  obtain ⟨h1, h2, h3, h4, h5, e, h6, h7, h8⟩ := hL
  refine r_ArrayList_clear_0 ⟨h1, e, h6, ?_⟩
  rw [zup_k _ _ _ (by decide), h2]
  have hle : l ≠ e ∨ xs.length = 0 := by
    rcases h7 with h7 | h7
    · exact Or.inl (fun z => by rw [← z] at h7; omega)
    · exact Or.inr (by omega)
  refine c_clearL (by omega) (fun z => ?_) xs.length 0 F (by omega) (fun F' hF' => ?_)
  · rcases h7 with h7 | h7
    · exact ⟨h7.1, by omega⟩
    · omega
  by_cases hk : K e = 23
  · have hne : l ≠ e := fun z => by rw [z] at h1; omega
    refine w _ F' (fun a ha => ⟨rfl, rfl, fun hn => ⟨?_, hF' a (Or.inl (fun z => hn (Or.inr ⟨by rw [z]; exact h6, by rw [z]; exact hk⟩))), rfl⟩⟩) (hG.arr (fun a ha => hF' a (Or.inl (fun z => by rw [z] at ha; omega)))) ⟨h1, ?_, by simp, h4, by simp, e, by rw [hF' l (Or.inl hne)]; exact h6, h7, by simp⟩
    · show zup _ _ _ _ a = I a
      rw [zup_n _ _ _ (fun z => hn (Or.inl z)), zup_n _ _ _ (fun z => hn (Or.inl z))]
    · rw [zup_s]; rfl
  · have hx : xs.length = 0 := by
      rcases h7 with h7 | h7
      · exact absurd h7.1 hk
      · omega
    have hFF : F' = F := funext fun a => hF' a (Or.inr hx)
    subst hFF
    refine w _ F' (fun a ha => ⟨rfl, rfl, fun hn => ⟨?_, rfl, rfl⟩⟩) hG ⟨h1, ?_, by simp, h4, by simp, e, h6, h7, by simp⟩
    · show zup _ _ _ _ a = I a
      rw [zup_n _ _ _ (fun z => hn (Or.inl z)), zup_n _ _ _ (fun z => hn (Or.inl z))]
    · rw [zup_s]; rfl
/-- what add leaves -/
theorem cL_put {l e v i cap : Nat} {xs ys : List Nat} {K n : Nat → Nat} {I I' : Nat → Nat → Int32} {F F' : Nat → Nat → Option Nat} (hl : K l = 10) (hs : I' l 2 = nI ys.length) (hle : ys.length ≤ cap) (hcap : cap ≤ 50000) (hel : ∀ x ∈ ys, zEl (K x)) (hF : F' l 1 = some e) (hk : K e = 23) (hn : n e = cap) (h10 : 10 ≤ cap) (hx : ∀ j, j < ys.length → F' e j = some (ys.getD j 0)) : cL E K n I' F' l ys cap :=
  ⟨hl, hs, hle, hcap, hel, e, hF, Or.inl ⟨hk, hn, h10⟩, hx⟩
/-- add(v) -/
theorem c_add {l v : Nat} {xs : List Nat} {cap : Nat} (hL : cL E K n I F l xs cap) (hG : HG E K F) (hv : zEl (K v)) (hc : cap ≤ 20000) (hb : xs.length = cap → 1 ≤ cb ∧ zgrow cap ≤ sb)
    (w : ∀ K' n' I' F', GR (fun a => a = l ∨ (F l 1 = some a ∧ K a = 23)) (K, n, I, F, J) (K', n', I', F', J) → HG E K' F' → cL E K' n' I' F' l (xs ++ [v]) (if xs.length = cap then zgrow cap else cap) → (∀ e, F' l 1 = some e → F l 1 = some e ∨ K e = 0) → Q (.inl (some (.int 1))) (K', n', I', F', J)) :
    AW E m_ArrayList_add (K, n, I, F, J) cb sb Q 0 [some (.ref l), some (.ref v)] [] := by
  obtain ⟨h1, h2, h3, h4, h5, e, h6, h7, h8⟩ := hL
  refine r_ArrayList_add_0 ⟨h1, e, h6, cb, sb, 0, 0, by omega, by omega, ?_⟩
  rw [zup_k _ _ _ (by decide), h2]
  have hzl : zlen E K n e cap := by
    rcases h7 with h7 | h7
    · exact Or.inl ⟨by omega, by omega, h7.2.1⟩
    · exact Or.inr h7
  have hel : ∀ x ∈ xs ++ [v], zEl (K x) := fun x hx => by
    rcases List.mem_append.mp hx with q | q
    · exact h5 x q
    · rw [List.mem_singleton.mp q]; exact hv
  have hlen : (xs ++ [v]).length = xs.length + 1 := by simp
  refine r_ArrayList_add2_0 ⟨cap, hzl, ?_⟩
  refine ⟨fun z => ?_, fun z => ?_⟩
  · have hne : xs.length ≠ cap := fun q => z (by rw [q])
    have h7 : K e = 23 ∧ n e = cap ∧ 10 ≤ cap := by
      rcases h7 with h7 | h7
      · exact h7
      · omega
    have hle : l ≠ e := fun q => by rw [← q] at h7; omega
    refine ⟨h7.1, xs.length, rfl, by omega, by omega, hv, h1, r_ArrayList_add_23 ?_⟩
    rw [nI_1]
    rw [if_neg hne] at w
    refine w K n _ _ (fun a ha => ⟨rfl, rfl, fun hn => ⟨?_, ?_, rfl⟩⟩) (hG.arr (fun a ha => zup_n _ _ _ (fun q => by rw [q] at ha; omega))) (cL_put (xs := xs) (v := v) (i := 0) (I := I) (F := F) h1 ?_ (by omega) h4 hel ?_ h7.1 h7.2.1 h7.2.2 (fun j hj => ?_)) (fun e9 he9 => Or.inl (by rw [zup_n _ _ _ hle] at he9; exact he9))
    · show zup _ _ _ _ a = I a
      rw [zup_n _ _ _ (fun q => hn (Or.inl q)), zup_n _ _ _ (fun q => hn (Or.inl q))]
    · exact zup_n _ _ _ (fun q => hn (Or.inr ⟨by rw [q]; exact h6, by rw [q]; exact h7.1⟩))
    · rw [zup_s, hlen]
    · rw [zup_n _ _ _ hle]; exact h6
    · by_cases q : j = xs.length
      · subst q
        rw [zup_s, zgetD_last]
      · rw [zup_k _ _ _ q, zgetD_append (by omega)]
        exact h8 j (by omega)
  · have hxe : xs.length = cap := (nI_eq (by omega) (by omega)).mp z
    obtain ⟨b1, b2⟩ := hb hxe
    rw [if_pos hxe] at w
    refine ⟨h1, cb, sb, 0, 0, by omega, by omega, ?_⟩
    refine c_grow (e := e) (cap := cap) h1 (by rw [zup_k _ _ _ (by decide), h2, hxe]) h6 hc ?_ b1 b2 (fun q g hq hq10 hg => ?_)
    · rcases h7 with h7 | h7
      · refine Or.inl ⟨h7.1, h7.2.1, h7.2.2, fun i hi u hu => ?_⟩
        rw [h8 i (by omega)] at hu
        rw [← Option.some.inj hu]
        exact h5 _ (zgetD_mem (by omega))
      · exact Or.inr h7
    · have hql : l ≠ q := fun q9 => by rw [q9, hq] at h1; cases h1
      have hqv : v ≠ q := fun q9 => by rw [q9, hq] at hv; exact zEl.ne hv rfl
      have hz : cap < zgrow cap ∧ 10 ≤ zgrow cap ∧ zgrow cap ≤ 50000 := by
        unfold zgrow
        split
        · omega
        · rcases h7 with h7 | h7 <;> omega
      refine r_ArrayList_add2_10 ⟨va_up_s _ _ _, xs.length, rfl, by rw [va_up_s]; omega, by omega, by rw [va_up_n _ _ hqv]; exact hv, by rw [va_up_n _ _ hql]; exact h1, r_ArrayList_add_23 ?_⟩
      rw [nI_1]
      refine w _ _ _ _ (fun a ha => ?_) ?_ (cL_put (xs := xs) (v := v) (i := 0) (I := I) (F := F) (e := q) ?_ ?_ (by omega) hz.2.2 ?_ ?_ (va_up_s _ _ _) (va_up_s _ _ _) hz.2.1 (fun j hj => ?_)) (fun e9 he9 => Or.inr (by rw [zup_n _ _ _ hql, zup_s] at he9; rw [← Option.some.inj he9]; exact hq))
      · have haq : a ≠ q := fun q9 => ha (by rw [q9]; exact hq)
        refine ⟨va_up_n _ _ haq, va_up_n _ _ haq, fun hn => ⟨?_, ?_, rfl⟩⟩
        · show zup _ _ _ _ a = I a
          rw [zup_n _ _ _ (fun q => hn (Or.inl q)), zup_n _ _ _ (fun q => hn (Or.inl q))]
        · show zup _ _ _ _ a = F a
          rw [zup_n _ _ _ haq, zup_n _ _ _ (fun q => hn (Or.inl q)), va_up_n _ _ haq]
      · have hG1 : HG E (va_up K q 23) (va_up F q g) := (hG.new 23 hq).arr (fun a ha => by
          have haq : a ≠ q := fun q9 => by rw [q9, va_up_s] at ha; omega
          rw [va_up_n _ _ haq, va_up_n _ _ haq])
        have hG2 := hG1.putL l q (by rw [va_up_n _ _ hql]; exact h1) (Or.inr ⟨va_up_s _ _ _, fun l' hl' hq' => by
          have hl'q : l' ≠ q := fun q9 => by rw [q9, va_up_s] at hl'; omega
          rw [va_up_n _ _ hl'q] at hl' hq'
          rcases hG.1 l' q hl' hq' with z1 | z1
          · omega
          · exact hq10 z1⟩)
        exact hG2.arr (fun a ha => zup_n _ _ _ (fun q9 => by rw [q9, va_up_s] at ha; omega))
      · rw [va_up_n _ _ hql]; exact h1
      · rw [zup_s, hlen]
      · intro x hx
        have := hel x hx
        rw [va_up_n _ _ (fun q9 => zEl.ne this (by rw [q9, hq]))]
        exact this
      · rw [zup_n _ _ _ hql, zup_s]
      · by_cases q9 : j = xs.length
        · subst q9
          rw [zup_s, zgetD_last]
        · rw [zup_k _ _ _ q9, zup_n _ _ _ (fun z => hql z.symm), va_up_s, hg j (by omega), zgetD_append (by omega)]
          exact h8 j (by omega)
end
