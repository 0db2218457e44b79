section
variable {c : Int32 → Prop} {E : zE} {K n : Nat → Nat} {I : Nat → Nat → Int32} {F : Nat → Nat → Option Nat} {J : Nat → Nat → Int64} {m : Nat} {A : Nat → Nat} {Q : zO → zH → Prop} {x : zTx} {L : Nat} {st : zStm} {rc : zRec} {M : Nat} {Ld : List zHel} {rf jn : List (List Nat)} {u : List Nat} {does : Nat} {stops : Bool} {code cb sb : Nat}
theorem md_record {v : Int32} (h : MD c K n I F J m A x L st rc M Ld rf jn u does stops code) (w1 : ¬ (inR v 3 ∧ M < 150) → ∀ I' J', MD anyI K n I' F J' m A x L st rc M Ld rf jn u does stops code → MT m A K n I F J I' J' → Q (.inl (some (.int (-1)))) (K, n, I', F, J'))
    (w2 : inR v 3 → M < 150 → ∀ I' J', MD anyI K n I' F J' m A x L st (va_up rc M (xN v, [])) (M + 1) Ld rf jn u does stops code → MT m A K n I F J I' J' → Q (.inl (some (.int (nI M)))) (K, n, I', F, J')) :
    AW E m_Mo_record (K, n, I, F, J) cb sb Q 0 [some (.ref m), some (.int v)] [] := by
  obtain ⟨V, T, hS, -, hV⟩ := h
  refine mo_record hS hV.2.2.1.1 (fun e I' S' => w1 e _ _ ⟨_, _, S'.re, trivial, hV.z 0⟩ S'.gr) (fun hv hM I' S' => ?_)
  obtain ⟨t0, t1, t2, t3⟩ := inR_e (by decide) hv
  refine w2 hv hM _ _ ⟨_, _, S'.re, trivial, ?_⟩ S'.gr
  obtain ⟨h1, h2, ⟨h3, h3'⟩, ⟨h4, h4'⟩, ⟨h5, h5'⟩, ⟨h6, h6'⟩, h7, h8, h9, h10, h11⟩ := hV.z 0
  generalize zup V 0 0 0 = V0 at *
  have g : ∀ f j, ¬ (f = 14 ∧ j = M) → ¬ (f = 0 ∧ j = 15) → zup (zup V0 14 M v) 0 15 (nI (M + 1)) f j = V0 f j := fun f j a b => by rw [zup_ff b, zup_ff a]
  refine ⟨h1.fx (g 0 2 (by omega) (by omega)) (fun j => g 1 j (by omega) (by omega)), h2.fx (fun f j a b => g f j (by omega) (by omega)), ⟨⟨zup_s _ _ _ _, by omega, fun t ht => ?_⟩, fun t a b => (g 13 t (by omega) (by omega)).trans (h3' t (by omega) b)⟩, ⟨h4.fx h4' (g 26 0 (by omega) (by omega)) (fun j _ => g 24 j (by omega) (by omega)) (fun j _ => g 25 j (by omega) (by omega)) (fun j => g 27 j (by omega) (by omega)) (fun j => g 28 j (by omega) (by omega)), h4'⟩, ⟨h5.fx h5' (g 26 1 (by omega) (by omega)) (fun j _ _ => g 24 j (by omega) (by omega)) (fun j _ _ => g 25 j (by omega) (by omega)), h5'⟩, ⟨h6.fx h6' (g 26 2 (by omega) (by omega)) (fun j _ _ => g 24 j (by omega) (by omega)) (fun j _ _ => g 25 j (by omega) (by omega)), h6'⟩, h7.fx (g 0 30 (by omega) (by omega)) (fun j => g 29 j (by omega) (by omega)), h8, (g 0 16 (by omega) (by omega)).trans h9, (g 0 18 (by omega) (by omega)).trans h10, (g 0 17 (by omega) (by omega)).trans h11⟩
  by_cases z : t = M
  · subst z
    rw [va_up_s]
    refine ⟨⟨⟨?_, Nat.zero_le _, fun y hy => (by cases hy), fun k hk => absurd hk (Nat.not_lt_zero _)⟩, by show 100 * t + 100 ≤ 15000; omega, hM, by omega⟩, ?_, by rw [t3]; exact t1⟩
    · rw [g 13 t (by omega) (by omega)]; exact h3' t (Nat.le_refl _) hM
    · rw [zup_ff (by omega), zup_s]
      show v = nI (xN v)
      rw [t3]; exact t2
  · rw [va_up_n _ _ z]
    obtain ⟨⟨⟨q1, q2, q3, q4⟩, q5⟩, q6, q7⟩ := h3.2.2 t (by omega)
    exact ⟨⟨⟨(g 13 t (by omega) (by omega)).trans q1, q2, q3, fun k hk => (g 12 _ (by omega) (by omega)).trans (q4 k hk)⟩, q5⟩, (g 14 t (by omega) (by omega)).trans q6, q7⟩
theorem md_octet {v y z : Int32} (h : MD c K n I F J m A x L st rc M Ld rf jn u does stops code) (w1 : ¬ (inR v M ∧ inR y 100) → ∀ I' J', MD (fun q => q = 1) K n I' F J' m A x L st rc M Ld rf jn u does stops code → MT m A K n I F J I' J' → Q (.inl none) (K, n, I', F, J'))
    (w2 : inR v M → inR y 100 → ∀ I' J', MD (fun q => q = 0) K n I' F J' m A x L st (va_up rc (xN v) ((rc (xN v)).1, zput (rc (xN v)).2 (xN y) (z.toBitVec.toNat % 256))) M Ld rf jn u does stops code → MT m A K n I F J I' J' → Q (.inl none) (K, n, I', F, J')) :
    AW E m_Mo_octet (K, n, I, F, J) cb sb Q 0 [some (.ref m), some (.int v), some (.int y), some (.int z), none, none] [] := by
  obtain ⟨V, T, hS, -, hV⟩ := h
  refine mo_octet hS hV.2.2.1.1 (fun e I' S' => w1 e _ _ ⟨_, _, S'.re, zup_s _ _ _ _, hV.z 1⟩ S'.gr) (fun hv hy I' V' S' z0 rt g => ?_)
  refine w2 hv hy _ _ ⟨V', _, S'.re, z0, ?_⟩ S'.gr
  obtain ⟨h1, h2, ⟨h3, h3'⟩, ⟨h4, h4'⟩, ⟨h5, h5'⟩, ⟨h6, h6'⟩, h7, h8, h9, h10, h11⟩ := hV
  obtain ⟨t0, t1, t2, t3⟩ := inR_e (by have := h3.2.1; omega) hv
  rw [t3] at rt g ⊢
  refine ⟨h1.fx (g 0 2 (by omega) (by omega) (by omega)) (fun j => g 1 j (by omega) (by omega) (by omega)), h2.fx (fun f j a b => g f j (by omega) (by omega) (by omega)), ⟨⟨(g 0 15 (by omega) (by omega) (by omega)).trans h3.1, h3.2.1, fun t ht => ?_⟩, fun t a b => (g 13 t (by omega) (by omega) (by omega)).trans (h3' t (by omega) b)⟩, ⟨h4.fx h4' (g 26 0 (by omega) (by omega) (by omega)) (fun j _ => g 24 j (by omega) (by omega) (by omega)) (fun j _ => g 25 j (by omega) (by omega) (by omega)) (fun j => g 27 j (by omega) (by omega) (by omega)) (fun j => g 28 j (by omega) (by omega) (by omega)), h4'⟩, ⟨h5.fx h5' (g 26 1 (by omega) (by omega) (by omega)) (fun j _ _ => g 24 j (by omega) (by omega) (by omega)) (fun j _ _ => g 25 j (by omega) (by omega) (by omega)), h5'⟩, ⟨h6.fx h6' (g 26 2 (by omega) (by omega) (by omega)) (fun j _ _ => g 24 j (by omega) (by omega) (by omega)) (fun j _ _ => g 25 j (by omega) (by omega) (by omega)), h6'⟩, h7.fx (g 0 30 (by omega) (by omega) (by omega)) (fun j => g 29 j (by omega) (by omega) (by omega)), h8, (g 0 16 (by omega) (by omega) (by omega)).trans h9, (g 0 18 (by omega) (by omega) (by omega)).trans h10, (g 0 17 (by omega) (by omega) (by omega)).trans h11⟩
  obtain ⟨⟨⟨q1, q2, q3, q4⟩, q5⟩, q6, q7⟩ := h3.2.2 t ht
  by_cases e : t = t0
  · subst e
    rw [va_up_s]
    exact ⟨rt, (g 14 t (by omega) (by omega) (by omega)).trans q6, q7⟩
  · rw [va_up_n _ _ e]
    exact ⟨⟨⟨(g 13 t (by omega) (by omega) (by omega)).trans q1, q2, q3, fun k hk => (g 12 _ (by omega) (by omega) (by omega)).trans (q4 k hk)⟩, q5⟩, (g 14 t (by omega) (by omega) (by omega)).trans q6, q7⟩
theorem md_run (h : MD c K n I F J m A x L st rc M Ld rf jn u does stops code) (w : ∀ I' J', MD anyI K n I' F J' m A x L st rc M (runF st rc M does stops).1 (runF st rc M does stops).2.1 jn u does stops (runF st rc M does stops).2.2 → MT m A K n I F J I' J' → Q (.inl (some (.int (nI (runF st rc M does stops).1.length)))) (K, n, I', F, J')) :
    AW E m_Mo_run (K, n, I, F, J) cb sb Q 0 [some (.ref m), none, none, none, none, none, none, none] [] := by
  obtain ⟨V, T, hS, -, hV⟩ := h
  obtain ⟨h1, ⟨b, h2⟩, ⟨h3, h3'⟩, ⟨h4, h4'⟩, ⟨h5, h5'⟩, ⟨h6, h6'⟩, h7, h8, h9, h10, h11⟩ := hV
  obtain ⟨l1, l2, l3⟩ := runF_len st rc M does stops
  have hM := h3.2.1
  refine mo_run hS h2 h3 h8 h9 h10 (fun I' J' V' T' S' ld rf' cd g => w _ _ ⟨V', T', S'.re, trivial, h1.fx (g 0 2 (by omega) (by omega) (by omega) (by omega) (by omega) (by omega)) (fun j => g 1 j (by omega) (by omega) (by omega) (by omega) (by omega) (by omega)), ⟨b, h2.oF (fun f j a b => g f j (by omega) (by omega) (by omega) (by omega) (by omega) (by omega))⟩, ⟨h3.fr (g 0 15 (by omega) (by omega) (by omega) (by omega) (by omega) (by omega)) (fun f j z => g f j (by omega) (by omega) (by omega) (by omega) (by omega) (by omega)), fun t a b => (g 13 t (by omega) (by omega) (by omega) (by omega) (by omega) (by omega)).trans (h3' t a b)⟩, ⟨ld, by omega⟩, ⟨rf', by omega⟩, ⟨h6.fx h6' (g 26 2 (by omega) (by omega) (by omega) (by omega) (by omega) (by omega)) (fun j _ _ => g 24 j (by omega) (by omega) (by omega) (by omega) (by omega) (by omega)) (fun j _ _ => g 25 j (by omega) (by omega) (by omega) (by omega) (by omega) (by omega)), h6'⟩, h7.fx (g 0 30 (by omega) (by omega) (by omega) (by omega) (by omega) (by omega)) (fun j => g 29 j (by omega) (by omega) (by omega) (by omega) (by omega) (by omega)), h8, (g 0 16 (by omega) (by omega) (by omega) (by omega) (by omega) (by omega)).trans h9, (g 0 18 (by omega) (by omega) (by omega) (by omega) (by omega) (by omega)).trans h10, cd⟩ S'.gr)
theorem md_join {v y : Int32} (h : MD c K n I F J m A x L st rc M Ld rf jn u does stops code) (w1 : ¬ (st.1 ≠ [] ∧ inR v 3 ∧ inR y 3 ∧ v ≠ y) → ∀ I' J', MD anyI K n I' F J' m A x L st rc M Ld rf jn u does stops code → MT m A K n I F J I' J' → Q (.inl (some (.int (-1)))) (K, n, I', F, J'))
    (w2 : (st.1 ≠ [] ∧ inR v 3 ∧ inR y 3 ∧ v ≠ y) → ∀ I' J', MD anyI K n I' F J' m A x L st rc M Ld rf (joinF st rc M (xN v) (xN y)).1 (joinF st rc M (xN v) (xN y)).2 does stops code → MT m A K n I F J I' J' → Q (.inl (some (.int (nI (joinF st rc M (xN v) (xN y)).1.length)))) (K, n, I', F, J')) :
    AW E m_Mo_join (K, n, I, F, J) cb sb Q 0 [some (.ref m), some (.int v), some (.int y), none, none, none, none, none] [] := by
  obtain ⟨V, T, hS, -, hV⟩ := h
  have hV0 := hV.z 0
  obtain ⟨h1, ⟨b, h2⟩, ⟨h3, h3'⟩, ⟨h4, h4'⟩, ⟨h5, h5'⟩, ⟨h6, h6'⟩, h7, h8, h9, h10, h11⟩ := hV
  obtain ⟨l1, l2, l3⟩ := joinF_len st rc M (xN v) (xN y)
  refine mo_join hS h2 h3 (fun e I' S' => w1 e _ _ ⟨_, _, S'.re, trivial, hV0⟩ S'.gr) (fun e I' V' S' jr lf g => w2 e _ _ ⟨V', _, S'.re, trivial, h1.fx (g 0 2 (by omega) (by omega) (by omega) (by omega) (by omega)) (fun j => g 1 j (by omega) (by omega) (by omega) (by omega) (by omega)), ⟨b, h2.oF (fun f j a b => g f j (by omega) (by omega) (by omega) (by omega) (by omega))⟩, ⟨h3.fr (g 0 15 (by omega) (by omega) (by omega) (by omega) (by omega)) (fun f j z => g f j (by omega) (by omega) (by omega) (by omega) (by omega)), fun t a b => (g 13 t (by omega) (by omega) (by omega) (by omega) (by omega)).trans (h3' t a b)⟩, ⟨h4.fx h4' (g 26 0 (by omega) (by omega) (by omega) (by omega) (by omega)) (fun j _ => g 24 j (by omega) (by omega) (by omega) (by omega) (by omega)) (fun j _ => g 25 j (by omega) (by omega) (by omega) (by omega) (by omega)) (fun j => g 27 j (by omega) (by omega) (by omega) (by omega) (by omega)) (fun j => g 28 j (by omega) (by omega) (by omega) (by omega) (by omega)), h4'⟩, ⟨h5.fx h5' (g 26 1 (by omega) (by omega) (by omega) (by omega) (by omega)) (fun j _ _ => g 24 j (by omega) (by omega) (by omega) (by omega) (by omega)) (fun j _ _ => g 25 j (by omega) (by omega) (by omega) (by omega) (by omega)), h5'⟩, ⟨jr, l1⟩, lf, h8, (g 0 16 (by omega) (by omega) (by omega) (by omega) (by omega)).trans h9, (g 0 18 (by omega) (by omega) (by omega) (by omega) (by omega)).trans h10, (g 0 17 (by omega) (by omega) (by omega) (by omega) (by omega)).trans h11⟩ S'.gr)
theorem md_thrown {v : Int32} (h : MD (fun q => q = v) K n I F J m A x L st rc M Ld rf jn u does stops code) (w : Q (.inl (some (.int v))) (K, n, I, F, J)) : AW E m_Mo_thrown (K, n, I, F, J) cb sb Q 0 [some (.ref m)] [] := by
  obtain ⟨V, T, hS, e, hV⟩ := h
  exact mo_thrown hS (by rw [e]; exact w)
theorem md_out {v y z : Int32} (h : MD c K n I F J m A x L st rc M Ld rf jn u does stops code) (w : ∀ I' J', MD anyI K n I' F J' m A x L st rc M Ld rf jn u does stops code → MT m A K n I F J I' J' → Q (.inl (some (.int (outA (Bo3 Ld rf jn) v y z)))) (K, n, I', F, J')) :
    AW E m_Mo_out (K, n, I, F, J) cb sb Q 0 [some (.ref m), some (.int v), some (.int y), some (.int z)] [] := by
  obtain ⟨V, T, hS, -, hV⟩ := h
  exact mo_out hS hV.B (fun I' S' => w _ _ ⟨_, _, S'.re, trivial, hV.z 0⟩ S'.gr)
theorem md_total {v y : Int32} (h : MD c K n I F J m A x L st rc M Ld rf jn u does stops code) (w : ∀ I' J', MD anyI K n I' F J' m A x L st rc M Ld rf jn u does stops code → MT m A K n I F J I' J' → Q (.inl (some (.int (totA (Bo3 Ld rf jn) v y)))) (K, n, I', F, J')) :
    AW E m_Mo_total (K, n, I, F, J) cb sb Q 0 [some (.ref m), some (.int v), some (.int y), none, none] [] := by
  obtain ⟨V, T, hS, -, hV⟩ := h
  exact mo_total hS hV.B (fun I' S' => w _ _ ⟨_, _, S'.re, trivial, hV.z 0⟩ S'.gr)
theorem md_sum {v y : Int32} (h : MD c K n I F J m A x L st rc M Ld rf jn u does stops code) (w : ∀ I' J', MD anyI K n I' F J' m A x L st rc M Ld rf jn u does stops code → MT m A K n I F J I' J' → Q (.inl (some (.int (sumA (Ld.map Prod.fst) (Ld.map Prod.snd) v y)))) (K, n, I', F, J')) :
    AW E m_Mo_sum (K, n, I, F, J) cb sb Q 0 [some (.ref m), some (.int v), some (.int y)] [] := by
  obtain ⟨V, T, hS, -, hV⟩ := h
  exact mo_sum hS hV.B hV.2.2.2.1.1 rfl (fun I' S' => w _ _ ⟨_, _, S'.re, trivial, hV.z 0⟩ S'.gr)
theorem md_left {v : Int32} (h : MD c K n I F J m A x L st rc M Ld rf jn u does stops code) (w : ∀ I' J', MD anyI K n I' F J' m A x L st rc M Ld rf jn u does stops code → MT m A K n I F J I' J' → Q (.inl (some (.int (lefA u v)))) (K, n, I', F, J')) :
    AW E m_Mo_left (K, n, I, F, J) cb sb Q 0 [some (.ref m), some (.int v)] [] := by
  obtain ⟨V, T, hS, -, hV⟩ := h
  exact mo_left hS hV.2.2.2.2.2.2.1 (fun I' S' => w _ _ ⟨_, _, S'.re, trivial, hV.z 0⟩ S'.gr)
theorem md_code (h : MD c K n I F J m A x L st rc M Ld rf jn u does stops code) (w : ∀ I' J', MD anyI K n I' F J' m A x L st rc M Ld rf jn u does stops code → MT m A K n I F J I' J' → Q (.inl (some (.int (nI code)))) (K, n, I', F, J')) :
    AW E m_Mo_code (K, n, I, F, J) cb sb Q 0 [some (.ref m)] [] := by
  obtain ⟨V, T, hS, -, hV⟩ := h
  refine mo_code hS (fun I' S' => ?_)
  have e : V 0 17 = nI code := hV.2.2.2.2.2.2.2.2.2.2
  rw [e]
  exact w _ _ ⟨_, _, S'.re, trivial, hV.z 0⟩ S'.gr
theorem md_count {v : Int32} (h : MD c K n I F J m A x L st rc M Ld rf jn u does stops code) (w : ∀ I' J', MD anyI K n I' F J' m A x L st rc M Ld rf jn u does stops code → MT m A K n I F J I' J' → Q (.inl (some (.int (cntA st M (Bo3 Ld rf jn) v)))) (K, n, I', F, J')) :
    AW E m_Mo_count (K, n, I, F, J) cb sb Q 0 [some (.ref m), some (.int v)] [] := by
  obtain ⟨V, T, hS, -, hV⟩ := h
  obtain ⟨b, hb⟩ := hV.2.1
  exact mo_count hS hV.B hb hV.2.2.1.1 (fun I' S' => w _ _ ⟨_, _, S'.re, trivial, hV.z 0⟩ S'.gr)
theorem md_plain {v : Int32} (h : MD c K n I F J m A x L st rc M Ld rf jn u does stops code) (w : ∀ I' J', MD anyI K n I' F J' m A x L st rc M Ld rf jn u does stops code → MT m A K n I F J I' J' → Q (.inl (some (.int (plainA st.1 (Bo3 Ld rf jn) v)))) (K, n, I', F, J')) :
    AW E m_Mo_plain (K, n, I, F, J) cb sb Q 0 [some (.ref m), some (.int v), none, none, none, none] [] := by
  obtain ⟨V, T, hS, -, hV⟩ := h
  obtain ⟨b, hb⟩ := hV.2.1
  exact mo_plain hS hb hV.B (fun I' V' S' g => w _ _ ⟨V', _, S'.re, trivial, hV.fr g⟩ S'.gr)
end
