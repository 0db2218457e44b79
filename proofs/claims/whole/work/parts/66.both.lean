-- ===== what the reference holds, abstractly =====
theorem oR.fx {V V' : Nat → Nat → Int32} {o t : Nat} {r : List Nat} (h : oR V o t r) (h24 : ∀ k, k < 100 → V' 24 (15000 * o + 100 * t + k) = V 24 (15000 * o + 100 * t + k)) (h25 : V' 25 (150 * o + t) = V 25 (150 * o + t)) : oR V' o t r := by
  obtain ⟨a, b, c, d⟩ := h
  exact ⟨h25.trans a, b, c, fun k hk => (h24 k (by omega)).trans (d k hk)⟩
theorem mRef.fx {V V' : Nat → Nat → Int32} {o : Nat} {f : List (List Nat)} (h : mRef V o f) (hl : f.length ≤ 150) (h26 : V' 26 o = V 26 o) (h24 : ∀ j, 15000 * o ≤ j → j < 15000 * o + 15000 → V' 24 j = V 24 j) (h25 : ∀ j, 150 * o ≤ j → j < 150 * o + 150 → V' 25 j = V 25 j) : mRef V' o f :=
  ⟨h26.trans h.1, fun t ht => (h.2 t ht).fx (fun k hk => h24 _ (by omega) (by omega)) (h25 _ (by omega) (by omega))⟩
theorem mLd.fx {V V' : Nat → Nat → Int32} {Ld : List zHel} (h : mLd V Ld) (hl : Ld.length ≤ 150) (h26 : V' 26 0 = V 26 0) (h24 : ∀ j, j < 15000 → V' 24 j = V 24 j) (h25 : ∀ j, j < 150 → V' 25 j = V 25 j) (h27 : ∀ j, V' 27 j = V 27 j) (h28 : ∀ j, V' 28 j = V 28 j) : mLd V' Ld :=
  ⟨h26.trans h.1, fun t ht => ⟨(h.2 t ht).1.fx (fun k hk => h24 _ (by omega)) (h25 _ (by omega)), (h27 t).trans (h.2 t ht).2.1, (h28 t).trans (h.2 t ht).2.2⟩⟩
theorem mLf.fx {V V' : Nat → Nat → Int32} {u : List Nat} (h : mLf V u) (h30 : V' 0 30 = V 0 30) (h29 : ∀ j, V' 29 j = V 29 j) : mLf V' u := ⟨h30.trans h.1, h.2.1, fun t ht => (h29 t).trans (h.2.2 t ht)⟩
theorem mT.fx {V V' : Nat → Nat → Int32} {x : zTx} {L : Nat} (h : mT V x L) (h0 : V' 0 2 = V 0 2) (h1 : ∀ j, V' 1 j = V 1 j) : mT V' x L := ⟨h0.trans h.1, h.2.1, fun i hi => ⟨(h1 i).trans (h.2.2 i hi).1, (h.2.2 i hi).2⟩⟩
theorem mSt.fx {V V' : Nat → Nat → Int32} {st : zStm} (h : mSt V st) (hf : ∀ f j, 4 ≤ f → f ≤ 11 → V' f j = V f j) : mSt V' st := by
  obtain ⟨b, hb⟩ := h
  exact ⟨b, hb.oF hf⟩
def MV (V : Nat → Nat → Int32) (x : zTx) (L : Nat) (st : zStm) (rc : zRec) (M : Nat) (Ld : List zHel) (rf jn : List (List Nat)) (u : List Nat) (does : Nat) (stops : Bool) (code : Nat) : Prop :=
  mT V x L ∧ mSt V st ∧ (mRec V rc M ∧ ∀ t, M ≤ t → t < 150 → V 13 t = 0) ∧ (mLd V Ld ∧ Ld.length ≤ 150) ∧ (mRef V 1 rf ∧ rf.length ≤ 150) ∧ (mRef V 2 jn ∧ jn.length ≤ 150) ∧ mLf V u ∧ does < 3 ∧ V 0 16 = nI does ∧ V 0 18 = zB stops ∧ V 0 17 = nI code
/-- thrown() answers c -/
def MD (c : Int32 → Prop) (K n : Nat → Nat) (I : Nat → Nat → Int32) (F : Nat → Nat → Option Nat) (J : Nat → Nat → Int64) (m : Nat) (A : Nat → Nat) (x : zTx) (L : Nat) (st : zStm) (rc : zRec) (M : Nat) (Ld : List zHel) (rf jn : List (List Nat)) (u : List Nat) (does : Nat) (stops : Bool) (code : Nat) : Prop :=
  ∃ V T, MS (I, J) K n I F J m A V T ∧ c (V 0 0) ∧ MV V x L st rc M Ld rf jn u does stops code
abbrev anyI (_ : Int32) : Prop := True
/-- what the reference may have touched -/
def MT (m : Nat) (A : Nat → Nat) (K n : Nat → Nat) (I : Nat → Nat → Int32) (F : Nat → Nat → Option Nat) (J : Nat → Nat → Int64) (I' : Nat → Nat → Int32) (J' : Nat → Nat → Int64) : Prop := GR (mown m A) (K, n, I, F, J) (K, n, I', F, J')
section
variable {V V' : Nat → Nat → Int32} {x : zTx} {L : Nat} {st : zStm} {rc : zRec} {M : Nat} {Ld : List zHel} {rf jn : List (List Nat)} {u : List Nat} {does : Nat} {stops : Bool} {code : Nat}
theorem MV.fr (h : MV V x L st rc M Ld rf jn u does stops code) (hf : ∀ f j, ¬ (f = 0 ∧ j = 0) → f ≠ 40 → f ≠ 41 → V' f j = V f j) : MV V' x L st rc M Ld rf jn u does stops code := by
  obtain ⟨h1, h2, ⟨h3, h3'⟩, ⟨h4, h4'⟩, ⟨h5, h5'⟩, ⟨h6, h6'⟩, h7, h8, h9, h10, h11⟩ := h
  have g : ∀ f j, 1 ≤ f → f ≤ 39 → V' f j = V f j := fun f j a b => hf f j (by omega) (by omega) (by omega)
  have g0 : ∀ j, 1 ≤ j → V' 0 j = V 0 j := fun j a => hf 0 j (by omega) (by decide) (by decide)
  refine ⟨h1.fx (g0 2 (by decide)) (fun j => g 1 j (by decide) (by decide)), h2.fx (fun f j a b => g f j (by omega) (by omega)), ⟨h3.fr (g0 15 (by decide)) (fun f j z => g f j (by omega) (by omega)), fun t a b => (g 13 t (by decide) (by decide)).trans (h3' t a b)⟩, ⟨h4.fx h4' (g 26 0 (by decide) (by decide)) (fun j _ => g 24 j (by decide) (by decide)) (fun j _ => g 25 j (by decide) (by decide)) (fun j => g 27 j (by decide) (by decide)) (fun j => g 28 j (by decide) (by decide)), h4'⟩, ⟨h5.fx h5' (g 26 1 (by decide) (by decide)) (fun j _ _ => g 24 j (by decide) (by decide)) (fun j _ _ => g 25 j (by decide) (by decide)), h5'⟩, ⟨h6.fx h6' (g 26 2 (by decide) (by decide)) (fun j _ _ => g 24 j (by decide) (by decide)) (fun j _ _ => g 25 j (by decide) (by decide)), h6'⟩, h7.fx (g0 30 (by decide)) (fun j => g 29 j (by decide) (by decide)), h8, (g0 16 (by decide)).trans h9, (g0 18 (by decide)).trans h10, (g0 17 (by decide)).trans h11⟩
theorem zup_ff {f j f' j' : Nat} {v : Int32} (h : ¬ (f' = f ∧ j' = j)) : zup V f j v f' j' = V f' j' := by
  by_cases e : f' = f
  · subst e; exact zup_k _ _ _ (fun z => h ⟨rfl, z⟩) _
  · rw [zup_n _ _ _ e]
theorem MV.z (h : MV V x L st rc M Ld rf jn u does stops code) (v : Int32) : MV (zup V 0 0 v) x L st rc M Ld rf jn u does stops code := h.fr (fun f j a _ _ => zup_ff a)
theorem MV.B (h : MV V x L st rc M Ld rf jn u does stops code) : mBs V (Bo3 Ld rf jn) := by
  obtain ⟨h1, h2, ⟨h3, h3'⟩, ⟨h4, h4'⟩, ⟨h5, h5'⟩, ⟨h6, h6'⟩, h7, h8, h9, h10, h11⟩ := h
  intro o ho
  rcases (by omega : o = 0 ∨ o = 1 ∨ o = 2) with q | q | q
  · subst q
    refine ⟨⟨?_, fun t ht => ?_⟩, ?_⟩
    · show V 26 0 = nI (Ld.map Prod.fst).length
      rw [List.length_map]; exact h4.1
    · show oR V 0 t ((Ld.map Prod.fst).getD t [])
      rw [map_fst_getD]
      exact (h4.2 t (by have : t < (Ld.map Prod.fst).length := ht; rw [List.length_map] at this; exact this)).1
    · show (Ld.map Prod.fst).length ≤ 150
      rw [List.length_map]; exact h4'
  · subst q; exact ⟨h5, h5'⟩
  · subst q; exact ⟨h6, h6'⟩
end
section
variable {c : Int32 → Prop} {E : zE} {K n : Nat → Nat} {I : Nat → Nat → Int32} {F : Nat → Nat → Option Nat} {J : Nat → Nat → Int64} {m : Nat} {A : Nat → Nat} {Q : zO → zH → Prop} {x : zTx} {L : Nat} {st : zStm} {rc : zRec} {M : Nat} {Ld : List zHel} {rf jn : List (List Nat)} {u : List Nat} {does : Nat} {stops : Bool} {code cb sb : Nat}
theorem MD.any (h : MD c K n I F J m A x L st rc M Ld rf jn u does stops code) : MD anyI K n I F J m A x L st rc M Ld rf jn u does stops code := by
  obtain ⟨V, T, h1, -, h3⟩ := h
  exact ⟨V, T, h1, trivial, h3⟩
theorem MD.L5 (h : MD c K n I F J m A x L st rc M Ld rf jn u does stops code) : L ≤ 500 := by
  obtain ⟨V, T, h1, -, h3⟩ := h
  exact h3.1.2.1
theorem MD.ok (h : MD c K n I F J m A x L st rc M Ld rf jn u does stops code) : okS st ∧ does < 3 ∧ (∀ t, t < M → (rc t).1 < 3) ∧ u.length ≤ 150 := by
  obtain ⟨V, T, h1, -, h3⟩ := h
  obtain ⟨h1, ⟨b, h2⟩, ⟨h3, h3'⟩, ⟨h4, h4'⟩, ⟨h5, h5'⟩, ⟨h6, h6'⟩, h7, h8, h9, h10, h11⟩ := h3
  exact ⟨h2.1.1, h8, fun t ht => (h3.2.2 t ht).2.2, h7.2.1⟩
theorem MD.K9 (h : MD c K n I F J m A x L st rc M Ld rf jn u does stops code) : K m = 9 := by
  obtain ⟨V, T, h1, -, h3⟩ := h
  exact h1.K9
theorem md_sign {v : Int32} (h : MD c K n I F J m A x L st rc M Ld rf jn u does stops code) (w1 : L = 500 → ∀ I' J', MD anyI K n I' F J' m A x L st rc M Ld rf jn u does stops code → MT m A K n I F J I' J' → Q (.inl none) (K, n, I', F, J'))
    (w2 : L < 500 → ∀ I' J', MD anyI K n I' F J' m A (va_up x L (sgU v)) (L + 1) st rc M Ld rf jn u does stops code → MT m A K n I F J I' J' → Q (.inl none) (K, n, I', F, J')) :
    AW E m_Mo_sign1 (K, n, I, F, J) cb sb Q 0 [some (.ref m), some (.int v)] [] := by
  have hL5 := h.L5
  obtain ⟨V, T, hS, -, hV⟩ := h
  refine mo_sgn hS hV.1.1 hL5 (fun e I' S' => w1 e _ _ ⟨_, _, S'.re, trivial, hV.z 0⟩ S'.gr) (fun e I' S' => w2 e _ _ ⟨_, _, S'.re, trivial, ?_⟩ S'.gr)
  obtain ⟨h1, h2, ⟨h3, h3'⟩, ⟨h4, h4'⟩, ⟨h5, h5'⟩, ⟨h6, h6'⟩, h7, h8, h9, h10, h11⟩ := hV.z 0
  generalize zup V 0 0 0 = V0 at *
  have g : ∀ f j, ¬ (f = 1 ∧ j = L) → ¬ (f = 0 ∧ j = 2) → zup (zup V0 1 L (if 0 ≤ v then v else 0)) 0 2 (nI (L + 1)) f j = V0 f j := fun f j a b => by rw [zup_ff b, zup_ff a]
  refine ⟨⟨zup_s _ _ _ _, by omega, fun i hi => ?_⟩, h2.fx (fun f j a b => g f j (by omega) (by omega)), ⟨h3.fr (g 0 15 (by omega) (by omega)) (fun f j z => g f j (by omega) (by omega)), fun t a b => (g 13 t (by omega) (by omega)).trans (h3' t a b)⟩, ⟨h4.fx h4' (g 26 0 (by omega) (by omega)) (fun j _ => g 24 j (by omega) (by omega)) (fun j _ => g 25 j (by omega) (by omega)) (fun j => g 27 j (by omega) (by omega)) (fun j => g 28 j (by omega) (by omega)), h4'⟩, ⟨h5.fx h5' (g 26 1 (by omega) (by omega)) (fun j _ _ => g 24 j (by omega) (by omega)) (fun j _ _ => g 25 j (by omega) (by omega)), h5'⟩, ⟨h6.fx h6' (g 26 2 (by omega) (by omega)) (fun j _ _ => g 24 j (by omega) (by omega)) (fun j _ _ => g 25 j (by omega) (by omega)), h6'⟩, h7.fx (g 0 30 (by omega) (by omega)) (fun j => g 29 j (by omega) (by omega)), h8, (g 0 16 (by omega) (by omega)).trans h9, (g 0 18 (by omega) (by omega)).trans h10, (g 0 17 (by omega) (by omega)).trans h11⟩
  by_cases z : i = L
  · subst z
    rw [zup_ff (by omega), zup_s, va_up_s]
    exact (sgU_ok v).2
  · rw [g 1 i (by omega) (by omega), va_up_n _ _ z]; exact h1.2.2 i (by omega)
theorem md_read (h : MD c K n I F J m A x L st rc M Ld rf jn u does stops code)
    (w1 : ∀ s q, readP x L = (some s, q) → ∀ I' J', MD anyI K n I' F J' m A x 0 s rc M Ld rf jn u does stops code → MT m A K n I F J I' J' → Q (.inl (some (.int (nI s.2.2.2.2.2.2.2)))) (K, n, I', F, J'))
    (w2 : ∀ q, readP x L = (none, q) → ∀ I' J', MD anyI K n I' F J' m A x 0 st rc M Ld rf jn u does stops code → MT m A K n I F J I' J' → Q (.inl (some (.int (((-1) : Int32) - nI q)))) (K, n, I', F, J')) :
    AW E m_Mo_read (K, n, I, F, J) cb sb Q 0 [some (.ref m), none, none] [] := by
  obtain ⟨V, T, hS, -, hV⟩ := h
  obtain ⟨h1, h2, ⟨h3, h3'⟩, ⟨h4, h4'⟩, ⟨h5, h5'⟩, ⟨h6, h6'⟩, h7, h8, h9, h10, h11⟩ := hV
  have key : ∀ (V' : Nat → Nat → Int32) (s : zStm), V' 0 2 = 0 → mSt V' s → (∀ f j, ¬ (f = 0 ∧ (j = 0 ∨ j = 2 ∨ j = 3)) → ¬ (4 ≤ f ∧ f ≤ 11) → ¬ (31 ≤ f ∧ f ≤ 38) → V' f j = V f j) → MV V' x 0 s rc M Ld rf jn u does stops code := fun V' s z2 zs g =>
    ⟨⟨z2, by omega, fun i hi => absurd hi (Nat.not_lt_zero _)⟩, zs, ⟨h3.fr (g 0 15 (by omega) (by omega) (by omega)) (fun f j z => g f j (by omega) (by omega) (by omega)), fun t a b => (g 13 t (by omega) (by omega) (by omega)).trans (h3' t a b)⟩, ⟨h4.fx h4' (g 26 0 (by omega) (by omega) (by omega)) (fun j _ => g 24 j (by omega) (by omega) (by omega)) (fun j _ => g 25 j (by omega) (by omega) (by omega)) (fun j => g 27 j (by omega) (by omega) (by omega)) (fun j => g 28 j (by omega) (by omega) (by omega)), h4'⟩, ⟨h5.fx h5' (g 26 1 (by omega) (by omega) (by omega)) (fun j _ _ => g 24 j (by omega) (by omega) (by omega)) (fun j _ _ => g 25 j (by omega) (by omega) (by omega)), h5'⟩, ⟨h6.fx h6' (g 26 2 (by omega) (by omega) (by omega)) (fun j _ _ => g 24 j (by omega) (by omega) (by omega)) (fun j _ _ => g 25 j (by omega) (by omega) (by omega)), h6'⟩, h7.fx (g 0 30 (by omega) (by omega) (by omega)) (fun j => g 29 j (by omega) (by omega) (by omega)), h8, (g 0 16 (by omega) (by omega) (by omega)).trans h9, (g 0 18 (by omega) (by omega) (by omega)).trans h10, (g 0 17 (by omega) (by omega) (by omega)).trans h11⟩
  exact mo_read hS h1 h2 (fun s q I' V' e S' z2 zs g => w1 s q e _ _ ⟨V', _, S'.re, trivial, key V' s z2 zs g⟩ S'.gr) (fun q I' V' e S' z2 zs g => w2 q e _ _ ⟨V', _, S'.re, trivial, key V' st z2 zs g⟩ S'.gr)
theorem md_exit {v : Int32} {b : Bool} (h : MD c K n I F J m A x L st rc M Ld rf jn u does stops code) (w1 : ¬ inR v 3 → ∀ I' J', MD anyI K n I' F J' m A x L st rc M Ld rf jn u does stops code → MT m A K n I F J I' J' → Q (.inl (some (.int (-1)))) (K, n, I', F, J'))
    (w2 : inR v 3 → ∀ I' J', MD anyI K n I' F J' m A x L st rc M Ld rf jn u (xN v) b code → MT m A K n I F J I' J' → Q (.inl (some (.int (nI does)))) (K, n, I', F, J')) :
    AW E m_Mo_exit (K, n, I, F, J) cb sb Q 0 [some (.ref m), some (.int v), some (.int (zB b)), none] [] := by
  obtain ⟨V, T, hS, -, hV⟩ := h
  refine mo_exit hS (by cases b; exact Or.inl rfl; exact Or.inr rfl) (fun e I' S' => w1 e _ _ ⟨_, _, S'.re, trivial, hV.z 0⟩ S'.gr) (fun hv I' S' => ?_)
  obtain ⟨t0, t1, t2, t3⟩ := inR_e (by decide) hv
  have h16 : V 0 16 = nI does := hV.2.2.2.2.2.2.2.2.1
  rw [h16]
  refine w2 hv _ _ ⟨_, _, S'.re, trivial, ?_⟩ S'.gr
  obtain ⟨h1, h2, ⟨h3, h3'⟩, ⟨h4, h4'⟩, ⟨h5, h5'⟩, ⟨h6, h6'⟩, h7, h8, h9, h10, h11⟩ := hV.z 0
  generalize zup V 0 0 0 = V0 at *
  have g : ∀ f j, ¬ (f = 0 ∧ j = 16) → ¬ (f = 0 ∧ j = 18) → zup (zup V0 0 16 v) 0 18 (zB b) f j = V0 f j := fun f j a b => by rw [zup_ff b, zup_ff a]
  refine ⟨h1.fx (g 0 2 (by omega) (by omega)) (fun j => g 1 j (by omega) (by omega)), h2.fx (fun f j a b => g f j (by omega) (by omega)), ⟨h3.fr (g 0 15 (by omega) (by omega)) (fun f j z => g f j (by omega) (by omega)), fun t a b => (g 13 t (by omega) (by omega)).trans (h3' t a b)⟩, ⟨h4.fx h4' (g 26 0 (by omega) (by omega)) (fun j _ => g 24 j (by omega) (by omega)) (fun j _ => g 25 j (by omega) (by omega)) (fun j => g 27 j (by omega) (by omega)) (fun j => g 28 j (by omega) (by omega)), h4'⟩, ⟨h5.fx h5' (g 26 1 (by omega) (by omega)) (fun j _ _ => g 24 j (by omega) (by omega)) (fun j _ _ => g 25 j (by omega) (by omega)), h5'⟩, ⟨h6.fx h6' (g 26 2 (by omega) (by omega)) (fun j _ _ => g 24 j (by omega) (by omega)) (fun j _ _ => g 25 j (by omega) (by omega)), h6'⟩, h7.fx (g 0 30 (by omega) (by omega)) (fun j => g 29 j (by omega) (by omega)), by omega, ?_, zup_s _ _ _ _, (g 0 17 (by omega) (by omega)).trans h11⟩
  rw [zup_ff (by omega), zup_s, t3]; exact t2
end
