-- ===== what the class holds, abstractly =====
theorem cB.fr {k k' : Nat → Nat} {X X' R R' : Nat → List Nat} {i : Nat} {B : List (List Nat)} (h : cB k X R i B) (hk : k' i = k i) (hR : ∀ t, t < k i → R' ((X' i).getD t 0) = R ((X i).getD t 0)) : cB k' X' R' i B :=
  ⟨h.1.trans hk.symm, fun t ht => (hR t (by omega)).trans (h.2 t (by omega))⟩
theorem LD.fr {k k' : Nat → Nat} {X X' R R' : Nat → List Nat} {N N' : Nat → Nat × Nat × Nat} {Ld : List zHel} (h : LD k X R N Ld) (hk : k' 1 = k 1) (hR : ∀ t, t < k 1 → R' ((X' 1).getD t 0) = R ((X 1).getD t 0) ∧ N' ((X' 1).getD t 0) = N ((X 1).getD t 0)) : LD k' X' R' N' Ld :=
  ⟨h.1.trans hk.symm, fun t ht => ⟨(hR t (by omega)).1.trans (h.2 t (by omega)).1, (congrArg Prod.snd (hR t (by omega)).2).trans (h.2 t (by omega)).2⟩⟩
theorem map_fst_getD (Ld : List zHel) (t : Nat) : (Ld.map Prod.fst).getD t [] = (Ld.getD t ([], 0, 0)).1 := by
  rw [List.getD_eq_getElem?_getD, List.getD_eq_getElem?_getD, List.getElem?_map]
  cases Ld[t]? <;> rfl
theorem map_snd_getD (Ld : List zHel) (t : Nat) : (Ld.map Prod.snd).getD t (0, 0) = (Ld.getD t ([], 0, 0)).2 := by
  rw [List.getD_eq_getElem?_getD, List.getD_eq_getElem?_getD, List.getElem?_map]
  cases Ld[t]? <;> rfl
/-- the three outputs -/
def Bo3 (Ld : List zHel) (rf jn : List (List Nat)) (o : Nat) : List (List Nat) := if o = 0 then Ld.map Prod.fst else if o = 1 then rf else jn
def pot (a b c d e f : Nat) : Nat := 3 * (150 - a) + 3 * (150 - b) + 3 * (150 - c) + 3 * (150 - d) + (150 - e) + (150 - f)
def potS (a b c d e f : Nat) : Nat := 405 * (150 - a) + 405 * (150 - b) + 405 * (150 - c) + 405 * (150 - d) + 300 * (150 - e) + 300 * (150 - f)
def AB (k : Nat → Nat) (X R : Nat → List Nat) (N : Nat → Nat × Nat × Nat) (pu : List Nat) (cu cp : Nat) (D Sg : Nat → Int32) (x : zTx) (L : Nat) (rc : zRec) (M : Nat) (Ld : List zHel) (rf jn : List (List Nat)) (u : List Nat) (does : Nat) (stops : Bool) (code pc ps : Nat) : Prop :=
  (D 1 = nI L ∧ ∀ i, i < L → zc (Sg i) (x i)) ∧ (k 0 = M ∧ (X 0).length = M ∧ RB k X R N rc) ∧ (LD k X R N Ld ∧ cB k X R 2 rf ∧ cB k X R 3 jn) ∧ (pu = xm X u ∧ ∀ j ∈ u, j < M) ∧ (D 8 = nI does ∧ D 9 = zB stops ∧ D 14 = nI code) ∧ pot (X 0).length (X 1).length (X 2).length (X 3).length cu cp ≤ pc ∧ potS (X 0).length (X 1).length (X 2).length (X 3).length cu cp ≤ ps
abbrev zUo : Type := Nat × Nat × Nat × Nat × (Nat → Nat) × (Nat → Nat)
def CS (E : zE) (Uo : zUo) (K n : Nat → Nat) (I : Nat → Nat → Int32) (F : Nat → Nat → Option Nat) (J : Nat → Nat → Int64) (x : zTx) (L : Nat) (st : zStm) (rc : zRec) (M : Nat) (Ld : List zHel) (rf jn : List (List Nat)) (u : List Nat) (does : Nat) (stops : Bool) (code pc ps : Nat) : Prop :=
  ∃ k X R N pu cu pp cp D Sg, CC E ((K, n, I, F, J), Uo) K n I F J k X R N st pu cu pp cp D Sg ∧ AB k X R N pu cu cp D Sg x L rc M Ld rf jn u does stops code pc ps
/-- what the class may have touched -/
def CT (Uo : zUo) (K n : Nat → Nat) (I : Nat → Nat → Int32) (F : Nat → Nat → Option Nat) (J : Nat → Nat → Int64) (h' : zH) : Prop := GR (mine ((K, n, I, F, J), Uo)) (K, n, I, F, J) h'
def sgU (v : Int32) : Nat := if 0 ≤ v then xN v else 0
theorem sgU_ok (v : Int32) : zc v (sgU v) ∧ (if 0 ≤ v then v else 0) = nI (sgU v) ∧ sgU v < 2 ^ 31 := by
  unfold sgU
  by_cases h : 0 ≤ v
  · rw [if_pos h, if_pos h]
    have e : v.toInt = (xN v : Int) := by
      have h0 : (0 : Int) ≤ v.toInt := by simpa using Int32.le_iff_toInt_le.mp h
      have : v.toInt = v.toBitVec.toInt := rfl
      rw [this, BitVec.toInt_eq_toNat_cond] at h0 ⊢
      have hl : v.toBitVec.toNat < 2 ^ 32 := v.toBitVec.isLt
      unfold xN
      split at h0
      · rw [if_pos (by assumption)]
      · omega
    have hb : xN v < 2 ^ 31 := by have := Int32.toInt_lt v; omega
    have e2 : v = nI (xN v) := by
      apply Int32.toInt_inj.mp
      rw [e, nI_toInt hb]
    exact ⟨⟨hb, Or.inl e2⟩, e2, hb⟩
  · rw [if_neg h, if_neg h]
    exact ⟨⟨by decide, Or.inr ⟨Int32.not_le.mp h, rfl⟩⟩, rfl, by decide⟩
theorem pickF_len (st : zStm) (rc : zRec) : ∀ (d i s : Nat) (p : List Nat) (f : List (List Nat)), (pickF st rc d i s p f).1.length ≤ p.length + d ∧ (pickF st rc d i s p f).2.length ≤ f.length + d
  | 0, i, s, p, f => by unfold pickF; exact ⟨Nat.le_refl _, Nat.le_refl _⟩
  | d + 1, i, s, p, f => by
    unfold pickF
    split
    · split
      · split
        · have := pickF_len st rc d (i + 1) (s + 1) (insI st.1 rc p i) f
          rw [insI_len] at this; omega
        · have := pickF_len st rc d (i + 1) (s + 1) p (f ++ [(rc i).2])
          rw [List.length_append, List.length_singleton] at this; omega
      · have := pickF_len st rc d (i + 1) (s + 1) p f; omega
    · have := pickF_len st rc d (i + 1) s p f; omega
theorem runF_len (st : zStm) (rc : zRec) (m does : Nat) (stops : Bool) : (pickF st rc m 0 0 [] []).1.length ≤ m ∧ (runF st rc m does stops).1.length ≤ m ∧ (runF st rc m does stops).2.1.length ≤ m := by
  have h := pickF_len st rc m 0 0 [] []
  simp only [List.length_nil, Nat.zero_add] at h
  refine ⟨h.1, ?_, h.2⟩
  unfold runF
  show (delivF st rc does stops (pickF st rc m 0 0 [] []).1).1.length ≤ m
  generalize (pickF st rc m 0 0 [] []).1 = P at h ⊢
  cases P with
  | nil => exact Nat.zero_le _
  | cons i is =>
    have := (sdF_ge st rc does stops is ((rc i).2, i, 1) 0 [] 0).2.1
    unfold delivF
    simp only [List.length_nil, List.length_cons, Nat.zero_add] at this h ⊢
    omega
theorem jnF_mem (key : zKey) (rc : zRec) (a b wd m : Nat) : ∀ (d i : Nat) (L : List (List Nat)) (u : List Nat), (∀ j ∈ u, j < i) → ∀ j ∈ (jnF key rc a b wd m d i L u).2, j < i + d
  | 0, i, L, u, h, j, hj => by unfold jnF at hj; exact h j hj
  | d + 1, i, L, u, h, j, hj => by
    unfold jnF at hj
    split at hj
    · have := jnF_mem key rc a b wd m d (i + 1) _ _ (fun j hj => by
        split at hj
        · have := h j hj; omega
        · rcases List.mem_append.mp hj with y | y
          · have := h j y; omega
          · rw [List.mem_singleton.mp y]; omega) j hj
      omega
    · have := jnF_mem key rc a b wd m d (i + 1) L u (fun j hj => by have := h j hj; omega) j hj
      omega
theorem joinF_len (st : zStm) (rc : zRec) (m a b : Nat) : (joinF st rc m a b).1.length ≤ 150 ∧ (joinF st rc m a b).2.length ≤ m ∧ ∀ j ∈ (joinF st rc m a b).2, j < m := by
  unfold joinF
  have h := jnF_ge (st.1.headD (0, 0, false, false)) rc a b (longF rc a m 0 0) m m 0 [] [] (by decide)
  have h2 := jnF_mem (st.1.headD (0, 0, false, false)) rc a b (longF rc a m 0 0) m m 0 [] [] (fun j hj => by cases hj)
  simp only [List.length_nil, Nat.zero_add] at h h2
  exact ⟨h.1.2, h.2.2, h2⟩
