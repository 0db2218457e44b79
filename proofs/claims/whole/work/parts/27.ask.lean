-- ===== the class's questions =====
def xN (x : Int32) : Nat := x.toBitVec.toNat
abbrev inR (x : Int32) (m : Nat) : Prop := ¬ x < 0 ∧ x < nI m

theorem xN_n {j : Nat} (h : j < 2 ^ 31) : xN (nI j) = j := pk_tn (by omega)
theorem inR_n {j m : Nat} (hj : j < 2 ^ 31) (hm : m < 2 ^ 31) : inR (nI j) m ↔ j < m := ⟨fun h => (nI_ltI hj hm).mp h.2, fun h => ⟨nI_pos hj, (nI_ltI hj hm).mpr h⟩⟩
theorem inR_e {x : Int32} {m : Nat} (hm : m < 2 ^ 31) (h : inR x m) : ∃ j, j < m ∧ x = nI j ∧ xN x = j := by
  obtain ⟨j, hj, e⟩ := nI_of h.1
  rw [e, inR_n hj hm] at h
  exact ⟨j, h, e, by rw [e]; exact xN_n hj⟩
/-- the rows of one Rows, one by one -/
def cB (k : Nat → Nat) (X : Nat → List Nat) (R : Nat → List Nat) (i : Nat) (B : List (List Nat)) : Prop := B.length = k i ∧ ∀ t, t < k i → R ((X i).getD t 0) = B.getD t []
def outA (B : Nat → List (List Nat)) (x y z : Int32) : Int32 := if inR x 3 ∧ inR y (B (xN x)).length ∧ inR z ((B (xN x)).getD (xN y) []).length then nI (oct ((B (xN x)).getD (xN y) []) (xN z)) else -1
def totA (B : Nat → List (List Nat)) (x y : Int32) : Int32 := if inR x 3 ∧ inR y (B (xN x)).length then nI ((B (xN x)).getD (xN y) []).sum else -1
def sumA (B : List (List Nat)) (T : List (Nat × Nat)) (x y : Int32) : Int32 := if inR x B.length then (if y = 0 then nI (T.getD (xN x) (0, 0)).2 else if y = 1 then nI (B.getD (xN x) []).length else if y = 2 then nI (T.getD (xN x) (0, 0)).1 else -1) else -1
/-- all rows from i on are in order -/
def ordF (ks : List zKey) (B : List (List Nat)) : Nat → Nat → Bool
  | _, 0 => true
  | i, d + 1 => if cmpR ks (B.getD (i - 1) []) (B.getD i []) ≤ 0 then ordF ks B (i + 1) d else false
def plainA (ks : List zKey) (B : Nat → List (List Nat)) (x : Int32) : Int32 := if inR x 3 then zB (ordF ks (B (xN x)) 1 ((B (xN x)).length - 1)) else 1
def cntA (st : zStm) (m : Nat) (B : Nat → List (List Nat)) (x : Int32) : Int32 :=
  if x = 0 then nI st.2.2.2.2.2.2.2 else if x = 1 then nI m else if x = 2 then nI st.1.length else if x = 3 then nI st.2.1.length else if x = 4 then nI st.2.2.1.length else if x = 5 then nI st.2.2.2.1.length else if x = 6 then nI (B 0).length else if x = 7 then nI (B 1).length else if x = 8 then nI (B 2).length else -1
section
variable {E : zE} {U : zU} {K n : Nat → Nat} {I : Nat → Nat → Int32} {F : Nat → Nat → Option Nat} {J : Nat → Nat → Int64} {cb sb : Nat} {Q : zO → zH → Prop} {k : Nat → Nat} {X : Nat → List Nat} {R : Nat → List Nat} {N : Nat → Nat × Nat × Nat} {st : zStm} {pu pp : List Nat} {cu cp : Nat} {D Sg : Nat → Int32}
theorem CC.k31 (h : CC E U K n I F J k X R N st pu cu pp cp D Sg) {i : Nat} (hi : i < 4) : k i ≤ 150 := by have := h.w hi; omega
theorem cc_at {i : Nat} {x : Int32} (h : CC E U K n I F J k X R N st pu cu pp cp D Sg) (hi : i < 4) (w1 : inR x (k i) → Q (.inl (some (.ref ((X i).getD (xN x) 0)))) (K, n, I, F, J)) (w2 : ¬ inR x (k i) → Q (.inl (some (va_rf none))) (K, n, I, F, J)) :
    AW E m_Rows_at (K, n, I, F, J) cb sb Q 0 [some (.ref (uw U i)), some (.int x)] [] := by
  obtain ⟨l, cap, hW⟩ := h.at hi
  have := h.k31 hi
  by_cases q : inR x (k i)
  · obtain ⟨j, hj, e, e2⟩ := inR_e (by omega) q
    have w := w1 q
    rw [e2] at w
    rw [e]
    exact c_atIn hW hj w
  · refine c_atOut hW ?_ (w2 q)
    by_cases z : x < 0
    · exact Or.inl z
    · obtain ⟨j, hj, e⟩ := nI_of z
      rw [e, inR_n hj (by omega)] at q
      rw [e]
      exact Or.inr ((nI_leI (by omega) hj).mpr (by omega))
theorem cc_outRows {x : Int32} (h : CC E U K n I F J k X R N st pu cu pp cp D Sg) (w1 : inR x 3 → xN x + 1 < 4 → Q (.inl (some (.ref (uw U (xN x + 1))))) (K, n, I, F, J)) (w2 : ¬ inR x 3 → Q (.inl (some (va_rf none))) (K, n, I, F, J)) :
    AW E m_Su_outputRows (K, n, I, F, J) cb sb Q 0 [some (.ref (uo U)), some (.int x)] [] := by
  have go : ∀ i, i < 3 → x = nI i → Q (.inl (some (.ref (uw U (i + 1))))) (K, n, I, F, J) := fun i hi e => by
    have w := w1 (by rw [e, inR_n (by omega) (by omega)]; exact hi) (by rw [e, xN_n (by omega)]; omega)
    rw [e, xN_n (by omega)] at w
    exact w
  refine r_Su_outputRows_0 ⟨fun e => ⟨h.ro, _, (h.w (i := 1) (by decide)).1, go 0 (by decide) e⟩, fun e => ⟨h.ro, _, (h.w (i := 2) (by decide)).1, go 1 (by decide) e⟩, fun e => ⟨h.ro, _, (h.w (i := 3) (by decide)).1, go 2 (by decide) e⟩, fun e0 e1 e2 => w2 (fun z => ?_)⟩
  obtain ⟨j, hj, e, -⟩ := inR_e (by decide) z
  have : j = 0 ∨ j = 1 ∨ j = 2 := by omega
  rcases this with q | q | q
  · rw [q] at e; exact e0 e
  · rw [q] at e; exact e1 e
  · rw [q] at e; exact e2 e
theorem cc_outRow {x y : Int32} (h : CC E U K n I F J k X R N st pu cu pp cp D Sg) (w1 : inR x 3 → xN x + 1 < 4 → inR y (k (xN x + 1)) → Q (.inl (some (.ref ((X (xN x + 1)).getD (xN y) 0)))) (K, n, I, F, J)) (w2 : ¬ (inR x 3 ∧ inR y (k (xN x + 1))) → Q (.inl (some (va_rf none))) (K, n, I, F, J)) :
    AW E m_Su_outputRow (K, n, I, F, J) cb sb Q 0 [some (.ref (uo U)), some (.int x), some (.int y), none] [] := by
  refine r_Su_outputRow_0 ⟨h.ro, cc_outRows h (fun hx h4 => ?_) (fun hx => ?_)⟩
  · refine r_Su_outputRow_5 (sr0 := some (uw U (xN x + 1))) ⟨fun z => (by cases z), fun z1 e => ?_⟩
    cases e
    refine ⟨(h.w h4).2.1, cc_at h h4 (fun hy => ?_) (fun hy => ?_)⟩
    · exact r_Su_outputRow_19 (sr0 := some _) (w1 hx h4 hy)
    · exact r_Su_outputRow_19 (sr0 := none) (w2 (fun z => hy z.2))
  · exact r_Su_outputRow_5 (sr0 := none) ⟨fun _ => r_Su_outputRow_19 (sr0 := none) (w2 (fun z => hx z.1)), fun z1 e => by cases e⟩
theorem cc_out {B : Nat → List (List Nat)} {x y z : Int32} (h : CC E U K n I F J k X R N st pu cu pp cp D Sg) (hB : ∀ i, i < 3 → cB k X R (i + 1) (B i)) (w : Q (.inl (some (.int (outA B x y z)))) (K, n, I, F, J)) :
    AW E m_Su_out (K, n, I, F, J) cb sb Q 0 [some (.ref (uo U)), some (.int x), some (.int y), some (.int z), none] [] := by
  unfold outA at w
  refine r_Su_out_0 ⟨h.ro, cc_outRow h (fun hx h4 hy => ?_) (fun hn => ?_)⟩
  · obtain ⟨b1, b2⟩ := hB (xN x) (by omega)
    have hk := h.k31 h4
    obtain ⟨t, ht, -, et⟩ := inR_e (by omega) hy
    have hr := (h.rV (h.rx h4 ht)).1
    rw [b2 t ht] at hr
    rw [et] at w ⊢
    refine r_Su_out_6 (sr0 := some _) ⟨fun q => (by cases q), fun z1 e => ?_⟩
    cases e
    have hl := hr.2.1
    rw [b1] at w
    refine br_c (fun hz => ?_) (fun hz => ⟨hr.1, ?_⟩)
    · rw [if_neg (fun q => q.2.2.1 hz)] at w; exact w
    · rw [hr.2.2.2.1]
      obtain ⟨j, hj, e⟩ := nI_of hz
      rw [e] at w ⊢
      refine br_c (fun q => ?_) (fun q => ?_)
      · rw [if_pos ⟨hx, hy, nI_pos hj, q⟩, xN_n hj] at w
        exact c_octetAt hr hj (r_Su_out_34 w)
      · rw [if_neg (fun q2 => q q2.2.2.2)] at w; exact w
  · refine r_Su_out_6 (sr0 := none) ⟨fun _ => ?_, fun z1 e => by cases e⟩
    rw [if_neg (fun q => hn ⟨q.1, ?_⟩)] at w
    · exact w
    · obtain ⟨j, hj, -, e⟩ := inR_e (by decide) q.1
      rw [← (hB (xN x) (by omega)).1]; exact q.2.1
theorem cc_sum {B : List (List Nat)} {T : List (Nat × Nat)} {x y : Int32} (h : CC E U K n I F J k X R N st pu cu pp cp D Sg) (hB : cB k X R 1 B) (hT : ∀ t, t < k 1 → (N ((X 1).getD t 0)).2 = T.getD t (0, 0)) (w : Q (.inl (some (.int (sumA B T x y)))) (K, n, I, F, J)) :
    AW E m_Su_sum (K, n, I, F, J) cb sb Q 0 [some (.ref (uo U)), some (.int x), some (.int y), none] [] := by
  unfold sumA at w
  obtain ⟨b1, b2⟩ := hB
  obtain ⟨w1, w2, w3, w4⟩ := h.w (i := 1) (by decide)
  refine r_Su_sum_0 ⟨h.ro, _, w1, w2, cc_at h (by decide) (fun hy => ?_) (fun hn => ?_)⟩
  · have hk := h.k31 (i := 1) (by decide)
    obtain ⟨t, ht, -, et⟩ := inR_e (by omega) hy
    obtain ⟨hr, hi2, hi3, hi4⟩ := h.rV (h.rx (i := 1) (by decide) ht)
    rw [b1, if_pos hy, et, ← b2 t ht, ← hT t ht] at w
    rw [et]
    have hl := hr.2.2.2.1
    refine r_Su_sum_8 (sr0 := some _) ⟨fun q => (by cases q), fun z1 e => ?_⟩
    cases e
    refine ⟨fun e => ⟨hr.1, ?_⟩, fun e => ⟨hr.1, ?_⟩, fun e => ⟨hr.1, ?_⟩, fun e0 e1 e2 => ?_⟩
    · rw [if_pos e] at w; rw [hi4]; exact w
    · subst e
      rw [if_neg (by decide), if_pos rfl] at w; rw [hl]; exact w
    · subst e
      rw [if_neg (by decide), if_neg (by decide), if_pos rfl] at w; rw [hi3]; exact w
    · rw [if_neg e0, if_neg e1, if_neg e2] at w; exact w
  · refine r_Su_sum_8 (sr0 := none) ⟨fun _ => ?_, fun z1 e => by cases e⟩
    rw [b1, if_neg hn] at w; exact w
/-- the records that found no mate -/
def lefA (u : List Nat) (x : Int32) : Int32 := if inR x u.length then nI (u.getD (xN x) 0) else -1
theorem cc_left {u : List Nat} {x : Int32} (h : CC E U K n I F J k X R N st pu cu pp cp D Sg) (hu : u.length = pu.length) (hul : u.length ≤ 150) (hN : ∀ t, t < u.length → (N (pu.getD t 0)).2.1 = u.getD t 0) (w : Q (.inl (some (.int (lefA u x)))) (K, n, I, F, J)) :
    AW E m_Su_left (K, n, I, F, J) cb sb Q 0 [some (.ref (uo U)), some (.int x)] [] := by
  unfold lefA at w
  have ho := h.ro
  obtain ⟨cap, fo, h1, h2, h3, h4, h5, h6, h7, h8⟩ := h
  have hf := h1.2.2.2.2.2.1
  refine r_Su_left_0 (br_c (fun hx => ?_) (fun hx => ⟨ho, _, hf.1, hf.2.2.1, c_size h3.1 h3.2.1 ?_⟩))
  · rw [if_neg (fun q => q.1 hx)] at w; exact w
  · obtain ⟨j, hj, e⟩ := nI_of hx
    rw [e] at w ⊢
    rw [hu] at w hul hN
    refine r_Su_left_12 (pk_le pu.length j (fun hl => ?_) (fun hl => ⟨ho, _, hf.1, hf.2.2.1, ?_⟩) rfl rfl (by omega) hj)
    · rw [if_neg (fun q => by rw [inR_n hj (by omega)] at q; omega)] at w; exact w
    · rw [if_pos ((inR_n hj (by omega)).mpr hl), xN_n hj] at w
      refine c_get h3 hl ?_
      obtain ⟨hr, -, hi3, -⟩ := h8 (pu.getD j 0) (Or.inr ⟨0, by decide, h5.2.2.1 _ (zgetD_mem hl)⟩)
      refine r_Su_left_23 ⟨hr.1, ?_⟩
      rw [hi3, hN j hl]; exact w
theorem cc_code (h : CC E U K n I F J k X R N st pu cu pp cp D Sg) (w : Q (.inl (some (.int (D 14)))) (K, n, I, F, J)) : AW E m_Su_code (K, n, I, F, J) cb sb Q 0 [some (.ref (uo U))] [] :=
  r_Su_code_0 ⟨h.ro, by rw [h.oD]; exact w⟩
theorem cc_totalL {a : Nat} {r : List Nat} (hR : cR K n I F a r) : ∀ (d i s : Nat), i + d = r.length → Q (.inl (some (.int (nI (s + (r.drop i).sum))))) (K, n, I, F, J) →
    AW E m_Su_total (K, n, I, F, J) cb sb Q 19 [none, none, none, some (.ref a), some (.int (nI s)), some (.int (nI i))] []
  | 0, i, s, hi, w => by
    have hl := hR.2.1
    refine r_Su_total_19 ⟨hR.1, ?_⟩
    rw [hR.2.2.2.1, show r.length = i by omega]
    rw [List.drop_of_length_le (by omega), List.sum_nil, Nat.add_zero] at w
    exact br_t (Int32.le_refl _) w
  | d + 1, i, s, hi, w => by
    have hl := hR.2.1
    refine r_Su_total_19 ⟨hR.1, ?_⟩
    rw [hR.2.2.2.1]
    refine br_f (nI_ge (by omega) (by omega)) (c_octetAt hR (by omega) (r_Su_total_36 ?_))
    rw [nI_add, nI_1]
    refine cc_totalL hR d (i + 1) (s + oct r i) (by omega) ?_
    have e : (r.drop i).sum = oct r i + (r.drop (i + 1)).sum := by
      rw [List.drop_eq_getElem_cons (by omega), List.sum_cons]
      unfold oct
      rw [List.getD_eq_getElem?_getD, List.getElem?_eq_getElem (by omega)]
      rfl
    rw [e, ← Nat.add_assoc] at w
    exact w
theorem cc_total {B : Nat → List (List Nat)} {x y : Int32} (h : CC E U K n I F J k X R N st pu cu pp cp D Sg) (hB : ∀ i, i < 3 → cB k X R (i + 1) (B i)) (w : Q (.inl (some (.int (totA B x y)))) (K, n, I, F, J)) :
    AW E m_Su_total (K, n, I, F, J) cb sb Q 0 [some (.ref (uo U)), some (.int x), some (.int y), none, none, none] [] := by
  unfold totA at w
  refine r_Su_total_0 ⟨h.ro, cc_outRow h (fun hx h4 hy => ?_) (fun hn => ?_)⟩
  · obtain ⟨b1, b2⟩ := hB (xN x) (by omega)
    have hk := h.k31 h4
    obtain ⟨t, ht, -, et⟩ := inR_e (by omega) hy
    have hr := (h.rV (h.rx h4 ht)).1
    rw [b2 t ht] at hr
    rw [b1, if_pos ⟨hx, hy⟩, et] at w
    rw [et]
    refine r_Su_total_6 (sr0 := some _) ⟨fun q => (by cases q), fun z1 e => ?_⟩
    cases e
    refine cc_totalL hr _ 0 0 (Nat.zero_add _) ?_
    rw [List.drop_zero, Nat.zero_add]; exact w
  · refine r_Su_total_6 (sr0 := none) ⟨fun _ => ?_, fun z1 e => by cases e⟩
    rw [if_neg (fun q => hn ⟨q.1, ?_⟩)] at w
    · exact w
    · obtain ⟨j, hj, -, e⟩ := inR_e (by decide) q.1
      rw [← (hB (xN x) (by omega)).1]; exact q.2
theorem cc_plainL {B : List (List Nat)} {i : Nat} (h : CC E U K n I F J k X R N st pu cu pp cp D Sg) (hi : i < 4) (hB : cB k X R i B) : ∀ (d t : Nat), 1 ≤ t → t + d = k i ∨ (k i ≤ t ∧ d = 0 ∧ t ≤ 200) → Q (.inl (some (.int (zB (ordF st.1 B t d))))) (K, n, I, F, J) →
    AW E m_Su_plain (K, n, I, F, J) cb sb Q 14 [some (.ref (uo U)), none, some (.ref (uw U i)), some (.int (nI t)), none, none] []
  | 0, t, h1, ht, w => by
    obtain ⟨w1, w2, w3, w4, w5⟩ := h.w hi
    refine r_Su_plain_14 ⟨w2, ?_⟩
    rw [w3]
    exact br_t ((nI_leI (by omega) (by omega)).mpr (by omega)) w
  | d + 1, t, h1, ht, w => by
    obtain ⟨w1, w2, w3, w4, w5⟩ := h.w hi
    obtain ⟨l, cap, hW⟩ := h.at hi
    obtain ⟨fo, f1, f2, f3⟩ := h.sta
    have htk : t < k i := by omega
    refine r_Su_plain_14 ⟨w2, ?_⟩
    rw [w3]
    refine br_f (nI_ge htk (by omega)) ?_
    rw [zsub1 h1]
    refine c_atIn hW (by omega) (r_Su_plain_29 (sr0 := some _) ⟨w2, c_atIn hW htk (r_Su_plain_36 (r4 := some _) (sr0 := some _) ⟨fun q => (by cases q), fun z1 e1 => ⟨fun q => (by cases q), fun z3 e3 => ⟨h.ro, fo, f1, f2, ?_⟩⟩⟩)⟩)
    cases e1
    cases e3
    have r1 := (h.rV (h.rx hi (show t - 1 < k i by omega))).1
    have r2 := (h.rV (h.rx hi htk)).1
    rw [hB.2 _ (by omega)] at r1
    rw [hB.2 _ htk] at r2
    refine c_cmpR f3 r1 r2 (fun x hx _ => r_Su_plain_59 ?_)
    obtain ⟨z1, z2, z3, z4, z5⟩ := zi0 x
    unfold ordF at w
    rw [hx] at z3
    refine br_c (fun q => ?_) (fun q => ?_)
    · rw [if_pos (z3.mp q)] at w
      rw [nI_1]
      exact cc_plainL h hi hB d (t + 1) (by omega) (by omega) w
    · rw [if_neg (fun y => q (z3.mpr y))] at w; exact w
theorem cc_plain {B : Nat → List (List Nat)} {x : Int32} (h : CC E U K n I F J k X R N st pu cu pp cp D Sg) (hB : ∀ i, i < 3 → cB k X R (i + 1) (B i)) (w : Q (.inl (some (.int (plainA st.1 B x)))) (K, n, I, F, J)) :
    AW E m_Su_plain (K, n, I, F, J) cb sb Q 0 [some (.ref (uo U)), some (.int x), none, none, none, none] [] := by
  unfold plainA at w
  refine r_Su_plain_0 ⟨h.ro, cc_outRows h (fun hx h4 => ?_) (fun hx => ?_)⟩
  · rw [if_pos hx] at w
    have b := hB (xN x) (by omega)
    refine r_Su_plain_5 (sr0 := some _) ⟨fun q => (by cases q), fun z1 e => ?_⟩
    cases e
    rw [b.1] at w
    exact cc_plainL h h4 b _ 1 (by omega) (by omega) w
  · rw [if_neg hx] at w
    exact r_Su_plain_5 (sr0 := none) ⟨fun _ => w, fun z1 e => by cases e⟩
theorem cc_count {B : Nat → List (List Nat)} {m : Nat} {x : Int32} (h : CC E U K n I F J k X R N st pu cu pp cp D Sg) (hB : ∀ i, i < 3 → cB k X R (i + 1) (B i)) (hm : m = k 0) (w : Q (.inl (some (.int (cntA st m B x)))) (K, n, I, F, J)) :
    AW E m_Su_count (K, n, I, F, J) cb sb Q 0 [some (.ref (uo U)), some (.int x)] [] := by
  unfold cntA at w
  obtain ⟨fo, f1, f2, f3⟩ := h.sta
  have ho := h.ro
  obtain ⟨-, -, -, -, c5, -, -, -, l0, l1, l2, l3, g0, g1, g2, g3, ⟨x0, p0, a0, -, e0, -⟩, ⟨x1, p1, a1, -, e1, -⟩, ⟨x2, p2, a2, -, e2, -⟩, ⟨x3, p3, a3, -, e3, -⟩⟩ := f3
  obtain ⟨u1, u2, u3, -⟩ := h.w (i := 0) (by decide)
  obtain ⟨v1, v2, v3, -⟩ := h.w (i := 1) (by decide)
  obtain ⟨y1, y2, y3, -⟩ := h.w (i := 2) (by decide)
  obtain ⟨t1, t2, t3, -⟩ := h.w (i := 3) (by decide)
  rw [(hB 0 (by decide)).1, (hB 1 (by decide)).1, (hB 2 (by decide)).1, hm] at w
  refine r_Su_count_0 ⟨fun e => ⟨ho, fo, f1, f2, ?_⟩, fun e => ⟨ho, _, u1, u2, ?_⟩, fun e => ⟨ho, fo, f1, f2, l0, g0, a0.1, c_size a0.1 a0.2.1 (r_Su_count_78 ?_)⟩, fun e => ⟨ho, fo, f1, f2, l1, g1, a1.1, c_size a1.1 a1.2.1 (r_Su_count_89 ?_)⟩, fun e => ⟨ho, fo, f1, f2, l2, g2, a2.1, c_size a2.1 a2.2.1 (r_Su_count_100 ?_)⟩, fun e => ⟨ho, fo, f1, f2, l3, g3, a3.1, c_size a3.1 a3.2.1 (r_Su_count_111 ?_)⟩, fun e => ⟨ho, _, v1, v2, ?_⟩, fun e => ⟨ho, _, y1, y2, ?_⟩, fun e => ⟨ho, _, t1, t2, ?_⟩, fun z0 z1 z2 z3 z4 z5 z6 z7 z8 => ?_⟩
  · rw [c5]; rw [if_pos e] at w; exact w
  · subst e; rw [u3]; exact w
  · subst e; rw [e0]; exact w
  · subst e; rw [e1]; exact w
  · subst e; rw [e2]; exact w
  · subst e; rw [e3]; exact w
  · subst e; rw [v3]; exact w
  · subst e; rw [y3]; exact w
  · subst e; rw [t3]; exact w
  · rw [if_neg z0, if_neg z1, if_neg z2, if_neg z3, if_neg z4, if_neg z5, if_neg z6, if_neg z7, if_neg z8] at w; exact w
end
