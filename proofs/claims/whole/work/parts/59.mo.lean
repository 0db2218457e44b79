-- ===== the reference: its small methods =====
theorem and255 (x : Int32) : x &&& (255 : Int32) = nI (x.toBitVec.toNat % 256) := by
  apply Int32.toBitVec_inj.mp
  apply BitVec.eq_of_toNat_eq
  rw [Int32.toBitVec_and, BitVec.toNat_and, pk_tn (by omega)]
  show x.toBitVec.toNat &&& 255 = _
  exact Nat.and_two_pow_sub_one_eq_mod x.toBitVec.toNat 8
theorem inR_m1 (m : Nat) : ¬ inR (-1 : Int32) m := fun z => z.1 (by decide)
section
variable {E : zE} {B : (Nat → Nat → Int32) × (Nat → Nat → Int64)} {K n : Nat → Nat} {I : Nat → Nat → Int32} {F : Nat → Nat → Option Nat} {J : Nat → Nat → Int64} {m : Nat} {A : Nat → Nat} {V : Nat → Nat → Int32} {T : Nat → Int64} {cb sb : Nat} {Q : zO → zH → Prop} {rc : zRec} {M : Nat}
theorem mo_sgn {x : Int32} {L : Nat} (h : MS B K n I F J m A V T) (hL : V 0 2 = nI L) (hL5 : L ≤ 500) (w1 : L = 500 → ∀ I', MS B K n I' F J m A (zup V 0 0 0) T → Q (.inl none) (K, n, I', F, J))
    (w2 : L < 500 → ∀ I', MS B K n I' F J m A (zup (zup (zup V 0 0 0) 1 L (if 0 ≤ x then x else 0)) 0 2 (nI (L + 1))) T → Q (.inl none) (K, n, I', F, J)) :
    AW E m_Mo_sign1 (K, n, I, F, J) cb sb Q 0 [some (.ref m), some (.int x)] [] := by
  have h1 := h.up0 0 (0 : Int32)
  have e2 : zup I m 0 (0 : Int32) m 2 = nI L := by rw [h1.o, zup_k _ _ _ (by decide)]; exact hL
  have e5 : nI L = (500 : Int32) ↔ L = 500 := nI_eq (a := L) (b := 500) (by omega) (by omega)
  refine r_Mo_sign1_0 ⟨h.K9, ?_⟩
  rw [e2]
  refine ⟨fun z => ⟨_, h.f (f := 1) (by decide), ?_⟩, fun z => w1 (e5.mp z) _ h1⟩
  have hl : L < 500 := Nat.lt_of_le_of_ne hL5 (fun y => z (e5.mpr y))
  have bd : L < n (A 1) := by rw [h.sz (by decide)]; exact hl
  have go : ∀ v : Int32, MS B K n (zup (zup (zup I m 0 (0 : Int32)) (A 1) L v) m 2 (nI (L + 1))) F J m A (zup (zup (zup V 0 0 0) 1 L v) 0 2 (nI (L + 1))) T := fun v => (h1.up (f := 1) (by decide) L v).up0 2 (nI (L + 1))
  have e3 : ∀ v : Int32, zup (zup I m 0 (0 : Int32)) (A 1) L v m 2 + (1 : Int32) = nI (L + 1) := fun v => by
    rw [(h1.up (f := 1) (by decide) L v).o, zup_n _ _ _ (by decide), zup_k _ _ _ (by decide), hL, nI_1]
  refine ⟨fun y => ⟨h.k (by decide), L, rfl, bd, by omega, ?_⟩, fun y => ⟨h.k (by decide), L, rfl, bd, by omega, ?_⟩⟩
  · rw [e3]
    have w := w2 hl _ (by rw [if_pos y]; exact go x)
    exact w
  · rw [e3]
    have w := w2 hl _ (by rw [if_neg y]; exact go 0)
    exact w
theorem mo_record {x : Int32} (h : MS B K n I F J m A V T) (hR : mRec V rc M) (w1 : ¬ (inR x 3 ∧ M < 150) → ∀ I', MS B K n I' F J m A (zup V 0 0 0) T → Q (.inl (some (.int (-1)))) (K, n, I', F, J))
    (w2 : inR x 3 → M < 150 → ∀ I', MS B K n I' F J m A (zup (zup (zup V 0 0 0) 14 M x) 0 15 (nI (M + 1))) T → Q (.inl (some (.int (nI M)))) (K, n, I', F, J)) :
    AW E m_Mo_record (K, n, I, F, J) cb sb Q 0 [some (.ref m), some (.int x)] [] := by
  have h1 := h.up0 0 (0 : Int32)
  have hM := hR.2.1
  have e15 : zup I m 0 (0 : Int32) m 15 = nI M := by rw [h1.o, zup_k _ _ _ (by decide)]; exact hR.1
  have e5 : nI M = (150 : Int32) ↔ M = 150 := nI_eq (a := M) (b := 150) (by omega) (by omega)
  refine r_Mo_record_0 ⟨h.K9, br_c (fun q => w1 (fun z => z.1.1 q) _ h1) (fun q => ?_)⟩
  obtain ⟨j, hj, e⟩ := nI_of q
  subst e
  refine pk_lt 2 j (fun q2 => w1 (fun z => by have := z.1; rw [inR_n hj (by decide)] at this; omega) _ h1) (fun q2 => ?_) rfl rfl (by decide) hj
  rw [e15]
  refine ⟨fun z => ⟨_, h.f (f := 14) (by decide), h.k (by decide), M, rfl, ?_, by omega, ?_⟩, fun z => w1 (fun y => by have := e5.mp z; omega) _ h1⟩
  · rw [h.sz (by decide)]; exact Nat.lt_of_le_of_ne hM (fun y => z (e5.mpr y))
  · have hl : M < 150 := Nat.lt_of_le_of_ne hM (fun y => z (e5.mpr y))
    have h2 := h1.up (f := 14) (by decide) M (nI j)
    have e3 : zup (zup I m 0 (0 : Int32)) (A 14) M (nI j) m 15 + (1 : Int32) = nI (M + 1) := by
      rw [h2.o, zup_n _ _ _ (by decide), zup_k _ _ _ (by decide), hR.1, nI_1]
    rw [e3, zup_s, nI_pred]
    exact w2 ((inR_n hj (by decide)).mpr (by omega)) hl _ (h2.up0 15 (nI (M + 1)))
/-- octet: blanks, then the byte -/
theorem mo_octL {t i u : Nat} {r : List Nat} (ht : t < 150) (hi : i < 100) (hu : u < 256) {x3 : Int32} (hx : x3 &&& (255 : Int32) = nI u) : ∀ (d k : Nat) (I : Nat → Nat → Int32) (V : Nat → Nat → Int32), k + d = i ∨ (d = 0 ∧ i ≤ k ∧ k ≤ 100) → r.length ≤ k → MS B K n I F J m A V T → mRT V 12 13 t r → (∀ j, r.length ≤ j → j < k → V 12 (100 * t + j) = nI 32) →
    (∀ I' V', MS B K n I' F J m A V' T → mRT V' 12 13 t (zput r i u) → (∀ f j, ¬ (f = 12 ∧ 100 * t ≤ j ∧ j < 100 * t + 100) → ¬ (f = 13 ∧ j = t) → V' f j = V f j) → Q (.inl none) (K, n, I', F, J)) →
    AW E m_Mo_octet (K, n, I, F, J) cb sb Q 57 [some (.ref m), some (.int (nI t)), some (.int (nI i)), some (.int x3), none, some (.int (nI k))] []
  | 0, k, I, V, hk, hrk, h, hr, h32, w => by
    obtain ⟨⟨r1, r2, r3, r4⟩, r5, r6, r7⟩ := id hr
    have ex : (100 : Int32) * nI t + nI i = nI (100 * t + i) := by
      show nI 100 * nI t + _ = _
      rw [pk_mul, nI_add]
    refine r_Mo_octet_57 (br_t ((nI_leI (by omega) (by omega)).mpr (by omega)) ⟨h.K9, _, h.f (f := 12) (by decide), h.k (by decide), 100 * t + i, ex, by rw [h.sz (by decide)]; show 100 * t + i < 15000; omega, by omega, _, h.f (f := 13) (by decide), h.k (by decide), t, rfl, by rw [h.sz (by decide)]; exact ht, by omega, ?_⟩)
    rw [hx]
    have h2 := h.up (f := 12) (by decide) (100 * t + i) (nI u)
    have e13 : zup I (A 12) (100 * t + i) (nI u) (A 13) t = nI r.length := by rw [h2.a (by decide), zup_n _ _ _ (by decide)]; exact r1
    rw [e13]
    have fin : ∀ L : Nat, L = (zput r i u).length → Q (.inl none) (K, n, zup (zup I (A 12) (100 * t + i) (nI u)) (A 13) t (nI L), F, J) := fun L hL => by
      refine w _ _ (h2.up (f := 13) (by decide) t (nI L)) ⟨⟨by rw [zup_s, hL], ?_, fun y hy => ?_, fun j hj => ?_⟩, r5, r6, r7⟩ (fun f j a1 a2 => ?_)
      · unfold zput; split <;> simp <;> omega
      · unfold zput at hy
        split at hy
        · rcases List.mem_or_eq_of_mem_set hy with q | q
          · exact r3 y q
          · omega
        · rcases List.mem_append.mp hy with q | q
          · rcases List.mem_append.mp q with q | q
            · exact r3 y q
            · have := List.eq_of_mem_replicate q; omega
          · rw [List.mem_singleton.mp q]; exact hu
      · rw [zup_n _ _ _ (by decide), zup_at]
        unfold zput at hj ⊢
        by_cases e : i < r.length
        · rw [if_pos e] at hj ⊢
          rw [List.length_set] at hj
          rw [List.getD_eq_getElem?_getD, List.getElem?_set]
          by_cases ej : j = i
          · subst ej; rw [if_pos ⟨rfl, rfl⟩, if_pos rfl, if_pos e]; rfl
          · rw [if_neg (fun z => ej (by omega)), if_neg (fun z => ej z.symm), ← List.getD_eq_getElem?_getD]; exact r4 j hj
        · rw [if_neg e] at hj ⊢
          simp at hj
          have hlr : (r ++ List.replicate (i - r.length) 32).length = i := by simp; omega
          by_cases ej : j = i
          · subst ej
            rw [if_pos ⟨rfl, rfl⟩, List.getD_eq_getElem?_getD, List.getElem?_append_right (by omega), hlr, Nat.sub_self]; rfl
          · rw [if_neg (fun z => ej (by omega)), List.getD_eq_getElem?_getD, List.getElem?_append_left (by omega)]
            by_cases e2 : j < r.length
            · rw [List.getElem?_append_left e2, ← List.getD_eq_getElem?_getD]; exact r4 j e2
            · rw [List.getElem?_append_right (by omega), List.getElem?_replicate, if_pos (by omega)]
              exact h32 j (by omega) (by omega)
      · rw [zup_at, if_neg a2, zup_at, if_neg (fun z => a1 ⟨z.1, by omega, by omega⟩)]
    refine pk_lt i r.length (fun q => ?_) (fun q => ?_) rfl rfl (by omega) (by omega)
    · exact fin r.length (by unfold zput; rw [if_pos q, List.length_set])
    · rw [nI_1]
      refine fin (i + 1) ?_
      unfold zput
      rw [if_neg (by omega)]; simp; omega
  | d + 1, k, I, V, hk, hrk, h, hr, h32, w => by
    have ex : (100 : Int32) * nI t + nI k = nI (100 * t + k) := by
      show nI 100 * nI t + _ = _
      rw [pk_mul, nI_add]
    refine r_Mo_octet_57 (br_f (nI_ge (by omega) (by omega)) ⟨h.K9, _, h.f (f := 12) (by decide), h.k (by decide), 100 * t + k, ex, by rw [h.sz (by decide)]; show 100 * t + k < 15000; omega, by omega, ?_⟩)
    rw [nI_1]
    have hr2 : mRT (zup V 12 (100 * t + k) (nI 32)) 12 13 t r := by
      obtain ⟨⟨r1, r2, r3, r4⟩, r5⟩ := hr
      exact ⟨⟨by rw [zup_n _ _ _ (by decide)]; exact r1, r2, r3, fun j hj => by rw [zup_at, if_neg (fun z => by omega)]; exact r4 j hj⟩, r5⟩
    refine mo_octL ht hi hu hx d (k + 1) _ _ (by omega) (by omega) (h.up (f := 12) (by decide) (100 * t + k) (nI 32)) hr2 (fun j h1 h2 => ?_) (fun I' V' h' r' f' => w I' V' h' r' (fun f j q1 q2 => ?_))
    · rw [zup_at]
      by_cases e : j = k
      · rw [if_pos ⟨rfl, by omega⟩]
      · rw [if_neg (fun z => e (by omega))]; exact h32 j h1 (by omega)
    · rw [f' f j q1 q2, zup_at, if_neg (fun z => q1 ⟨z.1, by omega, by omega⟩)]
theorem mo_octet {x y z : Int32} (h : MS B K n I F J m A V T) (hR : mRec V rc M) (w1 : ¬ (inR x M ∧ inR y 100) → ∀ I', MS B K n I' F J m A (zup V 0 0 1) T → Q (.inl none) (K, n, I', F, J))
    (w2 : inR x M → inR y 100 → ∀ I' V', MS B K n I' F J m A V' T → V' 0 0 = 0 → mRT V' 12 13 (xN x) (zput (rc (xN x)).2 (xN y) (z.toBitVec.toNat % 256)) → (∀ f j, ¬ (f = 0 ∧ j = 0) → ¬ (f = 12 ∧ 100 * xN x ≤ j ∧ j < 100 * xN x + 100) → ¬ (f = 13 ∧ j = xN x) → V' f j = V f j) → Q (.inl none) (K, n, I', F, J)) :
    AW E m_Mo_octet (K, n, I, F, J) cb sb Q 0 [some (.ref m), some (.int x), some (.int y), some (.int z), none, none] [] := by
  have hM := hR.2.1
  have hno := h.up0 0 (1 : Int32)
  refine r_Mo_octet_0 (br_c (fun q => ⟨h.K9, w1 (fun z => z.1.1 q) _ hno⟩) (fun q => ⟨h.K9, ?_⟩))
  obtain ⟨t, ht, e⟩ := nI_of q
  subst e
  rw [h.o, hR.1]
  refine pk_le M t (fun q2 => w1 (fun z => by have := z.1; rw [inR_n ht (by omega)] at this; omega) _ hno) (fun q2 => br_c (fun q3 => w1 (fun z => z.2.1 q3) _ hno) (fun q3 => ?_)) rfl rfl (by omega) ht
  obtain ⟨i, hi, e⟩ := nI_of q3
  subst e
  refine pk_le 100 i (fun q4 => w1 (fun z => by have := z.2; rw [inR_n hi (by decide)] at this; omega) _ hno) (fun q4 => ⟨_, h.f (f := 13) (by decide), h.k (by decide), t, rfl, by rw [h.sz (by decide)]; show t < 150; omega, by omega, ?_⟩) rfl rfl (by decide) hi
  have h1 := h.up0 0 (0 : Int32)
  obtain ⟨r1, r2, r3⟩ := hR.2.2 t q2
  have r1' : mRT (zup V 0 0 0) 12 13 t (rc t).2 := r1.fr (by rw [zup_n _ _ _ (by decide)]) (fun j _ _ => by rw [zup_n _ _ _ (by decide)])
  rw [h1.a (by decide), r1'.1.1]
  have hl := r1.1.2.1
  refine mo_octL (u := z.toBitVec.toNat % 256) (by omega) q4 (by omega) (and255 z) (i - (rc t).2.length) (rc t).2.length _ _ (by omega) (by omega) h1 r1' (fun j a1 a2 => by omega) (fun I' V' h' r' f' => w2 ((inR_n ht (by omega)).mpr q2) ((inR_n hi (by decide)).mpr q4) I' V' h' ?_ ?_ (fun f j a1 a2 a3 => ?_))
  · rw [f' 0 0 (by omega) (by omega), zup_s]
  · rw [xN_n ht, xN_n hi]; exact r'
  · rw [xN_n ht] at a2 a3
    rw [f' f j a2 a3, zup_at, if_neg a1]
/-- the three outputs -/
def mBs (V : Nat → Nat → Int32) (Bo : Nat → List (List Nat)) : Prop := ∀ o, o < 3 → mRef V o (Bo o) ∧ (Bo o).length ≤ 150
theorem mBs.fr {V' : Nat → Nat → Int32} {Bo : Nat → List (List Nat)} (h : mBs V Bo) (hf : ∀ f j, 24 ≤ f → f ≤ 26 → V' f j = V f j) : mBs V' Bo := fun o ho => ⟨⟨by rw [hf 26 o (by omega) (by omega)]; exact (h o ho).1.1, fun t ht => mR.fr ((h o ho).1.2 t ht) (hf 25 _ (by omega) (by omega)) (fun j _ _ => hf 24 j (by omega) (by omega))⟩, (h o ho).2⟩
theorem mo_isOut {Bo : Nat → List (List Nat)} {x y : Int32} (h : MS B K n I F J m A V T) (hB : mBs V Bo) (w1 : inR x 3 → inR y (Bo (xN x)).length → Q (.inl (some (.int 1))) (K, n, I, F, J)) (w0 : ¬ (inR x 3 ∧ inR y (Bo (xN x)).length) → Q (.inl (some (.int 0))) (K, n, I, F, J)) :
    AW E m_Mo_isOut (K, n, I, F, J) cb sb Q 0 [some (.ref m), some (.int x), some (.int y)] [] := by
  refine r_Mo_isOut_0 (br_c (fun q => w0 (fun z => z.1.1 q)) (fun q => ?_))
  obtain ⟨o, ho, e⟩ := nI_of q
  subst e
  refine pk_le 3 o (fun q2 => w0 (fun z => by have := z.1; rw [inR_n ho (by decide)] at this; omega)) (fun q2 => br_c (fun q3 => w0 (fun z => z.2.1 q3)) (fun q3 => ⟨h.K9, _, h.f (f := 26) (by decide), h.k (by decide), o, rfl, by rw [h.sz (by decide)]; exact q2, by omega, ?_⟩)) rfl rfl (by decide) ho
  obtain ⟨t, ht, e⟩ := nI_of q3
  subst e
  obtain ⟨b1, b2⟩ := hB o q2
  rw [xN_n ho] at w1 w0
  rw [h.a (by decide), b1.1]
  refine pk_le (Bo o).length t (fun q4 => w0 (fun z => by have := z.2; rw [inR_n ht (by omega)] at this; omega)) (fun q4 => w1 ((inR_n ho (by decide)).mpr q2) ((inR_n ht (by omega)).mpr q4)) rfl rfl (by omega) ht
theorem mo_out {Bo : Nat → List (List Nat)} {x y z : Int32} (h : MS B K n I F J m A V T) (hB : mBs V Bo) (w : ∀ I', MS B K n I' F J m A (zup V 0 0 0) T → Q (.inl (some (.int (outA Bo x y z)))) (K, n, I', F, J)) :
    AW E m_Mo_out (K, n, I, F, J) cb sb Q 0 [some (.ref m), some (.int x), some (.int y), some (.int z)] [] := by
  have h1 := h.up0 0 (0 : Int32)
  have hB1 : mBs (zup V 0 0 0) Bo := hB.fr (fun f j a1 a2 => by rw [zup_n _ _ _ (by omega)])
  have w := w _ h1
  unfold outA at w
  refine r_Mo_out_0 ⟨h.K9, mo_isOut h1 hB1 (fun hx hy => ?_) (fun hn => r_Mo_out_11 ⟨fun _ => ?_, fun z => absurd rfl z⟩)⟩
  · obtain ⟨o, ho, eo, eo2⟩ := inR_e (by decide) hx
    obtain ⟨b1, b2⟩ := hB1 o ho
    rw [eo2] at w hy
    obtain ⟨t, ht, et, et2⟩ := inR_e (by omega) hy
    rw [et2] at w
    have hr := b1.2 t ht
    have hl := hr.2.1
    refine r_Mo_out_11 ⟨fun z => absurd z (by decide), fun _ => br_c (fun q => ?_) (fun q => ⟨h.K9, _, h.f (f := 25) (by decide), h.k (by decide), 150 * o + t, ?_, by rw [h.sz (by decide)]; show 150 * o + t < 450; omega, by omega, ?_⟩)⟩
    · rw [if_neg (fun y => y.2.2.1 q)] at w; exact w
    · rw [eo, et]
      show nI 150 * nI o + nI t = _
      rw [pk_mul, nI_add]
    · rw [h1.a (by decide), hr.1]
      obtain ⟨k, hk, ek⟩ := nI_of q
      rw [ek] at w ⊢
      refine pk_lt k ((Bo o).getD t []).length (fun q2 => ⟨_, h.f (f := 24) (by decide), h.k (by decide), 15000 * o + 100 * t + k, ?_, by rw [h.sz (by decide)]; show 15000 * o + 100 * t + k < 45000; omega, by omega, ?_⟩) (fun q2 => ?_) rfl rfl hk (by omega)
      · rw [eo, et]
        show nI 15000 * nI o + nI 100 * nI t + nI k = _
        rw [pk_mul, pk_mul, nI_add, nI_add]
      · rw [h1.a (by decide), hr.2.2.2 k q2]
        rw [if_pos ⟨hx, hy, (inR_n hk (by omega)).mpr q2⟩, xN_n hk] at w
        unfold oct at w
        rw [zgetD_nat q2] at w; exact w
      · rw [if_neg (fun y => by have := y.2.2; rw [inR_n hk (by omega)] at this; omega)] at w; exact w
  · rw [if_neg (fun y => hn ⟨y.1, y.2.1⟩)] at w; exact w
theorem mo_sum {Bo : Nat → List (List Nat)} {L : List zHel} {x y : Int32} (h : MS B K n I F J m A V T) (hB : mBs V Bo) (hL : mLd V L) (hBL : Bo 0 = L.map Prod.fst) (w : ∀ I', MS B K n I' F J m A (zup V 0 0 0) T → Q (.inl (some (.int (sumA (L.map Prod.fst) (L.map Prod.snd) x y)))) (K, n, I', F, J)) :
    AW E m_Mo_sum (K, n, I, F, J) cb sb Q 0 [some (.ref m), some (.int x), some (.int y)] [] := by
  have h1 := h.up0 0 (0 : Int32)
  have hB1 : mBs (zup V 0 0 0) Bo := hB.fr (fun f j a1 a2 => by rw [zup_n _ _ _ (by omega)])
  have w := w _ h1
  unfold sumA at w
  refine r_Mo_sum_0 ⟨h.K9, mo_isOut (x := 0) h1 hB1 (fun hx hy => ?_) (fun hn => r_Mo_sum_11 ⟨fun _ => ?_, fun z => absurd rfl z⟩)⟩
  · have e0 : xN (0 : Int32) = 0 := rfl
    rw [e0, hBL] at hy
    rw [if_pos hy] at w
    have hb2 := (hB 0 (by decide)).2
    rw [hBL] at hb2
    obtain ⟨t, ht, et, et2⟩ := inR_e (by omega) hy
    have htl : t < L.length := by simpa using ht
    rw [et2] at w
    have hll : L.length ≤ 150 := by simpa using hb2
    obtain ⟨l1, l2, l3⟩ := hL.2 t htl
    have eT : (L.map Prod.snd).getD t (0, 0) = (L.getD t ([], 0, 0)).2 := by simp [List.getD_eq_getElem?_getD, List.getElem?_eq_getElem htl]
    have eB : (L.map Prod.fst).getD t [] = (L.getD t ([], 0, 0)).1 := by simp [List.getD_eq_getElem?_getD, List.getElem?_eq_getElem htl]
    rw [eT, eB] at w
    refine r_Mo_sum_11 ⟨fun z => absurd z (by decide), fun _ => br_c (fun q => ?_) (fun q => ?_)⟩
    · rw [if_neg (fun z => by rw [z] at q; exact absurd q (by decide)), if_neg (fun z => by rw [z] at q; exact absurd q (by decide)), if_neg (fun z => by rw [z] at q; exact absurd q (by decide))] at w; exact w
    · obtain ⟨k, hk, ek⟩ := nI_of q
      have e1 : y = 0 ↔ k = 0 := by rw [ek]; exact nI_eq (b := 0) hk (by omega)
      have e2 : y = 1 ↔ k = 1 := by rw [ek]; exact nI_eq (b := 1) hk (by omega)
      have e3 : y = 2 ↔ k = 2 := by rw [ek]; exact nI_eq (b := 2) hk (by omega)
      have e4 : y ≤ (2 : Int32) ↔ k ≤ 2 := by rw [ek]; exact nI_leI (b := 2) hk (by omega)
      refine ⟨fun q2 => ⟨fun q3 => ⟨fun q4 => ⟨h.K9, _, h.f (f := 28) (by decide), h.k (by decide), t, et, by rw [h.sz (by decide)]; show t < 150; omega, by omega, ?_⟩, fun q4 => ⟨h.K9, _, h.f (f := 25) (by decide), h.k (by decide), t, et, by rw [h.sz (by decide)]; show t < 450; omega, by omega, ?_⟩⟩, fun q3 => ⟨h.K9, _, h.f (f := 27) (by decide), h.k (by decide), t, et, by rw [h.sz (by decide)]; show t < 150; omega, by omega, ?_⟩⟩, fun q2 => ?_⟩
      · have hk2 : k = 2 := by
          have := e4.mp q2
          have : k ≠ 0 := fun z => q3 (e1.mpr z)
          have : k ≠ 1 := fun z => q4 (e2.mpr z)
          omega
        rw [if_neg q3, if_neg q4, if_pos (e3.mpr hk2)] at w
        rw [h1.a (by decide), zup_n _ _ _ (by decide), l3]; exact w
      · rw [if_neg q3, if_pos q4] at w
        have : V 25 (150 * 0 + t) = nI (L.getD t ([], 0, 0)).1.length := l1.1
        rw [Nat.mul_zero, Nat.zero_add] at this
        rw [h1.a (by decide), zup_n _ _ _ (by decide), this]; exact w
      · rw [if_pos q3] at w
        rw [h1.a (by decide), zup_n _ _ _ (by decide), l2]; exact w
      · have : ¬ k ≤ 2 := fun z => q2 (e4.mpr z)
        rw [if_neg (fun z => by have := e1.mp z; omega), if_neg (fun z => by have := e2.mp z; omega), if_neg (fun z => by have := e3.mp z; omega)] at w; exact w
  · have e0 : xN (0 : Int32) = 0 := rfl
    rw [e0, hBL] at hn
    rw [if_neg (fun y => hn ⟨⟨by decide, by decide⟩, y⟩)] at w; exact w
/-- the records left alone -/
def mLf (V : Nat → Nat → Int32) (u : List Nat) : Prop := V 0 30 = nI u.length ∧ u.length ≤ 150 ∧ ∀ t, t < u.length → V 29 t = nI (u.getD t 0)
theorem mo_left {u : List Nat} {x : Int32} (h : MS B K n I F J m A V T) (hu : mLf V u) (w : ∀ I', MS B K n I' F J m A (zup V 0 0 0) T → Q (.inl (some (.int (lefA u x)))) (K, n, I', F, J)) :
    AW E m_Mo_left (K, n, I, F, J) cb sb Q 0 [some (.ref m), some (.int x)] [] := by
  have h1 := h.up0 0 (0 : Int32)
  have w := w _ h1
  unfold lefA at w
  obtain ⟨u1, u2, u3⟩ := hu
  refine r_Mo_left_0 ⟨h.K9, br_c (fun q => ?_) (fun q => ?_)⟩
  · rw [if_neg (fun z => z.1 q)] at w; exact w
  · obtain ⟨t, ht, e⟩ := nI_of q
    subst e
    rw [h1.o, zup_k _ _ _ (by decide), u1]
    refine pk_le u.length t (fun q2 => ?_) (fun q2 => ⟨_, h.f (f := 29) (by decide), h.k (by decide), t, rfl, by rw [h.sz (by decide)]; show t < 150; omega, by omega, ?_⟩) rfl rfl (by omega) ht
    · rw [if_neg (fun z => by rw [inR_n ht (by omega)] at z; omega)] at w; exact w
    · rw [if_pos ((inR_n ht (by omega)).mpr q2), xN_n ht] at w
      rw [h1.a (by decide), zup_n _ _ _ (by decide), u3 t q2]; exact w
theorem mo_code (h : MS B K n I F J m A V T) (w : ∀ I', MS B K n I' F J m A (zup V 0 0 0) T → Q (.inl (some (.int (V 0 17)))) (K, n, I', F, J)) : AW E m_Mo_code (K, n, I, F, J) cb sb Q 0 [some (.ref m)] [] := by
  have h1 := h.up0 0 (0 : Int32)
  refine r_Mo_code_0 ⟨h.K9, ?_⟩
  rw [h1.o, zup_k _ _ _ (by decide)]
  exact w _ h1
theorem mo_thrown (h : MS B K n I F J m A V T) (w : Q (.inl (some (.int (V 0 0)))) (K, n, I, F, J)) : AW E m_Mo_thrown (K, n, I, F, J) cb sb Q 0 [some (.ref m)] [] := by
  refine r_Mo_thrown_0 ⟨h.K9, ?_⟩
  rw [h.o]; exact w
theorem mo_exit {x y : Int32} (h : MS B K n I F J m A V T) (hy : y = 0 ∨ y = 1) (w1 : ¬ inR x 3 → ∀ I', MS B K n I' F J m A (zup V 0 0 0) T → Q (.inl (some (.int (-1)))) (K, n, I', F, J)) (w2 : inR x 3 → ∀ I', MS B K n I' F J m A (zup (zup (zup V 0 0 0) 0 16 x) 0 18 y) T → Q (.inl (some (.int (V 0 16)))) (K, n, I', F, J)) :
    AW E m_Mo_exit (K, n, I, F, J) cb sb Q 0 [some (.ref m), some (.int x), some (.int y), none] [] := by
  have h1 := h.up0 0 (0 : Int32)
  refine r_Mo_exit_0 ⟨h.K9, br_c (fun q => w1 (fun z => z.1 q) _ h1) (fun q => ?_)⟩
  obtain ⟨j, hj, e⟩ := nI_of q
  subst e
  refine pk_le j 2 (fun q2 => ⟨hy, ?_⟩) (fun q2 => w1 (fun z => by rw [inR_n hj (by decide)] at z; omega) _ h1) rfl rfl hj (by decide)
  rw [h1.o, zup_k _ _ _ (by decide)]
  exact w2 ((inR_n hj (by decide)).mpr (by omega)) _ ((h1.up0 16 (nI j)).up0 18 y)
theorem mo_totL {o t : Nat} {r : List Nat} (ho : o < 3) (ht : t < 150) (h : MS B K n I F J m A V T) (hr : oR V o t r) : ∀ (d i s : Nat), i + d = r.length → Q (.inl (some (.int (nI (s + (r.drop i).sum))))) (K, n, I, F, J) →
    AW E m_Mo_total (K, n, I, F, J) cb sb Q 21 [some (.ref m), some (.int (nI o)), some (.int (nI t)), some (.int (nI s)), some (.int (nI i))] []
  | d, i, s, hi, w => by
    have hl := hr.2.1
    have e1 : (150 : Int32) * nI o + nI t = nI (150 * o + t) := by
      show nI 150 * nI o + nI t = _
      rw [pk_mul, nI_add]
    refine r_Mo_total_21 ⟨h.K9, _, h.f (f := 25) (by decide), h.k (by decide), 150 * o + t, e1, by rw [h.sz (by decide)]; show 150 * o + t < 450; omega, by omega, ?_⟩
    rw [h.a (by decide), hr.1]
    cases d with
    | zero =>
      rw [List.drop_of_length_le (by omega), List.sum_nil, Nat.add_zero] at w
      exact br_t ((nI_leI (by omega) (by omega)).mpr (by omega)) w
    | succ d =>
      have e2 : (15000 : Int32) * nI o + (100 : Int32) * nI t + nI i = nI (15000 * o + 100 * t + i) := by
        show nI 15000 * nI o + nI 100 * nI t + nI i = _
        rw [pk_mul, pk_mul, nI_add, nI_add]
      refine br_f (nI_ge (by omega) (by omega)) ⟨_, h.f (f := 24) (by decide), h.k (by decide), 15000 * o + 100 * t + i, e2, by rw [h.sz (by decide)]; show 15000 * o + 100 * t + i < 45000; omega, by omega, ?_⟩
      rw [h.a (by decide), hr.2.2.2 i (by omega), nI_add, nI_1]
      refine mo_totL ho ht h hr d (i + 1) _ (by omega) ?_
      have e : (r.drop i).sum = r.getD i 0 + (r.drop (i + 1)).sum := by
        rw [List.drop_eq_getElem_cons (by omega), List.sum_cons, List.getD_eq_getElem?_getD, List.getElem?_eq_getElem (by omega)]
        rfl
      rw [e, ← Nat.add_assoc] at w
      exact w
theorem mo_total {Bo : Nat → List (List Nat)} {x y : Int32} (h : MS B K n I F J m A V T) (hB : mBs V Bo) (w : ∀ I', MS B K n I' F J m A (zup V 0 0 0) T → Q (.inl (some (.int (totA Bo x y)))) (K, n, I', F, J)) :
    AW E m_Mo_total (K, n, I, F, J) cb sb Q 0 [some (.ref m), some (.int x), some (.int y), none, none] [] := by
  have h1 := h.up0 0 (0 : Int32)
  have hB1 : mBs (zup V 0 0 0) Bo := hB.fr (fun f j a1 a2 => by rw [zup_n _ _ _ (by omega)])
  have w := w _ h1
  unfold totA at w
  refine r_Mo_total_0 ⟨h.K9, mo_isOut h1 hB1 (fun hx hy => ?_) (fun hn => r_Mo_total_11 ⟨fun z => absurd rfl z, fun _ => ?_⟩)⟩
  · rw [if_pos ⟨hx, hy⟩] at w
    obtain ⟨o, ho, eo, eo2⟩ := inR_e (by decide) hx
    obtain ⟨b1, b2⟩ := hB1 o ho
    rw [eo2] at w hy
    obtain ⟨t, ht, et, et2⟩ := inR_e (by omega) hy
    rw [et2] at w
    refine r_Mo_total_11 ⟨fun _ => ?_, fun z => absurd z (by decide)⟩
    rw [eo, et]
    refine mo_totL (r := (Bo o).getD t []) ho (by omega) h1 (b1.2 t ht) _ 0 0 (Nat.zero_add _) ?_
    rw [List.drop_zero, Nat.zero_add]; exact w
  · rw [if_neg hn] at w; exact w
theorem mo_count {Bo : Nat → List (List Nat)} {st : zStm} {b : Nat → Bool} {x : Int32} (h : MS B K n I F J m A V T) (hB : mBs V Bo) (hS : mB V b st) (hR : mRec V rc M) (w : ∀ I', MS B K n I' F J m A (zup V 0 0 0) T → Q (.inl (some (.int (cntA st M Bo x)))) (K, n, I', F, J)) :
    AW E m_Mo_count (K, n, I, F, J) cb sb Q 0 [some (.ref m), some (.int x)] [] := by
  have h1 := h.up0 0 (0 : Int32)
  have w := w _ h1
  unfold cntA at w
  have v5 : ∀ j, zup I m 0 (0 : Int32) (A 5) j = V 5 j := fun j => by rw [h1.a (by decide), zup_n _ _ _ (by decide)]
  have v26 : ∀ j, zup I m 0 (0 : Int32) (A 26) j = V 26 j := fun j => by rw [h1.a (by decide), zup_n _ _ _ (by decide)]
  have b5 : ∀ j, j < 5 → j < n (A 5) := fun j hj => by rw [h.sz (by decide)]; show j < 10; omega
  have b26 : ∀ j, j < 3 → j < n (A 26) := fun j hj => by rw [h.sz (by decide)]; exact hj
  have l2 := hS.1.2.1
  refine r_Mo_count_0 ⟨h.K9, fun e => ⟨_, h.f (f := 5) (by decide), h.k (by decide), 0, rfl, b5 0 (by decide), by decide, ?_⟩, fun e => ?_, fun e => ⟨_, h.f (f := 5) (by decide), h.k (by decide), 1, by rw [e]; rfl, b5 1 (by decide), by decide, ?_⟩, fun e => ⟨_, h.f (f := 5) (by decide), h.k (by decide), 2, by rw [e]; rfl, b5 2 (by decide), by decide, ?_⟩, fun e => ⟨_, h.f (f := 5) (by decide), h.k (by decide), 3, by rw [e]; rfl, b5 3 (by decide), by decide, ?_⟩, fun e => ⟨_, h.f (f := 5) (by decide), h.k (by decide), 4, by rw [e]; rfl, b5 4 (by decide), by decide, ?_⟩, fun e => ⟨_, h.f (f := 26) (by decide), h.k (by decide), 0, by rw [e]; rfl, b26 0 (by decide), by decide, ?_⟩, fun e => ⟨_, h.f (f := 26) (by decide), h.k (by decide), 1, by rw [e]; rfl, b26 1 (by decide), by decide, ?_⟩, fun e => ⟨_, h.f (f := 26) (by decide), h.k (by decide), 2, by rw [e]; rfl, b26 2 (by decide), by decide, ?_⟩, fun z0 z1 z2 z3 z4 z5 z6 z7 z8 => ?_⟩
  · rw [v5, hS.2.2.2.2]; rw [if_pos e] at w; exact w
  · subst e; rw [h1.o, zup_k _ _ _ (by decide), hR.1]; exact w
  · subst e; rw [v5, l2.1]; exact w
  · subst e; rw [v5, l2.2.1]; exact w
  · subst e; rw [v5, l2.2.2.1]; exact w
  · subst e; rw [v5, l2.2.2.2]; exact w
  · subst e; rw [v26, (hB 0 (by decide)).1.1]; exact w
  · subst e; rw [v26, (hB 1 (by decide)).1.1]; exact w
  · subst e; rw [v26, (hB 2 (by decide)).1.1]; exact w
  · rw [if_neg z0, if_neg z1, if_neg z2, if_neg z3, if_neg z4, if_neg z5, if_neg z6, if_neg z7, if_neg z8] at w; exact w
end
