-- ===== the reference: word() =====
theorem spl_3 (x : zTx) (p : Nat) {k a b c : Nat} (hk : zwc k = [a, b, c]) : spl x k p (p + 3) = true ↔ x p = a ∧ x (p + 1) = b ∧ x (p + 2) = c := by
  rw [spl_iff, hk]
  refine ⟨fun h => ⟨h.2 0 (by simp), h.2 1 (by simp), h.2 2 (by simp)⟩, fun h => ⟨by simp, fun i hi => ?_⟩⟩
  have : i = 0 ∨ i = 1 ∨ i = 2 := by simp at hi; omega
  rcases this with e | e | e <;> subst e
  · exact h.1
  · exact h.2.1
  · exact h.2.2
theorem spl_4 (x : zTx) (p : Nat) {k a b c d : Nat} (hk : zwc k = [a, b, c, d]) : spl x k p (p + 4) = true ↔ x p = a ∧ x (p + 1) = b ∧ x (p + 2) = c ∧ x (p + 3) = d := by
  rw [spl_iff, hk]
  refine ⟨fun h => ⟨h.2 0 (by simp), h.2 1 (by simp), h.2 2 (by simp), h.2 3 (by simp)⟩, fun h => ⟨by simp, fun i hi => ?_⟩⟩
  have : i = 0 ∨ i = 1 ∨ i = 2 ∨ i = 3 := by simp at hi; omega
  rcases this with e | e | e | e <;> subst e
  · exact h.1
  · exact h.2.1
  · exact h.2.2.1
  · exact h.2.2.2
theorem spl_len {x : zTx} {k p n : Nat} (h : spl x k p (p + n) = true) : n = (zwc k).length := by
  have := ((spl_iff x k p (p + n)).mp h).1
  omega
theorem wdN_mk {x : zTx} {p q w : Nat} (hw : w < 7) (h : spl x w p q = true) : wdN x p q = some w := by
  cases e : wdN x p q with
  | none => have := wdN_none e w hw; rw [this] at h; cases h
  | some v =>
    obtain ⟨s1, s2⟩ := wdN_spl e
    rw [spl_one s2 hw s1 h]
theorem wdN_no {x : zTx} {p q : Nat} (h : ∀ k, k < 7 → ¬ spl x k p q = true) : wdN x p q = none := by
  cases e : wdN x p q with
  | none => rfl
  | some v =>
    obtain ⟨s1, s2⟩ := wdN_spl e
    exact absurd s1 (h v s2)
theorem b27 {y d y' d' : Nat} (h : 27 * y + d = 27 * y' + d') (h1 : d < 27) (h2 : d' < 27) : y = y' ∧ d = d' := by omega
theorem b27_4 {a b c d a' b' c' d' : Nat} (h : 27 * (27 * (27 * a + b) + c) + d = 27 * (27 * (27 * a' + b') + c') + d') (h1 : b < 27 ∧ c < 27 ∧ d < 27) (h2 : b' < 27 ∧ c' < 27 ∧ d' < 27) : a = a' ∧ b = b' ∧ c = c' ∧ d = d' := by
  obtain ⟨e1, e2⟩ := b27 h h1.2.2 h2.2.2
  obtain ⟨e3, e4⟩ := b27 e1 h1.2.1 h2.2.1
  obtain ⟨e5, e6⟩ := b27 e3 h1.1 h2.1
  exact ⟨e5, e6, e4, e2⟩
theorem b27_3 {a b c a' b' c' : Nat} (h : 27 * (27 * a + b) + c = 27 * (27 * a' + b') + c') (h1 : b < 27 ∧ c < 27) (h2 : b' < 27 ∧ c' < 27) : a = a' ∧ b = b' ∧ c = c' := by
  obtain ⟨e1, e2⟩ := b27 h h1.2 h2.2
  obtain ⟨e3, e4⟩ := b27 e1 h1.1 h2.1
  exact ⟨e3, e4, e2⟩
theorem w27_4 {y0 y1 y2 y3 a b c d : Nat} (h : 27 * (27 * (27 * (y0 - 96) + (y1 - 96)) + (y2 - 96)) + (y3 - 96) = 27 * (27 * (27 * a + b) + c) + d) (l0 : 97 ≤ y0 ∧ y0 ≤ 122) (l1 : 97 ≤ y1 ∧ y1 ≤ 122) (l2 : 97 ≤ y2 ∧ y2 ≤ 122) (l3 : 97 ≤ y3 ∧ y3 ≤ 122) (h2 : b < 27 ∧ c < 27 ∧ d < 27) : y0 = a + 96 ∧ y1 = b + 96 ∧ y2 = c + 96 ∧ y3 = d + 96 := by
  have q := b27_4 h (by clear h; omega) h2
  clear h
  omega
theorem w27_3 {y0 y1 y2 a b c : Nat} (h : 27 * (27 * (y0 - 96) + (y1 - 96)) + (y2 - 96) = 27 * (27 * a + b) + c) (l0 : 97 ≤ y0 ∧ y0 ≤ 122) (l1 : 97 ≤ y1 ∧ y1 ≤ 122) (l2 : 97 ≤ y2 ∧ y2 ≤ 122) (h2 : b < 27 ∧ c < 27) : y0 = a + 96 ∧ y1 = b + 96 ∧ y2 = c + 96 := by
  have q := b27_3 h (by clear h; omega) h2
  clear h
  omega
theorem wJ {x : zTx} {p n : Nat} (hn : n ≤ 6) (hl : ∀ j, j < n → isLt (x (p + j)) = true) : mWJ (nI n) (nI (vv x p n)) = mO (wdN x p (p + n)) := by
  have hv := vv_lt x p n hl
  have hv6 : 27 ^ n ≤ 27 ^ 6 := Nat.pow_le_pow_right (by omega) hn
  have hv31 : vv x p n < 2 ^ 31 := by omega
  have hl' : ∀ j, j < n → 97 ≤ x (p + j) ∧ x (p + j) ≤ 122 := fun j hj => by have := hl j hj; unfold isLt at this; exact of_decide_eq_true this
  have ev : ∀ c : Nat, c < 2 ^ 31 → (nI (vv x p n) = nI c ↔ vv x p n = c) := fun c hc => nI_eq hv31 hc
  have en : ∀ c : Nat, c < 2 ^ 31 → (nI n = nI c ↔ n = c) := fun c hc => nI_eq (by omega) hc
  have n3 : (nI n = (3 : Int32)) ↔ n = 3 := en 3 (by decide)
  have n4 : (nI n = (4 : Int32)) ↔ n = 4 := en 4 (by decide)
  have v1 : (nI (vv x p n) = (385418 : Int32)) ↔ vv x p n = 385418 := ev 385418 (by decide)
  have v2 : (nI (vv x p n) = (304985 : Int32)) ↔ vv x p n = 304985 := ev 304985 (by decide)
  have v3 : (nI (vv x p n) = (14431 : Int32)) ↔ vv x p n = 14431 := ev 14431 (by decide)
  have v4 : (nI (vv x p n) = (11522 : Int32)) ↔ vv x p n = 11522 := ev 11522 (by decide)
  have v5 : (nI (vv x p n) = (382255 : Int32)) ↔ vv x p n = 382255 := ev 382255 (by decide)
  have v6 : (nI (vv x p n) = (388978 : Int32)) ↔ vv x p n = 388978 := ev 388978 (by decide)
  unfold mWJ mWI
  simp only [n3, n4, v1, v2, v3, v4, v5, v6]
  by_cases h3 : n = 3
  · subst h3
    have e : vv x p 3 = 27 * (27 * (x p - 96) + (x (p + 1) - 96)) + (x (p + 2) - 96) := by show 27 * (27 * (27 * 0 + (x (p + 0) - 96)) + (x (p + 1) - 96)) + (x (p + 2) - 96) = _; simp
    have l0 := hl' 0 (by omega)
    have l1 := hl' 1 (by omega)
    have l2 := hl' 2 (by omega)
    rw [Nat.add_zero] at l0
    have s3 := spl_3 x p (k := 3) rfl
    have s4 := spl_3 x p (k := 4) rfl
    by_cases c3 : vv x p 3 = 14431
    · rw [if_neg (fun z => absurd z.2 (by decide)), if_neg (fun z => absurd z.2 (by decide)), if_pos ⟨c3, rfl⟩, wdN_mk (w := 3) (by decide) (s3.mpr (w27_3 (a := 19) (b := 21) (c := 13) (e.symm.trans c3) l0 l1 l2 (by decide)))]; rfl
    · by_cases c4 : vv x p 3 = 11522
      · rw [if_neg (fun z => absurd z.2 (by decide)), if_neg (fun z => absurd z.2 (by decide)), if_neg (fun z => c3 z.1), if_pos ⟨c4, rfl⟩, wdN_mk (w := 4) (by decide) (s4.mpr (w27_3 (a := 15) (b := 21) (c := 20) (e.symm.trans c4) l0 l1 l2 (by decide)))]; rfl
      · rw [if_neg (fun z => absurd z.2 (by decide)), if_neg (fun z => absurd z.2 (by decide)), if_neg (fun z => c3 z.1), if_neg (fun z => c4 z.1), if_neg (fun z => absurd z.2 (by decide)), if_neg (fun z => absurd z.2 (by decide)), wdN_no (fun k hk hs => ?_)]; rfl
        have hlen := spl_len hs
        have : k = 0 ∨ k = 1 ∨ k = 2 ∨ k = 3 ∨ k = 4 ∨ k = 5 ∨ k = 6 := by omega
        rcases this with q | q | q | q | q | q | q <;> subst q
        · exact absurd hlen (by decide)
        · exact absurd hlen (by decide)
        · exact absurd hlen (by decide)
        · have z := s3.mp hs
          apply c3; rw [e, z.1, z.2.1, z.2.2]
        · have z := s4.mp hs
          apply c4; rw [e, z.1, z.2.1, z.2.2]
        · exact absurd hlen (by decide)
        · exact absurd hlen (by decide)
  · by_cases h4 : n = 4
    · subst h4
      have e : vv x p 4 = 27 * (27 * (27 * (x p - 96) + (x (p + 1) - 96)) + (x (p + 2) - 96)) + (x (p + 3) - 96) := by show 27 * (27 * (27 * (27 * 0 + (x (p + 0) - 96)) + (x (p + 1) - 96)) + (x (p + 2) - 96)) + (x (p + 3) - 96) = _; simp
      have l0 := hl' 0 (by omega)
      have l1 := hl' 1 (by omega)
      have l2 := hl' 2 (by omega)
      have l3 := hl' 3 (by omega)
      have s0 := spl_4 x p (k := 0) rfl
      have s2 := spl_4 x p (k := 2) rfl
      have s5 := spl_4 x p (k := 5) rfl
      have s6 := spl_4 x p (k := 6) rfl
      rw [Nat.add_zero] at l0
      by_cases c0 : vv x p 4 = 385418
      · rw [if_pos ⟨c0, rfl⟩, wdN_mk (w := 0) (by decide) (s0.mpr (w27_4 (a := 19) (b := 15) (c := 18) (d := 20) (e.symm.trans c0) l0 l1 l2 l3 (by decide)))]; rfl
      · by_cases c2 : vv x p 4 = 304985
        · rw [if_neg (fun z => c0 z.1), if_pos ⟨c2, rfl⟩, wdN_mk (w := 2) (by decide) (s2.mpr (w27_4 (a := 15) (b := 13) (c := 9) (d := 20) (e.symm.trans c2) l0 l1 l2 l3 (by decide)))]; rfl
        · by_cases c5 : vv x p 4 = 382255
          · rw [if_neg (fun z => c0 z.1), if_neg (fun z => c2 z.1), if_neg (fun z => absurd z.2 (by decide)), if_neg (fun z => absurd z.2 (by decide)), if_pos ⟨c5, rfl⟩, wdN_mk (w := 5) (by decide) (s5.mpr (w27_4 (a := 19) (b := 11) (c := 9) (d := 16) (e.symm.trans c5) l0 l1 l2 l3 (by decide)))]; rfl
          · by_cases c6 : vv x p 4 = 388978
            · rw [if_neg (fun z => c0 z.1), if_neg (fun z => c2 z.1), if_neg (fun z => absurd z.2 (by decide)), if_neg (fun z => absurd z.2 (by decide)), if_neg (fun z => c5 z.1), if_pos ⟨c6, rfl⟩, wdN_mk (w := 6) (by decide) (s6.mpr (w27_4 (a := 19) (b := 20) (c := 15) (d := 16) (e.symm.trans c6) l0 l1 l2 l3 (by decide)))]; rfl
            · rw [if_neg (fun z => c0 z.1), if_neg (fun z => c2 z.1), if_neg (fun z => absurd z.2 (by decide)), if_neg (fun z => absurd z.2 (by decide)), if_neg (fun z => c5 z.1), if_neg (fun z => c6 z.1), wdN_no (fun k hk hs => ?_)]; rfl
              have hlen := spl_len hs
              have : k = 0 ∨ k = 1 ∨ k = 2 ∨ k = 3 ∨ k = 4 ∨ k = 5 ∨ k = 6 := by omega
              rcases this with q | q | q | q | q | q | q <;> subst q
              · have z := s0.mp hs; apply c0; rw [e, z.1, z.2.1, z.2.2.1, z.2.2.2]
              · exact absurd hlen (by decide)
              · have z := s2.mp hs; apply c2; rw [e, z.1, z.2.1, z.2.2.1, z.2.2.2]
              · exact absurd hlen (by decide)
              · exact absurd hlen (by decide)
              · have z := s5.mp hs; apply c5; rw [e, z.1, z.2.1, z.2.2.1, z.2.2.2]
              · have z := s6.mp hs; apply c6; rw [e, z.1, z.2.1, z.2.2.1, z.2.2.2]
    · rw [if_neg (fun z => h4 z.2), if_neg (fun z => h4 z.2), if_neg (fun z => h3 z.2), if_neg (fun z => h3 z.2), if_neg (fun z => h4 z.2), if_neg (fun z => h4 z.2), wdN_no (fun k hk hs => ?_)]; rfl
      have hlen := spl_len hs
      have : k = 0 ∨ k = 1 ∨ k = 2 ∨ k = 3 ∨ k = 4 ∨ k = 5 ∨ k = 6 := by omega
      have l0 : (zwc 0).length = 4 := rfl
      have l1 : (zwc 1).length = 7 := rfl
      have l2 : (zwc 2).length = 4 := rfl
      have l3 : (zwc 3).length = 3 := rfl
      have l4 : (zwc 4).length = 3 := rfl
      have l5 : (zwc 5).length = 4 := rfl
      have l6 : (zwc 6).length = 4 := rfl
      rcases this with q | q | q | q | q | q | q <;> subst q <;> omega
theorem wdN_7 {x : zTx} {p : Nat} : wdN x p (p + 7) = if spl x 1 p (p + 7) = true then some 1 else none := by
  by_cases h : spl x 1 p (p + 7) = true
  · rw [if_pos h]; exact wdN_mk (by decide) h
  · rw [if_neg h]
    refine wdN_no (fun k hk hs => ?_)
    have hlen := spl_len hs
    have : k = 0 ∨ k = 1 ∨ k = 2 ∨ k = 3 ∨ k = 4 ∨ k = 5 ∨ k = 6 := by omega
    rcases this with q | q | q | q | q | q | q <;> subst q
    · exact absurd hlen (by decide)
    · exact h hs
    · exact absurd hlen (by decide)
    · exact absurd hlen (by decide)
    · exact absurd hlen (by decide)
    · exact absurd hlen (by decide)
    · exact absurd hlen (by decide)
theorem wdN_8 {x : zTx} {p n : Nat} (hn : 7 < n) : wdN x p (p + n) = none := by
  refine wdN_no (fun k hk hs => ?_)
  have hlen := spl_len hs
  have : ∀ k, k < 7 → (zwc k).length ≤ 7 := by decide +kernel
  have := this k hk
  omega
section
variable {E : zE} {B : (Nat → Nat → Int32) × (Nat → Nat → Int64)} {K n : Nat → Nat} {I : Nat → Nat → Int32} {F : Nat → Nat → Option Nat} {J : Nat → Nat → Int64} {m : Nat} {A : Nat → Nat} {V : Nat → Nat → Int32} {T : Nat → Int64} {cb sb : Nat} {Q : zO → zH → Prop} {x : zTx} {L p : Nat}
theorem mo_wordL (h : MS B K n I F J m A V T) (ht : mT V x L) (hp : V 0 3 = nI p) : ∀ (d i : Nat), p + i ≤ L → L - (p + i) = d → (∀ j, j < i → isLt (x (p + j)) = true) →
    (∀ I', MS B K n I' F J m A (zup V 0 3 (nI (lwF x L d (p + i)))) T → Q (.inl (some (.int (mO (wdN x p (lwF x L d (p + i))))))) (K, n, I', F, J)) →
    AW E m_Mo_word (K, n, I, F, J) cb sb Q 4 [some (.ref m), some (.int (nI i)), some (.int (nI (vv x p i)))] []
  | d, i, hi, hd, hl, w => by
    have h5 := ht.2.1
    have eI : I m 3 = nI p := by rw [h.o]; exact hp
    have hK9 := h.K9
    refine r_Mo_word_4 ⟨h.K9, ?_⟩
    rw [eI, nI_add]
    refine mo_isSmall h ht (by omega) ?_
    by_cases hs : p + i < L ∧ isLt (x (p + i)) = true
    · have e : (decide (p + i < L) && isLt (x (p + i))) = true := by simp [hs.1, hs.2]
      rw [e]
      obtain ⟨d, rfl⟩ : ∃ d', d = d' + 1 := ⟨d - 1, by omega⟩
      have el : lwF x L (d + 1) (p + i) = lwF x L d (p + (i + 1)) := by
        conv => lhs; unfold lwF
        rw [if_pos hs]; rfl
      rw [el] at w
      have rec9 := mo_wordL h ht hp d (i + 1) (by omega) (by omega) (fun j hj => by
        by_cases q : j = i
        · rw [q]; exact hs.2
        · exact hl j (by omega)) w
      have hlx : 97 ≤ x (p + i) ∧ x (p + i) ≤ 122 := by have := hs.2; unfold isLt at this; exact of_decide_eq_true this
      refine r_Mo_word_14 ⟨fun z => absurd z (show ¬ (1 : Int32) = 0 by decide), fun _ => pk_le 6 i (fun q => r_Mo_word_45 ?_) (fun q => ⟨h.K9, ?_⟩) rfl rfl (by omega) (by omega)⟩
      · rw [nI_1]
        have ev : vv x p (i + 1) = 0 := by show (if i < 6 then _ else 0) = 0; rw [if_neg (by omega)]
        rw [ev] at rec9
        exact rec9
      · rw [eI, nI_add]
        refine mo_at h ht (by omega) (r_Mo_word_37 (r_Mo_word_45 ?_))
        have es : sat x L (p + i) = some (x (p + i)) := if_pos hs.1
        have ev : vv x p (i + 1) = 27 * vv x p i + (x (p + i) - 96) := by show (if i < 6 then _ else 0) = _; rw [if_pos q]
        have e1 : (27 : Int32) * nI (vv x p i) + mO (sat x L (p + i)) - 96 = nI (vv x p (i + 1)) := by
          rw [es, mO_some, ev]
          show nI 27 * nI (vv x p i) + nI (x (p + i)) - nI 96 = _
          rw [pk_mul, nI_add, pk_sub (by omega)]
          congr 1; omega
        rw [e1, nI_1]
        exact rec9
    · have e : (decide (p + i < L) && isLt (x (p + i))) = false := by
        by_cases q : p + i < L
        · have : isLt (x (p + i)) ≠ true := fun z => hs ⟨q, z⟩
          simp [this]
        · simp [q]
      rw [e]
      have el : lwF x L d (p + i) = p + i := by
        cases d with
        | zero => rfl
        | succ d => unfold lwF; rw [if_neg hs]
      rw [el] at w
      have h2 := h.up0 3 (nI (p + i))
      have w' := w _ h2
      refine r_Mo_word_14 ⟨fun _ => ⟨h.K9, ?_⟩, fun z => absurd rfl z⟩
      rw [eI, nI_add]
      refine pk_le i 7 (fun q => ⟨fun q7 => ?_, fun q7 => ?_⟩) (fun q => ?_) rfl rfl (by omega) (by omega)
      · have hi6 : i ≤ 6 := by
          have : i ≠ 7 := fun z => q7 (by rw [z]; rfl)
          omega
        have hw := wJ (x := x) (p := p) hi6 hl
        rw [← hw] at w'
        unfold mWJ at w'
        have w111 : ¬ (nI (vv x p i) = (385418 : Int32) ∧ nI i = (4 : Int32)) → AW E m_Mo_word (K, n, zup I m 3 (nI (p + i)), F, J) cb sb Q 111 [none, some (.int (nI i)), some (.int (nI (vv x p i)))] [] := fun hn => by
          rw [if_neg hn] at w'
          refine r_Mo_word_111 ⟨fun z => mo_w126 ?_, fun z => ⟨fun z2 => mo_w126 ?_, fun z2 => ?_⟩⟩
          · rw [if_neg (fun y => z y.1)] at w'; exact w'
          · rw [if_neg (fun y => z2 y.2)] at w'; exact w'
          · rw [if_pos ⟨z, z2⟩] at w'; exact w'
        refine ⟨fun z => w111 (fun y => z y.1), fun z => ⟨fun z2 => w111 (fun y => z2 y.2), fun z2 => ?_⟩⟩
        rw [if_pos ⟨z, z2⟩] at w'; exact w'
      · have hi7 : i = 7 := (nI_eq (a := i) (b := 7) (by omega) (by omega)).mp q7
        subst hi7
        rw [zup_s]
        have e7 : nI (p + 7) - (7 : Int32) = nI p := by
          have := pk_sub (a := p + 7) (b := 7) (by omega)
          rw [show p + 7 - 7 = p by omega] at this
          exact this
        rw [e7]
        refine mo_isInc h2 (ht.up (by decide) (by omega)) hi ?_
        rw [wdN_7] at w'
        cases hsp : spl x 1 p (p + 7) with
        | true =>
          rw [hsp, if_pos rfl] at w'
          exact r_Mo_word_87 ⟨fun z => absurd z (by decide), fun _ => r_Mo_word_95 w'⟩
        | false =>
          rw [hsp, if_neg (by decide)] at w'
          exact r_Mo_word_87 ⟨fun _ => r_Mo_word_95 w', fun z => absurd rfl z⟩
      · rw [wdN_8 q] at w'; exact w'
theorem mo_word (h : MS B K n I F J m A V T) (ht : mT V x L) (hp : V 0 3 = nI p) (hpL : p ≤ L) (w : ∀ I', MS B K n I' F J m A (zup V 0 3 (nI (lwF x L (L - p) p))) T → Q (.inl (some (.int (mO (wdN x p (lwF x L (L - p) p)))))) (K, n, I', F, J)) : AW E m_Mo_word (K, n, I, F, J) cb sb Q 0 [some (.ref m), none, none] [] :=
  r_Mo_word_0 (mo_wordL h ht hp (L - p) 0 hpL (by omega) (fun j hj => by omega) w)
end
