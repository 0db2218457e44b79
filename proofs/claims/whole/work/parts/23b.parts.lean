def numIn (t : zPart) (r : List Nat) : Nat → Nat → Nat → Nat
  | _, 0, acc => acc
  | k, d + 1, acc => numIn t r (k + 1) d (acc * 10 + dig (poct t r k))
def wnum (f : Nat) : Nat → List Nat → Nat → List Nat
  | 0, r, _ => r
  | k + 1, r, v => wnum f k (zput r (f + k) (48 + v % 10)) (v / 10)
theorem zneg {x : Int32} (h : -256 < x.toInt ∧ x.toInt < 256) : (-x).toInt = - x.toInt := by
  rw [Int32.toInt_neg]
  simp only [Int.bmod]
  split <;> omega
theorem zdrop_at {α : Type} {xs : List α} {k : Nat} {y : α} {ys : List α} (h : xs.drop k = y :: ys) : xs[k]? = some y ∧ xs.drop (k + 1) = ys ∧ k < xs.length := by
  have h1 : (xs.drop k)[0]? = some y := by rw [h]; rfl
  rw [List.getElem?_drop] at h1
  refine ⟨h1, ?_, ?_⟩
  · rw [← List.drop_drop, h]; rfl
  · exact (List.getElem?_eq_some_iff.mp h1).1
section
variable {E : zE} {K n : Nat → Nat} {I : Nat → Nat → Int32} {F : Nat → Nat → Option Nat} {J : Nat → Nat → Int64} {cb sb : Nat} {Q : zO → zH → Prop}
theorem c_cmpRL {s a a' : Nat} {st : zStm} {r r' : List Nat} (hS : cSt E K n I F s st) (hR : cR K n I F a r) (hR' : cR K n I F a' r') : ∀ (ks : List zKey) (k : Nat), st.1.drop k = ks → k ≤ st.1.length →
    (∀ x : Int32, x.toInt = cmpR ks r r' → -256 < x.toInt ∧ x.toInt < 256 → Q (.inl (some (.int x))) (K, n, I, F, J)) →
    AW E m_Statements_compareRows (K, n, I, F, J) cb sb Q 2 [some (.ref s), some (.ref a), some (.ref a'), some (.int (nI k)), none, none] []
  | [], k, hd, hk, w => by
    obtain ⟨h1, -, -, -, -, -, -, -, l0, l1, l2, l3, f0, f1, f2, f3, ⟨xs, cap, hL, hcap, hlen, hC⟩, -⟩ := hS
    have hkl : st.1.length ≤ k := List.drop_eq_nil_iff.mp hd
    have := hL.2.2.1
    refine r_Statements_compareRows_2 ⟨h1, l0, f0, hL.1, c_size hL.1 hL.2.1 (r_Statements_compareRows_10 (br_t (nI_le (by omega) (by omega)) (w 0 (by unfold cmpR; decide) (by decide))))⟩
  | key :: ks, k, hd, hk, w => by
    obtain ⟨h1, -, -, -, -, -, -, -, l0, l1, l2, l3, f0, f1, f2, f3, ⟨xs, cap, hL, hcap, hlen, hC⟩, -⟩ := id hS
    obtain ⟨d1, d2, d3⟩ := zdrop_at hd
    have := hL.2.2.1
    refine r_Statements_compareRows_2 ⟨h1, l0, f0, hL.1, c_size hL.1 hL.2.1 (r_Statements_compareRows_10 (br_f (nI_ge (by omega) (by omega)) ⟨h1, l0, f0, hL.1, c_get hL (by omega) ?_⟩))⟩
    obtain ⟨k1, k2, k3, p, k4, k5⟩ := hC k key d1
    refine r_Statements_compareRows_21 ⟨k1, p, k4, ?_⟩
    rw [k3]
    refine c_cmpP k5 hR k5 hR' (fun x hx hb => r_Statements_compareRows_46 ⟨fun h => ?_, fun h => ⟨k1, ?_⟩⟩)
    · rw [nI_1]
      refine c_cmpRL hS hR hR' ks (k + 1) d2 d3 (fun y hy hyb => w y ?_ hyb)
      rw [cmpR, if_pos (by show cmpP _ _ _ _ _ = 0; rw [← hx, h]; decide)]
      exact hy
    · have hne : ¬ cmpK key r r' = 0 := fun z => h (by
        apply Int32.toInt_inj.mp
        rw [hx]
        exact z)
      rw [k2]
      refine ⟨fun z => w x ?_ hb, fun z => w (-x) ?_ (by rw [zneg hb]; omega)⟩
      · have hf := (zB_0 _).mp z
        rw [cmpR, if_neg hne, hf]
        exact hx
      · have ht : key.2.2.1 = true := by cases hq : key.2.2.1 <;> simp_all [zB]
        rw [cmpR, if_neg hne, ht, zneg hb, hx]
        rfl
/-- compareRows -/
theorem c_cmpR {s a a' : Nat} {st : zStm} {r r' : List Nat} (hS : cSt E K n I F s st) (hR : cR K n I F a r) (hR' : cR K n I F a' r')
    (w : ∀ x : Int32, x.toInt = cmpR st.1 r r' → -256 < x.toInt ∧ x.toInt < 256 → Q (.inl (some (.int x))) (K, n, I, F, J)) :
    AW E m_Statements_compareRows (K, n, I, F, J) cb sb Q 0 [some (.ref s), some (.ref a), some (.ref a'), none, none, none] [] :=
  r_Statements_compareRows_0 (c_cmpRL hS hR hR' st.1 0 rfl (by omega) w)
theorem zi0 (x : Int32) : (x = 0 ↔ x.toInt = 0) ∧ (0 ≤ x ↔ 0 ≤ x.toInt) ∧ (x ≤ 0 ↔ x.toInt ≤ 0) ∧ (x < 0 ↔ x.toInt < 0) ∧ (0 < x ↔ 0 < x.toInt) := by
  have e0 : (0 : Int32).toInt = 0 := by decide
  refine ⟨⟨fun h => by rw [h, e0], fun h => Int32.toInt_inj.mp (by rw [h, e0])⟩, ?_, ?_, ?_, ?_⟩
  · rw [Int32.le_iff_toInt_le, e0]
  · rw [Int32.le_iff_toInt_le, e0]
  · rw [Int32.lt_iff_toInt_lt, e0]
  · rw [Int32.lt_iff_toInt_lt, e0]
theorem c_holds {x a : Nat} {t : zTest} {r : List Nat} (hT : cT K n I F x t) (hR : cR K n I F a r) (w : Q (.inl (some (.int (zB (tval t r))))) (K, n, I, F, J)) : AW E m_Test_holds (K, n, I, F, J) cb sb Q 0 [some (.ref x), some (.ref a), none] [] := by
  obtain ⟨h1, h2, h3, h4, p, p', h5, h6, h7, h8⟩ := hT
  refine r_Test_holds_0 ⟨h1, p, h5, p', h7, c_cmpP (b := false) h6 hR h8 hR (fun y hy hb => r_Test_holds_14 ⟨h1, ?_⟩)⟩
  rw [h3]
  obtain ⟨z1, z2, z3, z4, z5⟩ := zi0 y
  have e35 : (nI t.2.2.1 = 35) ↔ t.2.2.1 = 35 := nI_eq (b := 35) (by omega) (by omega)
  have e60 : (nI t.2.2.1 = 60) ↔ t.2.2.1 = 60 := nI_eq (b := 60) (by omega) (by omega)
  have e61 : (nI t.2.2.1 = 61) ↔ t.2.2.1 = 61 := nI_eq (b := 61) (by omega) (by omega)
  unfold tval at w
  dsimp only at w
  rw [← hy] at w
  refine ⟨fun h => ?_, fun h => ?_, fun h => ?_, fun h h' h'' => ?_⟩
  · have h := e35.mp h
    rw [if_neg (by omega), if_pos h] at w
    refine ⟨fun q => ?_, fun q => ?_⟩
    · rw [show decide (y.toInt ≠ 0) = false from decide_eq_false (fun z => z (z1.mp q))] at w; exact w
    · rw [show decide (y.toInt ≠ 0) = true from decide_eq_true (fun z => q (z1.mpr z))] at w; exact w
  · have h := e60.mp h
    rw [if_neg (by omega), if_neg (by omega), if_pos h] at w
    refine ⟨fun q => ?_, fun q => ?_⟩
    · rw [show decide (y.toInt < 0) = false from decide_eq_false (fun z => by have := z2.mp q; omega)] at w; exact w
    · rw [show decide (y.toInt < 0) = true from decide_eq_true (Int.not_le.mp (fun z => q (z2.mpr z)))] at w; exact w
  · have h := e61.mp h
    rw [if_pos h] at w
    refine ⟨fun q => ?_, fun q => ?_⟩
    · rw [show decide (y.toInt = 0) = false from decide_eq_false (fun z => q (z1.mpr z))] at w; exact w
    · rw [show decide (y.toInt = 0) = true from decide_eq_true (z1.mp q)] at w; exact w
  · have h1 : t.2.2.1 ≠ 35 := fun z => h (e35.mpr z)
    have h2 : t.2.2.1 ≠ 60 := fun z => h' (e60.mpr z)
    have h3 : t.2.2.1 ≠ 61 := fun z => h'' (e61.mpr z)
    rw [if_neg h3, if_neg h1, if_neg h2] at w
    refine ⟨fun q => ?_, fun q => ?_⟩
    · rw [show decide (0 < y.toInt) = false from decide_eq_false (fun z => by have := z3.mp q; omega)] at w; exact w
    · rw [show decide (0 < y.toInt) = true from decide_eq_true (Int.not_le.mp (fun z => q (z3.mpr z)))] at w; exact w
theorem c_keepsL {s a : Nat} {st : zStm} {r : List Nat} (hS : cSt E K n I F s st) (hR : cR K n I F a r) : ∀ (ts : List zTest) (k : Nat) (b : Bool), st.2.1.drop k = ts → k ≤ st.2.1.length →
    Q (.inl (some (.int (zB (tfold r ts b != st.2.2.2.2.1))))) (K, n, I, F, J) →
    AW E m_Statements_keeps (K, n, I, F, J) cb sb Q 30 [some (.ref s), some (.ref a), some (.int (zB b)), some (.int (nI k)), none] []
  | [], k, b, hd, hk, w => by
    obtain ⟨h1, ho, -, -, -, -, -, -, l0, l1, l2, l3, f0, f1, f2, f3, -, ⟨xs, cap, hL, hcap, hlen, hC⟩, -⟩ := hS
    have hkl : st.2.1.length ≤ k := List.drop_eq_nil_iff.mp hd
    have := hL.2.2.1
    refine r_Statements_keeps_30 ⟨h1, l1, f1, hL.1, c_size hL.1 hL.2.1 (r_Statements_keeps_38 (br_t (nI_le (by omega) (by omega)) ⟨h1, ?_⟩))⟩
    rw [ho]
    rw [tfold] at w
    refine ⟨fun z => ?_, fun z => ?_⟩
    · have : (b != st.2.2.2.2.1) = false := by cases b <;> cases hq : st.2.2.2.2.1 <;> simp_all [zB]
      rw [this] at w; exact w
    · have : (b != st.2.2.2.2.1) = true := by cases b <;> cases hq : st.2.2.2.2.1 <;> simp_all [zB]
      rw [this] at w; exact w
  | t :: ts, k, b, hd, hk, w => by
    obtain ⟨h1, ho, -, -, -, -, -, -, l0, l1, l2, l3, f0, f1, f2, f3, -, ⟨xs, cap, hL, hcap, hlen, hC⟩, -⟩ := id hS
    obtain ⟨d1, d2, d3⟩ := zdrop_at hd
    have := hL.2.2.1
    refine r_Statements_keeps_30 ⟨h1, l1, f1, hL.1, c_size hL.1 hL.2.1 (r_Statements_keeps_38 (br_f (nI_ge (by omega) (by omega)) ⟨h1, l1, f1, hL.1, c_get hL (by omega) ?_⟩))⟩
    have hT := hC k t d1
    rw [tfold] at w
    have rcc : ∀ c : Bool, c = (if t.1 then b || tval t r else b && tval t r) → AW E m_Statements_keeps (K, n, I, F, J) cb sb Q 30 [some (.ref s), some (.ref a), some (.int (zB c)), some (.int (nI k + (1 : Int32))), none] [] := fun c hc => by
      rw [nI_1]
      refine c_keepsL hS hR ts (k + 1) c d2 d3 ?_
      rw [hc]
      exact w
    refine r_Statements_keeps_49 ⟨hT.1, ?_⟩
    rw [hT.2.1]
    refine ⟨fun z => ⟨fun z2 => ?_, fun z2 => c_holds hT hR (r_Statements_keeps_93 ⟨fun z3 => ?_, fun z3 => ?_⟩)⟩, fun z => ⟨fun z2 => ?_, fun z2 => c_holds hT hR (r_Statements_keeps_72 ⟨fun z3 => ?_, fun z3 => ?_⟩)⟩⟩
    · exact rcc false (by rw [(zB_0 _).mp z, (zB_0 _).mp z2]; rfl)
    · exact rcc false (by rw [(zB_0 _).mp z, (zB_0 _).mp z3]; simp)
    · refine rcc true ?_
      have hb : b = true := by cases b <;> simp_all [zB]
      have ht : tval t r = true := by cases hq : tval t r <;> simp_all [zB]
      rw [(zB_0 _).mp z, hb, ht]; rfl
    · refine rcc true ?_
      have hb : b = true := by cases b <;> simp_all [zB]
      have ht : t.1 = true := by cases hq : t.1 <;> simp_all [zB]
      rw [ht, hb]; rfl
    · refine rcc false ?_
      have ht : t.1 = true := by cases hq : t.1 <;> simp_all [zB]
      rw [ht, (zB_0 _).mp z2, (zB_0 _).mp z3]; rfl
    · refine rcc true ?_
      have ht : t.1 = true := by cases hq : t.1 <;> simp_all [zB]
      have ht2 : tval t r = true := by cases hq : tval t r <;> simp_all [zB]
      rw [ht, ht2]; simp
/-- keeps -/
theorem c_keeps {s a : Nat} {st : zStm} {r : List Nat} (hS : cSt E K n I F s st) (hR : cR K n I F a r) (w : Q (.inl (some (.int (zB (keepsB st r))))) (K, n, I, F, J)) : AW E m_Statements_keeps (K, n, I, F, J) cb sb Q 0 [some (.ref s), some (.ref a), none, none, none] [] := by
  obtain ⟨h1, ho, -, -, -, -, -, -, l0, l1, l2, l3, f0, f1, f2, f3, -, ⟨xs, cap, hL, hcap, hlen, hC⟩, -⟩ := id hS
  have := hL.2.2.1
  refine r_Statements_keeps_0 ⟨h1, l1, f1, hL.1, c_isEmpty hL.1 hL.2.1 (by omega) (r_Statements_keeps_7 ?_)⟩
  unfold keepsB at w
  cases hq : st.2.1 with
  | nil =>
    rw [hq] at w
    have h0 : xs.length = 0 := by rw [hlen, hq]; rfl
    rw [if_pos h0]
    exact ⟨fun z => absurd z (by decide), fun _ => w⟩
  | cons t ts =>
    rw [hq] at w
    have h0 : ¬ xs.length = 0 := by rw [hlen, hq]; simp
    rw [if_neg h0]
    refine ⟨fun _ => ⟨h1, l1, f1, hL.1, c_get (i := 0) hL (by omega) ?_⟩, fun z => absurd rfl z⟩
    have hT := hC 0 t (by rw [hq]; rfl)
    refine r_Statements_keeps_20 ⟨hT.1, c_holds hT hR (r_Statements_keeps_27 ?_)⟩
    exact c_keepsL hS hR ts 1 (tval t r) (by rw [hq]; rfl) (by rw [hq]; simp) w
/-- numberIn -/
theorem c_numL {p a : Nat} {t : zPart} {r : List Nat} (hP : cP K n I F p t) (hR : cR K n I F a r) : ∀ (d k acc : Nat), k + d = t.2.2 → Q (.inl (some (.long (lN (numIn t r k d acc))))) (K, n, I, F, J) →
    AW E m_Part_numberIn (K, n, I, F, J) cb sb Q 5 [some (.ref p), some (.ref a), some (.long (lN acc)), none, some (.int (nI k))] []
  | 0, k, acc, hk, w => by
    have := hP.2.2.2.2.1
    refine r_Part_numberIn_5 ⟨hP.1, ?_⟩
    rw [hP.2.2.1]
    exact br_t (nI_le (by omega) (by omega)) w
  | d + 1, k, acc, hk, w => by
    have := hP.2.2.2.2.1
    refine r_Part_numberIn_5 ⟨hP.1, ?_⟩
    rw [hP.2.2.1]
    refine br_f (nI_ge (by omega) (by omega)) (c_partOct hP hR (by omega) (r_Part_numberIn_26 (c_digitOf (poct_lt hP hR.2.2.1 k) (r_Part_numberIn_29 ?_))))
    have := dig_lt (poct t r k)
    have e : lN acc * (10 : Int64) + (nI (dig (poct t r k))).toInt64 = lN (acc * 10 + dig (poct t r k)) := by
      rw [nI_l (by omega), show (10 : Int64) = lN 10 from rfl, lN_mul, lN_add]
    rw [e, nI_1]
    exact c_numL hP hR d (k + 1) _ (by omega) w
theorem c_num {p a : Nat} {t : zPart} {r : List Nat} (hP : cP K n I F p t) (hR : cR K n I F a r) (w : Q (.inl (some (.long (lN (numIn t r 0 t.2.2 0))))) (K, n, I, F, J)) : AW E m_Part_numberIn (K, n, I, F, J) cb sb Q 0 [some (.ref p), some (.ref a), none, none, none] [] :=
  r_Part_numberIn_0 (c_numL hP hR t.2.2 0 0 (by omega) w)
theorem c_tooL {p : Nat} {t : zPart} (hP : cP K n I F p t) : ∀ (d k acc : Nat), k + d = t.2.2 → Q (.inl (some (.long (lN (acc * 10 ^ d))))) (K, n, I, F, J) →
    AW E m_Part_firstNumberTooLong (K, n, I, F, J) cb sb Q 4 [some (.ref p), some (.long (lN acc)), none, some (.int (nI k))] []
  | 0, k, acc, hk, w => by
    have := hP.2.2.2.2.1
    refine r_Part_firstNumberTooLong_4 ⟨hP.1, ?_⟩
    rw [hP.2.2.1]
    refine br_t (nI_le (by omega) (by omega)) ?_
    simpa using w
  | d + 1, k, acc, hk, w => by
    have := hP.2.2.2.2.1
    refine r_Part_firstNumberTooLong_4 ⟨hP.1, ?_⟩
    rw [hP.2.2.1]
    refine br_f (nI_ge (by omega) (by omega)) ?_
    rw [show (10 : Int64) = lN 10 from rfl, lN_mul, nI_1]
    refine c_tooL hP d (k + 1) _ (by omega) ?_
    rw [Nat.mul_assoc, ← Nat.pow_succ']
    exact w
theorem c_too {p : Nat} {t : zPart} (hP : cP K n I F p t) (w : Q (.inl (some (.long (lN (10 ^ t.2.2))))) (K, n, I, F, J)) : AW E m_Part_firstNumberTooLong (K, n, I, F, J) cb sb Q 0 [some (.ref p), none, none, none] [] :=
  r_Part_firstNumberTooLong_0 (c_tooL hP t.2.2 0 1 (by omega) (by rw [Nat.one_mul]; exact w))
end
section
variable {E : zE} {K n : Nat → Nat} {F : Nat → Nat → Option Nat} {J : Nat → Nat → Int64} {cb sb : Nat} {Q : zO → zH → Prop}
/-- writeNumber -/
theorem c_wnumL {p a : Nat} {t : zPart} (ht : t.2.1 + t.2.2 ≤ 100) (hG : HG E K F) : ∀ (k v : Nat) (r : List Nat) (I : Nat → Nat → Int32), k ≤ t.2.2 → v < 2 ^ 62 → cP K n I F p t → cR K n I F a r →
    (∀ I', GR (fun c => c = a ∨ F a 0 = some c) (K, n, I, F, J) (K, n, I', F, J) → (∀ j, j ≠ 1 → I' a j = I a j) → cR K n I' F a (wnum t.2.1 k r v) → Q (.inl none) (K, n, I', F, J)) →
    AW E m_Part_writeNumber (K, n, I, F, J) cb sb Q 11 [some (.ref p), some (.ref a), none, none, some (.long (lN v)), none, some (.int (nI k - (1 : Int32)))] []
  | 0, v, r, I, hk, hv, hP, hR, w => by
    refine r_Part_writeNumber_11 (br_t (by decide) (w I (GR.refl _) (fun _ _ => rfl) hR))
  | k + 1, v, r, I, hk, hv, hP, hR, w => by
    rw [nI_pred]
    refine r_Part_writeNumber_11 (br_f (nI_pos (by omega)) ⟨hP.1, hR.1, ?_⟩)
    rw [hP.2.1, nI_add]
    have e : ((48 : Int64) + (lN v - lN v / (10 : Int64) * (10 : Int64))).toInt32 = nI (48 + v % 10) := by
      rw [show (10 : Int64) = lN 10 from rfl, pk_lRem (by omega) (by omega) (by omega), show (48 : Int64) = lN 48 from rfl, lN_add, lN_i]
    rw [e]
    refine c_put hR (by omega) (fun I1 g1 f1 r1 => r_Part_writeNumber_38 ?_)
    have e2 : lN v / (10 : Int64) = lN (v / 10) := pk_lDiv (b := 10) (by omega) (by omega) (by omega)
    have e3 : nI k + ((-1) : Int32) = nI k - (1 : Int32) := by rw [Int32.sub_eq_add_neg]
    rw [e2, e3]
    have hu : (nI (48 + v % 10)).toBitVec.toNat % 256 = 48 + v % 10 := by rw [pk_tn (by omega)]; omega
    rw [hu] at r1
    refine c_wnumL ht hG k (v / 10) _ I1 (by omega) (by omega) (hP.fr g1 (fun z => ?_) (fun b hb z => ?_)) r1 (fun I2 g2 f2 r2 => w I2 (g1.trans g2 (fun _ _ z => z)) (fun j hj => (f2 j hj).trans (f1 j hj)) r2)
    · rcases z with z | z
      · have := hP.1; rw [z] at this; have := hR.1; omega
      · have := hG.2.2.1 a p hR.1 z; have := hP.1; omega
    · rcases z with z | z
      · have := hG.2.2.2.2.1 p b hP.1 hb; rw [z] at this; have := hR.1; omega
      · exact hG.2.2.2.2.2 p a b hP.1 hR.1 hb z
theorem c_wnum {p a v : Nat} {t : zPart} {r : List Nat} {I : Nat → Nat → Int32} (hP : cP K n I F p t) (hR : cR K n I F a r) (ht : t.2.1 + t.2.2 ≤ 100) (hv : v < 2 ^ 62) (hG : HG E K F)
    (w : ∀ I', GR (fun c => c = a ∨ F a 0 = some c) (K, n, I, F, J) (K, n, I', F, J) → (∀ j, j ≠ 1 → I' a j = I a j) → cR K n I' F a (wnum t.2.1 t.2.2 r v) → Q (.inl none) (K, n, I', F, J)) :
    AW E m_Part_writeNumber (K, n, I, F, J) cb sb Q 0 [some (.ref p), some (.ref a), some (.long (lN v)), none, none, none, none] [] := by
  refine r_Part_writeNumber_0 ⟨hP.1, ?_⟩
  rw [hP.2.2.1]
  exact c_wnumL ht hG t.2.2 v r I (by omega) hv hP hR w
end
