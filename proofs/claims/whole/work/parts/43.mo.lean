-- ===== the reference: keys, sums =====
def kR (V : Nat → Nat → Int32) (i : Nat) (k : zKey) : Prop := V 7 (4 * i) = nI (k.1 + 1) ∧ V 7 (4 * i + 1) = nI k.2.1 ∧ V 7 (4 * i + 2) = zB k.2.2.1 ∧ V 7 (4 * i + 3) = zB k.2.2.2 ∧ k.1 + k.2.1 ≤ 100
def sR (V : Nat → Nat → Int32) (i : Nat) (f : zPart) : Prop := V 9 (2 * i) = nI (f.2.1 + 1) ∧ V 9 (2 * i + 1) = nI f.2.2 ∧ f.1 = none ∧ f.2.1 + f.2.2 ≤ 100 ∧ 1 ≤ f.2.2 ∧ f.2.2 ≤ 9
section
variable {E : zE} {B : (Nat → Nat → Int32) × (Nat → Nat → Int64)} {K n : Nat → Nat} {I : Nat → Nat → Int32} {F : Nat → Nat → Option Nat} {J : Nat → Nat → Int64} {m : Nat} {A : Nat → Nat} {V : Nat → Nat → Int32} {T : Nat → Int64} {cb sb : Nat} {Q : zO → zH → Prop} {x : zTx} {L p : Nat}
theorem fldP_in {most a b q : Nat} (hpL : p ≤ L) (e : fldP x L most p = (some (a, b), q)) : a + b ≤ 100 ∧ 1 ≤ b ∧ b ≤ most ∧ p < q ∧ q ≤ L := by
  unfold fldP at e
  have hn1 := numP_le (x := x) (L := L) (lo := 1) (hi := 100) hpL
  cases e1 : numP x L 1 100 p with
  | mk o1 q1 =>
  rw [e1] at hn1 e
  cases o1 with
  | none => simp only [zbind] at e; cases e
  | some a' =>
    simp only [zbind] at e
    have hn2 := tkP_le (x := x) (L := L) (cs := [44]) hn1.1
    dsimp only at hn1
    cases e2 : tkP x L [44] q1 with
    | mk o2 q2 =>
    rw [e2] at hn2 e
    cases o2 with
    | none => dsimp only at e; cases e
    | some c =>
      dsimp only at e hn2
      have hn3 := numP_le (x := x) (L := L) (lo := 1) (hi := min most (101 - a')) hn2.1
      cases e3 : numP x L 1 (min most (101 - a')) q2 with
      | mk o3 q3 =>
      rw [e3] at hn3 e
      cases o3 with
      | none => dsimp only at e; cases e
      | some b' =>
        dsimp only at e hn3
        have e' := Prod.mk.inj e
        have e'' := Prod.mk.inj (Option.some.inj e'.1)
        have h1 := hn1.2 a' rfl
        have h2 := hn2.2 c rfl
        have h3 := hn3.2 b' rfl
        omega
/-- key() -/
theorem mo_key {c : Nat} (h : MS B K n I F J m A V T) (ht : mT V x L) (hp : V 0 3 = nI p) (hpL : p ≤ L) (hc : V 5 1 = nI c) (hc6 : c < 6)
    (w0 : ∀ q I' V', keyP x L p = (none, q) → MS B K n I' F J m A V' T → V' 0 3 = nI q → pE V V' → Q (.inl (some (.int 0))) (K, n, I', F, J))
    (w1 : ∀ k q I' V', keyP x L p = (some k, q) → MS B K n I' F J m A V' T → V' 0 3 = nI q → V' 5 1 = nI (c + 1) → kR V' c k → (∀ f j, ¬ (f = 0 ∧ j = 3) → ¬ (f = 5 ∧ j = 1) → ¬ (f = 7 ∧ 4 * c ≤ j) → V' f j = V f j) → q ≤ L → Q (.inl (some (.int 1))) (K, n, I', F, J)) :
    AW E m_Mo_key (K, n, I, F, J) cb sb Q 0 [some (.ref m), none, none, none] [] := by
  unfold keyP at w0 w1
  have h5 := ht.2.1
  refine r_Mo_key_0 ⟨h.K9, _, h.f (f := 5) (by decide), h.k (by decide), 1, rfl, by rw [h.sz (by decide)]; decide, by decide, ?_⟩
  rw [h.a (by decide), hc]
  have e6 : ¬ nI c = (6 : Int32) := fun z => by have := (nI_eq (a := c) (b := 6) (by omega) (by omega)).mp z; omega
  have e4 : (4 : Int32) * nI c = nI (4 * c) := pk_mul 4 c
  refine ⟨fun _ => ⟨_, h.f (f := 7) (by decide), ?_⟩, fun z => absurd z e6⟩
  rw [e4]
  refine mo_field (f := 7) (k := 4 * c) (most := 40) (by omega) (by show 4 * c + 1 < 48; omega) (by omega) h ht hp hpL (fun q I1 e h1 => ?_) (fun a b q1 I1 e1 h1 => ?_)
  · rw [e] at w0
    exact r_Mo_key_33 ⟨fun z => absurd rfl z, fun _ => w0 q I1 _ rfl h1 (zup_s _ _ _ _) ((pE.refl V).up (Or.inl ⟨rfl, rfl⟩))⟩
  have hfi := fldP_in hpL e1
  rw [e1] at w0 w1
  simp only [zbind] at w0 w1
  have hV1 : pE V (zup (zup (zup V 0 3 (nI q1)) 7 (4 * c) (nI (a + 1))) 7 (4 * c + 1) (nI b)) := (((pE.refl V).up (Or.inl ⟨rfl, rfl⟩)).up (Or.inr (by omega))).up (Or.inr (by omega))
  refine r_Mo_key_33 ⟨fun _ => ⟨h1.K9, ?_⟩, fun z => absurd z (by decide)⟩
  have hn2 := tkP_le (x := x) (L := L) (cs := [44]) (p := q1) (by omega)
  refine mo_meets (c := 44) (p := q1) (by omega) h1 (hV1.mT ht) (by simp [zup_at]) (by omega) (fun I2 h2 => ?_)
  cases e2 : tkP x L [44] q1 with
  | mk o2 q2 =>
  rw [e2] at hn2 h2 w0 w1
  dsimp only at hn2 h2
  have hV2 := hV1.up (f := 0) (j := 3) (v := nI q2) (Or.inl ⟨rfl, rfl⟩)
  cases o2 with
  | none => exact r_Mo_key_44 ⟨fun z => absurd rfl z, fun _ => w0 q2 I2 _ rfl h2 (zup_s _ _ _ _) hV2⟩
  | some c2 =>
  dsimp only at w0 w1
  refine r_Mo_key_44 ⟨fun _ => ⟨h2.K9, ?_⟩, fun z => absurd z (show ¬ (1 : Int32) = 0 by decide)⟩
  have hk2 := sk_le (x := x) hn2.1
  refine mo_sg h2 (hV2.mT ht) (zup_s _ _ _ _) hn2.1 (fun I3 h3 => ?_)
  rw [zup2] at h3
  have hb := fun u => @sat_b V x L (sk x L q2) u ht
  have hV3 := hV1.up (f := 0) (j := 3) (v := nI (sk x L q2)) (Or.inl ⟨rfl, rfl⟩)
  -- the way is neither a nor d
  have none3 : sat x L (sk x L q2) ≠ some 97 → sat x L (sk x L q2) ≠ some 100 → Q (.inl (some (.int 0))) (K, n, I3, F, J) := fun n1 n2 => by
    have e3 : tkP x L [97, 100] q2 = (none, sk x L q2) := by
      unfold tkP
      cases e : sat x L (sk x L q2) with
      | none => rfl
      | some u =>
        dsimp only
        rw [if_neg]
        intro hm
        rcases List.mem_cons.mp hm with y | y
        · exact n1 (by rw [e, y])
        · exact n2 (by rw [e, List.mem_singleton.mp y])
    rw [e3] at w0
    exact w0 _ I3 _ rfl h3 (zup_s _ _ _ _) hV3
  -- behind the way
  have way : ∀ (wv : Nat) (db : Bool), sat x L (sk x L q2) = some wv → (wv = 97 ∨ wv = 100) → db = (wv == 100) → ∀ V4, V4 = zup (zup (zup (zup (zup (zup (zup (zup V 0 3 (nI q1)) 7 (4 * c) (nI (a + 1))) 7 (4 * c + 1) (nI b)) 0 3 (nI (sk x L q2))) 0 3 (nI (sk x L q2 + 1))) 7 (4 * c + 2) (zB db)) 7 (4 * c + 3) (0 : Int32)) 5 1 (nI (c + 1)) → ∀ I4, MS B K n I4 F J m A V4 T → AW E m_Mo_sign (K, n, I4, F, J) 0 0 (zAft E m_Mo_key cb sb Q 117 [some (.ref m), some (.int (nI (4 * c))), none, none] []) 0 [some (.ref m)] [] := fun wv db es hwv hdb V4 hV4 I4 h4 => by
    have hlt : sk x L q2 < L := by
      unfold sat at es
      split at es
      · assumption
      · cases es
    have e3 : tkP x L [97, 100] q2 = (some wv, sk x L q2 + 1) := by
      unfold tkP
      rw [es]
      dsimp only
      rw [if_pos (by rcases hwv with y | y <;> simp [y])]
    rw [e3] at w0 w1
    dsimp only at w0 w1
    rw [← hdb] at w0 w1
    have pV4 : pE V V4 := by rw [hV4]; exact (((hV3.up (Or.inl ⟨rfl, rfl⟩)).up (Or.inr (by omega))).up (Or.inr (by omega))).up (Or.inr (by omega))
    have p4 : V4 0 3 = nI (sk x L q2 + 1) := by rw [hV4]; simp [zup_at]
    have hk4 := sk_le (x := x) (p := sk x L q2 + 1) (L := L) (by omega)
    have hb4 := fun u => @sat_b V x L (sk x L (sk x L q2 + 1)) u ht
    have f4 : ∀ f j, ¬ (f = 0 ∧ j = 3) → ¬ (f = 5 ∧ j = 1) → ¬ (f = 7 ∧ 4 * c ≤ j) → V4 f j = V f j := fun f j a1 a2 a3 => by
      rw [hV4, zup_at, if_neg a2, zup_at, if_neg (fun z => a3 ⟨z.1, by omega⟩), zup_at, if_neg (fun z => a3 ⟨z.1, by omega⟩), zup_at, if_neg a1, zup_at, if_neg a1, zup_at, if_neg (fun z => a3 ⟨z.1, by omega⟩), zup_at, if_neg (fun z => a3 ⟨z.1, by omega⟩), zup_at, if_neg a1]
    have k4 : V4 7 (4 * c) = nI (a + 1) ∧ V4 7 (4 * c + 1) = nI b ∧ V4 7 (4 * c + 2) = zB db ∧ V4 7 (4 * c + 3) = 0 ∧ V4 5 1 = nI (c + 1) := by
      rw [hV4]
      refine ⟨?_, ?_, ?_, ?_, ?_⟩ <;> simp [zup_at]
    refine mo_sg h4 (pV4.mT ht) p4 (by omega) (fun I5 h5' => r_Mo_key_120 ⟨fun z => ⟨h5'.K9, ?_⟩, fun z => ?_⟩)
    · -- a comma: a sort comes
      have e44 := (mO_eq (c := 44) hb4 (by omega)).mp z
      have hlt4 : sk x L (sk x L q2 + 1) < L := by
        unfold sat at e44
        split at e44
        · assumption
        · cases e44
      rw [if_pos e44] at w0 w1
      have e5 : tkP x L [44] (sk x L q2 + 1) = (some 44, sk x L (sk x L q2 + 1) + 1) := by
        unfold tkP
        rw [e44]; rfl
      rw [e5] at w0 w1
      dsimp only at w0 w1
      rw [h5'.o, zup_s, nI_1]
      have h6 := h5'.up0 3 (nI (sk x L (sk x L q2 + 1) + 1))
      rw [zup2] at h6
      have hk6 := sk_le (x := x) (p := sk x L (sk x L q2 + 1) + 1) (L := L) (by omega)
      have pV6 := pV4.up (f := 0) (j := 3) (v := nI (sk x L (sk x L q2 + 1) + 1)) (Or.inl ⟨rfl, rfl⟩)
      refine mo_sg h6 (pV6.mT ht) (zup_s _ _ _ _) (by omega) (fun I7 h7 => ?_)
      rw [zup2] at h7
      generalize hq6 : sk x L (sk x L (sk x L q2 + 1) + 1) = q6 at h7 hk6
      have hb6 := fun u => @sat_b V x L q6 u ht
      have pV7 := pV4.up (f := 0) (j := 3) (v := nI q6) (Or.inl ⟨rfl, rfl⟩)
      have good : ∀ (sv : Nat) (nb : Bool), sat x L q6 = some sv → (sv = 98 ∨ sv = 110) → nb = (sv == 110) → Q (.inl (some (.int 1))) (K, n, zup (zup I7 m 3 (nI (q6 + 1))) (A 7) (4 * c + 3) (zB nb), F, J) := fun sv nb es6 hsv hnb => by
        have hlt6 : q6 < L := by
          unfold sat at es6
          split at es6
          · assumption
          · cases es6
        have e7 : tkP x L [98, 110] (sk x L (sk x L q2 + 1) + 1) = (some sv, q6 + 1) := by
          unfold tkP
          rw [hq6, es6]
          dsimp only
          rw [if_pos (by rcases hsv with y | y <;> simp [y])]
        rw [e7] at w1
        dsimp only at w1
        rw [← hnb] at w1
        have h8 := (h7.up0 3 (nI (q6 + 1))).up (f := 7) (by decide) (4 * c + 3) (zB nb)
        refine w1 _ _ _ _ rfl h8 (by simp [zup_at]) ?_ ⟨?_, ?_, ?_, ?_, by show a + b ≤ 100; omega⟩ (fun f j a1 a2 a3 => ?_) (by omega)
        · simp [zup_at]; exact k4.2.2.2.2
        · simp [zup_at]; exact k4.1
        · simp [zup_at]; exact k4.2.1
        · simp [zup_at]; exact k4.2.2.1
        · simp [zup_at]
        · rw [zup_at, if_neg (fun z => a3 ⟨z.1, by omega⟩), zup_at, if_neg a1, zup_at, if_neg a1]; exact f4 f j a1 a2 a3
      have x3 : nI (4 * c) + (3 : Int32) = nI (4 * c + 3) := nI_add (4 * c) 3
      have bd : 4 * c + 3 < n (A 7) := by rw [h7.sz (by decide)]; show 4 * c + 3 < 48; omega
      refine r_Mo_key_141 ⟨fun z9 => ⟨h7.K9, _, h7.f (f := 7) (by decide), ?_⟩, fun z9 => ⟨fun z10 => ⟨h7.K9, _, h7.f (f := 7) (by decide), ?_⟩, fun z10 => ?_⟩⟩
      · have es6 := (mO_eq (c := 98) hb6 (by omega)).mp z9
        refine ⟨fun _ => ⟨h7.k (by decide), 4 * c + 3, x3, bd, by omega, ?_⟩, fun z10 => absurd (z9.symm.trans z10) (by decide)⟩
        rw [h7.o, zup_s, nI_1]
        exact good 98 false es6 (Or.inl rfl) rfl
      · have es6 := (mO_eq (c := 110) hb6 (by omega)).mp z10
        refine ⟨fun z11 => absurd z10 z11, fun _ => ⟨h7.k (by decide), 4 * c + 3, x3, bd, by omega, ?_⟩⟩
        rw [h7.o, zup_s, nI_1]
        exact good 110 true es6 (Or.inr rfl) rfl
      · have e7 : tkP x L [98, 110] (sk x L (sk x L q2 + 1) + 1) = (none, q6) := by
          unfold tkP
          rw [hq6]
          cases e : sat x L q6 with
          | none => rfl
          | some u =>
            dsimp only
            rw [if_neg]
            intro hm
            rcases List.mem_cons.mp hm with y | y
            · exact z9 ((mO_eq (c := 98) hb6 (by omega)).mpr (by rw [e, y]))
            · exact z10 ((mO_eq (c := 110) hb6 (by omega)).mpr (by rw [e, List.mem_singleton.mp y]))
        rw [e7] at w0
        exact w0 _ I7 _ rfl h7 (zup_s _ _ _ _) pV7
    · have n44 : sat x L (sk x L (sk x L q2 + 1)) ≠ some 44 := fun y => z ((mO_eq (c := 44) hb4 (by omega)).mpr y)
      rw [if_neg n44] at w1
      refine w1 _ _ I5 _ rfl h5' (zup_s _ _ _ _) ?_ ⟨?_, ?_, ?_, ?_, by show a + b ≤ 100; omega⟩ (fun f j a1 a2 a3 => ?_) hk4.2
      · rw [zup_n _ _ _ (by decide)]; exact k4.2.2.2.2
      · rw [zup_n _ _ _ (by decide)]; exact k4.1
      · rw [zup_n _ _ _ (by decide)]; exact k4.2.1
      · rw [zup_n _ _ _ (by decide)]; exact k4.2.2.1
      · rw [zup_n _ _ _ (by decide)]; exact k4.2.2.2.1
      · rw [zup_at, if_neg a1]; exact f4 f j a1 a2 a3
  have x2 : nI (4 * c) + (2 : Int32) = nI (4 * c + 2) := nI_add (4 * c) 2
  have x3 : nI (4 * c) + (3 : Int32) = nI (4 * c + 3) := nI_add (4 * c) 3
  have bd2 : 4 * c + 2 < n (A 7) := by rw [h3.sz (by decide)]; show 4 * c + 2 < 48; omega
  have bd3 : 4 * c + 3 < n (A 7) := by rw [h3.sz (by decide)]; show 4 * c + 3 < 48; omega
  have bd1 : 1 < n (A 5) := by rw [h3.sz (by decide)]; decide
  have step : ∀ (db : Bool), MS B K n (zup (zup (zup (zup I3 m 3 (nI (sk x L q2 + 1))) (A 7) (4 * c + 2) (zB db)) (A 7) (4 * c + 3) (0 : Int32)) (A 5) 1 (nI (c + 1))) F J m A (zup (zup (zup (zup (zup (zup (zup (zup V 0 3 (nI q1)) 7 (4 * c) (nI (a + 1))) 7 (4 * c + 1) (nI b)) 0 3 (nI (sk x L q2))) 0 3 (nI (sk x L q2 + 1))) 7 (4 * c + 2) (zB db)) 7 (4 * c + 3) (0 : Int32)) 5 1 (nI (c + 1))) T := fun db => (((h3.up0 3 (nI (sk x L q2 + 1))).up (f := 7) (by decide) (4 * c + 2) (zB db)).up (f := 7) (by decide) (4 * c + 3) 0).up (f := 5) (by decide) 1 (nI (c + 1))
  have rd1 : ∀ (db : Bool), zup (zup (zup I3 m 3 (nI (sk x L q2 + 1))) (A 7) (4 * c + 2) (zB db)) (A 7) (4 * c + 3) (0 : Int32) (A 5) 1 = nI c := fun db => by
    have hM := ((h3.up0 3 (nI (sk x L q2 + 1))).up (f := 7) (by decide) (4 * c + 2) (zB db)).up (f := 7) (by decide) (4 * c + 3) 0
    rw [hM.a (f := 5) (by decide)]
    simp [zup_at]; exact hc
  have pl : I3 m 3 + (1 : Int32) = nI (sk x L q2 + 1) := by rw [h3.o, zup_s, nI_1]
  refine r_Mo_key_53 ⟨fun z => ⟨h3.K9, _, h3.f (f := 7) (by decide), ?_⟩, fun z => ⟨fun z2 => ⟨h3.K9, _, h3.f (f := 7) (by decide), ?_⟩, fun z2 => ?_⟩⟩
  · have es := (mO_eq (c := 97) hb (by omega)).mp z
    refine ⟨fun _ => ⟨h3.k (by decide), 4 * c + 2, x2, bd2, by omega, 4 * c + 3, x3, bd3, by omega, _, h3.f (f := 5) (by decide), h3.k (by decide), 1, rfl, bd1, by decide, ?_⟩, fun z2 => absurd (z.symm.trans z2) (by decide)⟩
    rw [pl]
    have r := rd1 false
    rw [show zB false = (0 : Int32) from rfl] at r
    rw [r, nI_1]
    exact way 97 false es (Or.inl rfl) rfl _ rfl _ (step false)
  · have es := (mO_eq (c := 100) hb (by omega)).mp z2
    refine ⟨fun z3 => absurd z2 z3, fun _ => ⟨h3.k (by decide), 4 * c + 2, x2, bd2, by omega, 4 * c + 3, x3, bd3, by omega, _, h3.f (f := 5) (by decide), h3.k (by decide), 1, rfl, bd1, by decide, ?_⟩⟩
    rw [pl]
    have r := rd1 true
    rw [show zB true = (1 : Int32) from rfl] at r
    rw [r, nI_1]
    exact way 100 true es (Or.inr rfl) rfl _ rfl _ (step true)
  · exact none3 (fun y => z ((mO_eq (c := 97) hb (by omega)).mpr y)) (fun y => z2 ((mO_eq (c := 100) hb (by omega)).mpr y))
/-- sumField() -/
theorem mo_sumF {c : Nat} (h : MS B K n I F J m A V T) (ht : mT V x L) (hp : V 0 3 = nI p) (hpL : p ≤ L) (hc : V 5 3 = nI c) (hc4 : c ≤ 4)
    (w0 : ∀ I' V', c = 4 → MS B K n I' F J m A V' T → V' 0 3 = nI (sk x L p) → pE V V' → Q (.inl (some (.int 0))) (K, n, I', F, J))
    (w1 : ∀ q I' V', c < 4 → fldP x L 9 (sk x L p) = (none, q) → MS B K n I' F J m A V' T → V' 0 3 = nI q → pE V V' → Q (.inl (some (.int 0))) (K, n, I', F, J))
    (w2 : ∀ a b q I' V', c < 4 → fldP x L 9 (sk x L p) = (some (a, b), q) → MS B K n I' F J m A V' T → V' 0 3 = nI q → V' 5 3 = nI (c + 1) → sR V' c (none, a, b) → (∀ f j, ¬ (f = 0 ∧ j = 3) → ¬ (f = 5 ∧ j = 3) → ¬ (f = 9 ∧ 2 * c ≤ j) → V' f j = V f j) → q ≤ L → Q (.inl (some (.int 1))) (K, n, I', F, J)) :
    AW E m_Mo_sumField (K, n, I, F, J) cb sb Q 0 [some (.ref m)] [] := by
  have hk := sk_le (x := x) hpL
  refine r_Mo_sumField_0 ⟨h.K9, mo_sg h ht hp hpL (fun I1 h1 => ?_)⟩
  have hV1 : pE V (zup V 0 3 (nI (sk x L p))) := (pE.refl V).up (Or.inl ⟨rfl, rfl⟩)
  refine r_Mo_sumField_4 ⟨h1.K9, _, h1.f (f := 5) (by decide), h1.k (by decide), 3, rfl, by rw [h1.sz (by decide)]; decide, by decide, ?_⟩
  rw [h1.a (by decide), zup_n _ _ _ (by decide), hc]
  have e4 : nI c = (4 : Int32) ↔ c = 4 := nI_eq (a := c) (b := 4) (by omega) (by omega)
  have e2 : (2 : Int32) * nI c = nI (2 * c) := pk_mul 2 c
  refine ⟨fun z => w0 I1 _ (e4.mp z) h1 (zup_s _ _ _ _) hV1, fun z => ⟨_, h1.f (f := 9) (by decide), ?_⟩⟩
  have hc' : c < 4 := Nat.lt_of_le_of_ne hc4 (fun y => z (e4.mpr y))
  rw [e2]
  refine mo_field (f := 9) (k := 2 * c) (most := 9) (by omega) (by show 2 * c + 1 < 16; omega) (by omega) h1 (hV1.mT ht) (zup_s _ _ _ _) hk.2 (fun q I2 e h2 => ?_) (fun a b q I2 e h2 => ?_)
  · rw [zup2] at h2
    exact r_Mo_sumField_33 ⟨fun z => absurd rfl z, fun _ => w1 q I2 _ hc' e h2 (zup_s _ _ _ _) ((pE.refl V).up (Or.inl ⟨rfl, rfl⟩))⟩
  · rw [zup2] at h2
    have hfi := fldP_in hk.2 e
    refine r_Mo_sumField_33 ⟨fun _ => ⟨h2.K9, _, h2.f (f := 5) (by decide), h2.k (by decide), 3, rfl, by rw [h2.sz (by decide)]; decide, by decide, ?_⟩, fun z => absurd z (by decide)⟩
    rw [h2.a (by decide)]
    have e3 : zup (zup (zup V 0 3 (nI q)) 9 (2 * c) (nI (a + 1))) 9 (2 * c + 1) (nI b) 5 3 + (1 : Int32) = nI (c + 1) := by
      rw [zup_n _ _ _ (by decide), zup_n _ _ _ (by decide), zup_n _ _ _ (by decide), hc, nI_1]
    rw [e3]
    have h3 := h2.up (f := 5) (by decide) 3 (nI (c + 1))
    refine w2 a b q _ _ hc' e h3 (by simp [zup_at]) (by simp [zup_at]) ⟨by simp [zup_at], by simp [zup_at], rfl, hfi.1, hfi.2.1, hfi.2.2.1⟩ (fun f j a1 a2 a3 => ?_) (by omega)
    rw [zup_at, if_neg a2, zup_at, if_neg (fun z => a3 ⟨z.1, by omega⟩), zup_at, if_neg (fun z => a3 ⟨z.1, by omega⟩), zup_at, if_neg a1]
end
