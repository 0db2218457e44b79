-- ===== the reference: statement() =====
def stmP (x : zTx) (L mk : Nat) (st : zStm) (p : Nat) : Option (Nat × zStm) × Nat := zbind (wordP x L mk p) fun k q => zbind (sayP x L k st q) fun s q => zbind (tkP x L [59] q) fun _ q => (some (k, s), q)
theorem zb_s {α β : Type} (u : α) (q : Nat) (f : α → Nat → Option β × Nat) : zbind (some u, q) f = f u q := rfl
theorem say_g {α : Type} {x : zTx} {L k : Nat} (G : Option α × Nat) (f : α → zStm) : zbind (zbind G fun v q => (some (f v), q)) (fun s q => zbind (tkP x L [59] q) fun _ q => (some (k, s), q)) = zbind (zbind G fun v q => zbind (tkP x L [59] q) fun _ q => (some v, q)) fun v q => (some (k, f v), q) := by
  obtain ⟨o, q⟩ := G
  cases o with
  | none => rfl
  | some v =>
    simp only [zbind]
    cases tkP x L [59] q with
    | mk o q => cases o <;> rfl
section
variable {E : zE} {B : (Nat → Nat → Int32) × (Nat → Nat → Int64)} {K n : Nat → Nat} {F : Nat → Nat → Option Nat} {J : Nat → Nat → Int64} {m : Nat} {A : Nat → Nat} {T : Nat → Int64} {cb sb : Nat} {Q : zO → zH → Prop} {x : zTx} {L : Nat}
theorem mo_stm {I : Nat → Nat → Int32} {V : Nat → Nat → Int32} {p mk : Nat} {b : Nat → Bool} {st : zStm} (h : MS B K n I F J m A V T) (ht : mT V x L) (hp : V 0 3 = nI p) (hpL : p < L) (hS : mB V b st) (hM : mkB b mk)
    (w0 : ∀ q' I' V', stmP x L mk st p = (none, q') → MS B K n I' F J m A V' T → V' 0 3 = nI q' → pE V V' → Q (.inl (some (.int 0))) (K, n, I', F, J))
    (w1 : ∀ k s q' I' V', stmP x L mk st p = (some (k, s), q') → MS B K n I' F J m A V' T → V' 0 3 = nI q' → pE V V' → mB V' (va_up b k true) (stm1 s) → mkB (va_up b k true) (mk ||| zwb k) → q' ≤ L → Q (.inl (some (.int 1))) (K, n, I', F, J)) :
    AW E m_Mo_statement (K, n, I, F, J) cb sb Q 0 [some (.ref m), none, none, none, none] [] := by
  have h5 := ht.2.1
  have eI : I m 3 = nI p := by rw [h.o]; exact hp
  unfold stmP at w0 w1
  rw [wordP_eq] at w0 w1
  refine r_Mo_statement_0 ⟨h.K9, ?_⟩
  rw [eI]
  refine mo_isSmall h ht (by omega) ?_
  have hlw := lwF_le (x := x) (L := L) (L - p) p (by omega)
  -- no word, or one that is there already
  have bad : ∀ I1 V1, MS B K n I1 F J m A V1 T → pE V V1 → zbind (match wdN x p (lwF x L (L - p) p) with | some w => if mk &&& zwb w = 0 then (some w, lwF x L (L - p) p) else (none, p) | none => (none, p)) (fun k q => zbind (sayP x L k st q) fun s q => zbind (tkP x L [59] q) fun _ q => (some (k, s), q)) = (none, p) → Q (.inl (some (.int 0))) (K, n, zup I1 m 3 (nI p), F, J) := fun I1 V1 h1 hV1 e => w0 p _ _ e (h1.up0 3 (nI p)) (zup_s _ _ _ _) (hV1.up (Or.inl ⟨rfl, rfl⟩))
  have none24 : ∀ I1 V1, MS B K n I1 F J m A V1 T → pE V V1 → wdN x p (lwF x L (L - p) p) = none → AW E m_Mo_statement (K, n, I1, F, J) cb sb Q 24 [some (.ref m), some (.int (nI p)), none, none, none] [.int (-1)] := fun I1 V1 h1 hV1 e => by
    refine r_Mo_statement_24 ⟨fun _ => ⟨fun _ => ⟨h1.K9, bad I1 V1 h1 hV1 (by rw [e]; rfl)⟩, fun z => absurd rfl z⟩, fun z => absurd rfl z⟩
  by_cases hsm : isLt (x p) = true
  case neg =>
    have e : (decide (p < L) && isLt (x p)) = false := by simp [hsm]
    rw [e]
    have el : lwF x L (L - p) p = p := by
      cases hd : L - p with
      | zero => rfl
      | succ d => unfold lwF; rw [if_neg (fun z => hsm z.2)]
    refine r_Mo_statement_13 ⟨fun _ => none24 I V h (pE.refl V) ?_, fun z => absurd rfl z⟩
    rw [el]
    refine wdN_no (fun k hk hs => ?_)
    have hlen := spl_len (n := 0) hs
    have : ∀ k, k < 7 → 0 < (zwc k).length := by decide +kernel
    have := this k hk
    omega
  have e : (decide (p < L) && isLt (x p)) = true := by simp [hsm, hpL]
  rw [e]
  refine r_Mo_statement_13 ⟨fun z => absurd z (by decide), fun _ => ⟨h.K9, mo_word h ht hp (by omega) (fun I1 h1 => r_Mo_statement_20 ?_)⟩⟩
  generalize hq : lwF x L (L - p) p = q at h1 hlw w0 w1 bad none24
  have hV1 : pE V (zup V 0 3 (nI q)) := (pE.refl V).up (Or.inl ⟨rfl, rfl⟩)
  cases hwd : wdN x p q with
  | none => exact none24 I1 _ h1 hV1 hwd
  | some w =>
  rw [hwd] at w0 w1 bad
  have hw7 := (wdN_spl hwd).2
  have hwm1 : ¬ nI w = (-1 : Int32) := nI_m1 (by omega)
  obtain ⟨hmL, hwB, hwS, hwL, h50⟩ := id hS
  have v4 : ∀ j, zup V 0 3 (nI q) 4 j = V 4 j := fun j => by rw [zup_n _ _ _ (by decide)]
  have v5 : ∀ j, zup V 0 3 (nI q) 5 j = V 5 j := fun j => by rw [zup_n _ _ _ (by decide)]
  have twice : ¬ mk &&& zwb w = 0 → Q (.inl (some (.int 0))) (K, n, zup I1 m 3 (nI p), F, J) := fun hn => bad I1 _ h1 hV1 (by dsimp only; rw [if_neg hn]; rfl)
  have zpos : ∀ c : Bool, (0 < zB c ↔ c = true) := fun c => by cases c <;> decide
  have bd4 : ∀ j, j < 7 → j < n (A 4) := fun j hj => by rw [h1.sz (by decide)]; show j < 14; omega
  have bd5 : 0 < n (A 5) := by rw [h1.sz (by decide)]; decide
  have hK9 := h1.K9
  -- the word is free
  have disp : mk &&& zwb w = 0 → ((nI w = 0 → AW E m_Mo_key (K, n, (zup (zup I1 (A 4) w (1 : Int32)) (A 5) 0 (((zup I1 (A 4) w (1 : Int32)) (A 5) 0) + (1 : Int32))), F, J) 0 0 (zAft E m_Mo_statement cb sb Q 145 [some (.ref m), none, none, none, none] []) 0 [some (.ref m), none, none, none] []) ∧ (nI w = 1 → AW E m_Mo_testing (K, n, (zup (zup I1 (A 4) w (1 : Int32)) (A 5) 0 (((zup I1 (A 4) w (1 : Int32)) (A 5) 0) + (1 : Int32))), F, J) 0 0 (zAft E m_Mo_statement cb sb Q 174 [some (.ref m), none, none, none, none] []) 0 [some (.ref m), none] []) ∧ (nI w = 2 → AW E m_Mo_testing (K, n, (zup (zup I1 (A 4) w (1 : Int32)) (A 5) 0 (((zup I1 (A 4) w (1 : Int32)) (A 5) 0) + (1 : Int32))), F, J) 0 0 (zAft E m_Mo_statement cb sb Q 174 [some (.ref m), none, none, none, none] []) 0 [some (.ref m), none] []) ∧ (nI w = 3 → AW E m_Mo_sumField (K, n, (zup (zup I1 (A 4) w (1 : Int32)) (A 5) 0 (((zup I1 (A 4) w (1 : Int32)) (A 5) 0) + (1 : Int32))), F, J) 0 0 (zAft E m_Mo_statement cb sb Q 183 [some (.ref m), none, none, none, none] []) 0 [some (.ref m)] []) ∧ (nI w = 4 → AW E m_Mo_piece (K, n, (zup (zup I1 (A 4) w (1 : Int32)) (A 5) 0 (((zup I1 (A 4) w (1 : Int32)) (A 5) 0) + (1 : Int32))), F, J) 0 0 (zAft E m_Mo_statement cb sb Q 212 [some (.ref m), none, none, none, none] []) 0 [some (.ref m), none, none] []) ∧ (¬ nI w = 0 → ¬ nI w = 1 → ¬ nI w = 2 → ¬ nI w = 3 → ¬ nI w = 4 → (∃ b26 : Nat, F m 6 = some b26 ∧ AW E m_Mo_number (K, n, (zup (zup I1 (A 4) w (1 : Int32)) (A 5) 0 (((zup I1 (A 4) w (1 : Int32)) (A 5) 0) + (1 : Int32))), F, J) 0 0 (zAft E m_Mo_statement cb sb Q 252 [some (.ref m), none, some (.int (nI w)), none, none] [.int (nI w - (5 : Int32)), .ref b26]) 0 [some (.ref m), some (.int (0 : Int32)), some (.int (9999 : Int32)), none, none] []))) := fun hfree => by
    have hbf := (hM.free hw7).mp hfree
    have hM' := hM.up hw7
    dsimp only at w0 w1
    rw [if_pos hfree, zb_s] at w0 w1
    have h2 := h1.up (f := 4) (by decide) w (1 : Int32)
    have e1 : zup I1 (A 4) w (1 : Int32) (A 5) 0 + (1 : Int32) = nI (st.2.2.2.2.2.2.2 + 1) := by
      rw [h2.a (by decide), zup_n _ _ _ (by decide), v5, h50, nI_1]
    rw [e1]
    have h3 := h2.up (f := 5) (by decide) 0 (nI (st.2.2.2.2.2.2.2 + 1))
    have pV3 : pE V (zup (zup (zup V 0 3 (nI q)) 4 w (1 : Int32)) 5 0 (nI (st.2.2.2.2.2.2.2 + 1))) := (hV1.up (Or.inr (by omega))).up (Or.inr (by omega))
    generalize hW3 : zup (zup (zup V 0 3 (nI q)) 4 w (1 : Int32)) 5 0 (nI (st.2.2.2.2.2.2.2 + 1)) = V3 at h3 pV3
    have p3 : V3 0 3 = nI q := by rw [← hW3]; simp [zup_at]
    have f4w : V3 4 w = 1 := by rw [← hW3]; simp [zup_at]
    have f50 : V3 5 0 = nI (st.2.2.2.2.2.2.2 + 1) := by rw [← hW3]; simp [zup_at]
    have f3 : ∀ f j, ¬ (f = 0 ∧ j = 3) → ¬ (f = 4 ∧ j = w) → ¬ (f = 5 ∧ j = 0) → V3 f j = V f j := fun f j a1 a2 a3 => by
      rw [← hW3, zup_at, if_neg a3, zup_at, if_neg a2, zup_at, if_neg a1]
    have ht3 := pV3.mT ht
    have qL : q ≤ L := hlw.2
    have ew : ∀ c : Nat, c < 7 → nI w = nI c → w = c := fun c hc z => (nI_eq (by omega) (by omega)).mp z
    refine ⟨fun z => ?_, fun z => ?_, fun z => ?_, fun z => ?_, fun z => ?_, fun z0 z1 z2 z3 z4 => ?_⟩
    · -- sort
      have := ew 0 (by decide) z
      subst this
      have hb0 := hbf.1
      have hk0 : st.1 = [] := (hwS.1).mp hb0
      have hc : V3 5 1 = nI 0 := by rw [f3 5 1 (by omega) (by omega) (by omega), hmL.2.1.1, hk0]; rfl
      have es : ∀ q, sayP x L 0 st q = zbind (keysF x L 6 q) fun v q => (some (v, st.2), q) := fun q => by unfold sayP; rw [if_pos rfl]
      rw [es, say_g (keysF x L 6 q) (fun v => (v, st.2))] at w0 w1
      change ∀ q' I' V', zbind (gT x L (keysF x L) 6 q) _ = _ → _ at w0
      change ∀ k s q' I' V', zbind (gT x L (keysF x L) 6 q) _ = _ → _ at w1
      rw [gT_s keysF_s] at w0 w1
      refine mo_key (c := 0) h3 ht3 p3 qL hc (by omega) (fun q2 I2 V2 e2 h2 p2 hV2 => ?_) (fun k q2 I2 V2 e2 h2 p2 hc2 hr2 hf2 hq2 => ?_)
      · rw [e2] at w0
        exact r_Mo_statement_148 (r_Mo_statement_150 ⟨fun _ => ⟨fun _ => w0 q2 I2 V2 rfl h2 p2 (pV3.tr hV2), fun z => absurd rfl z⟩, fun z => absurd rfl z⟩)
      · rw [e2] at w0 w1
        simp only [zbind] at w0 w1
        have pV2 : pE V V2 := fun f j a b => by rw [hf2 f j a (by omega) (by omega)]; exact pV3 f j a b
        refine r_Mo_statement_148 (mo_keysL 5 1 q2 I2 V2 (by omega) hq2 h2 (pV2.mT ht) p2 hc2 (fun q4 I4 V4 e4 h4 p4 hV4 => ?_) (fun ks q4 I4 V4 e4 h4 p4 hc4 hl4 hr4 hf4 hq4 => ?_))
        · rw [e4] at w0
          exact w0 q4 I4 V4 rfl h4 p4 (pV2.tr hV4)
        · rw [e4] at w1
          have g4 : ∀ f j, ¬ (f = 0 ∧ j = 3) → ¬ (f = 5 ∧ j = 1) → f ≠ 7 → V4 f j = V3 f j := fun f j a1 a2 a3 => by rw [hf4 f j a1 a2 (fun z => a3 z.1), hf2 f j a1 a2 (fun z => a3 z.1)]
          refine w1 0 (k :: ks, st.2) q4 I4 V4 rfl h4 p4 (fun f j a1 a2 => by rw [hf4 f j a1 (by omega) (by omega)]; exact pV2 f j a1 a2) (up_keys hS hb0 (by simp; omega) (by simp) (fun j hj => ?_) ?_ (fun j h0 h1 => ?_) ?_ ?_ (fun j => ?_) (fun j => ?_) (fun j => ?_) (fun j => ?_) (fun j => ?_) (fun i k' hk' => ?_)) hM' hq4
          · rw [g4 4 j (by omega) (by omega) (by omega), f3 4 j (by omega) (by omega) (by omega)]
          · rw [g4 4 0 (by omega) (by omega) (by omega)]; exact f4w
          · rw [g4 5 j (by omega) (by omega) (by omega), f3 5 j (by omega) (by omega) (by omega)]
          · rw [g4 5 0 (by omega) (by omega) (by omega)]; exact f50
          · rw [hc4]; congr 1; simp; omega
          · rw [g4 6 j (by omega) (by omega) (by omega), f3 6 j (by omega) (by omega) (by omega)]
          · rw [g4 8 j (by omega) (by omega) (by omega), f3 8 j (by omega) (by omega) (by omega)]
          · rw [g4 9 j (by omega) (by omega) (by omega), f3 9 j (by omega) (by omega) (by omega)]
          · rw [g4 10 j (by omega) (by omega) (by omega), f3 10 j (by omega) (by omega) (by omega)]
          · rw [g4 11 j (by omega) (by omega) (by omega), f3 11 j (by omega) (by omega) (by omega)]
          · cases i with
            | zero => rw [← Option.some.inj hk']; exact hr2.fr (fun j hj => hf4 7 j (by omega) (by omega) (by omega))
            | succ i =>
              have := hr4 i k' (by simpa using hk')
              rw [show 1 + i = i + 1 by omega] at this; exact this
    · -- include
      have := ew 1 (by decide) z
      subst this
      have hb12 := hbf.2 (Or.inl rfl)
      have ht0 : st.2.1 = [] := (hwS.2.1).mpr hb12
      have hc : V3 5 2 = nI 0 := by rw [f3 5 2 (by omega) (by omega) (by omega), hmL.2.1.2.1, ht0]; rfl
      have es : ∀ q, sayP x L 1 st q = zbind (testsF x L 10 false q) fun v q => (some (st.1, v, st.2.2), q) := fun q => by unfold sayP; rw [if_neg (by decide), if_pos rfl]
      rw [es] at w0 w1
      refine mo_testing h3 ht3 p3 qL hc (fun q2 I2 V2 e2 h2 p2 hV2 => ?_) (fun ts q2 I2 V2 e2 h2 p2 hc2 hl2 hl1 hr2 hf2 hq2 => ?_)
      · rw [e2] at w0
        exact r_Mo_statement_177 ⟨fun _ => w0 q2 I2 V2 rfl h2 p2 (pV3.tr hV2), fun z => absurd rfl z⟩
      · rw [e2] at w0 w1
        simp only [zbind] at w0 w1
        have pV2 : pE V V2 := fun f j a b => by rw [hf2 f j a (by omega) (by omega) (by omega)]; exact pV3 f j a b
        refine r_Mo_statement_177 ⟨fun z => absurd z (by decide), fun _ => ⟨h2.K9, mo_semi h2 (pV2.mT ht) p2 hq2 (fun I4 e4 h4 => ?_) (fun I4 e4 h4 => ?_)⟩⟩
        · rw [tk59, if_neg e4] at w0
          exact w0 _ I4 _ rfl h4 (zup_s _ _ _ _) (pV2.up (Or.inl ⟨rfl, rfl⟩))
        · rw [tk59, if_pos e4] at w1
          have g4 : ∀ f j v, ¬ (f = 0 ∧ j = 3) → ¬ (f = 5 ∧ j = 2) → f ≠ 8 → ¬ (f = 11 ∧ j < 200) → zup V2 0 3 v f j = V3 f j := fun f j v a1 a2 a3 a4 => by rw [zup_at, if_neg a1, hf2 f j a1 a2 a3 a4]
          refine w1 1 _ _ I4 _ rfl h4 (zup_s _ _ _ _) (pV2.up (Or.inl ⟨rfl, rfl⟩)) (up_tests (w := 1) (Or.inl ⟨rfl, rfl⟩) hS hb12 hl2 hl1 (fun j hj => ?_) ?_ (fun j h0 h1 => ?_) ?_ ?_ (fun j => ?_) (fun j => ?_) (fun j => ?_) (fun j => ?_) (fun j hj => ?_) (fun i t hit => ?_)) hM' ((sat_lx e4).1)
          · rw [g4 4 j _ (by omega) (by omega) (by omega) (by omega), f3 4 j (by omega) (by omega) (by omega)]
          · rw [g4 4 1 _ (by omega) (by omega) (by omega) (by omega)]; exact f4w
          · rw [g4 5 j _ (by omega) (by omega) (by omega) (by omega), f3 5 j (by omega) (by omega) (by omega)]
          · rw [g4 5 0 _ (by omega) (by omega) (by omega) (by omega)]; exact f50
          · rw [zup_n _ _ _ (by decide)]; exact hc2
          · rw [g4 6 j _ (by omega) (by omega) (by omega) (by omega), f3 6 j (by omega) (by omega) (by omega)]
          · rw [g4 7 j _ (by omega) (by omega) (by omega) (by omega), f3 7 j (by omega) (by omega) (by omega)]
          · rw [g4 9 j _ (by omega) (by omega) (by omega) (by omega), f3 9 j (by omega) (by omega) (by omega)]
          · rw [g4 10 j _ (by omega) (by omega) (by omega) (by omega), f3 10 j (by omega) (by omega) (by omega)]
          · rw [g4 11 j _ (by omega) (by omega) (by omega) (by omega), f3 11 j (by omega) (by omega) (by omega)]
          · obtain ⟨t1, t2⟩ := hr2 i t hit
            exact ⟨t1.fr (fun j _ => by rw [zup_n _ _ _ (by decide)]) (fun j _ => by rw [zup_n _ _ _ (by decide)]), fun z => by unfold wyR; rw [zup_n _ _ _ (by decide)]; exact t2 z⟩
    · -- omit
      have := ew 2 (by decide) z
      subst this
      have hb12 := hbf.2 (Or.inr rfl)
      have ht0 : st.2.1 = [] := (hwS.2.1).mpr hb12
      have hc : V3 5 2 = nI 0 := by rw [f3 5 2 (by omega) (by omega) (by omega), hmL.2.1.2.1, ht0]; rfl
      have es : ∀ q, sayP x L 2 st q = zbind (testsF x L 10 false q) fun v q => (some (st.1, v, st.2.2.1, st.2.2.2.1, true, st.2.2.2.2.2), q) := fun q => by unfold sayP; rw [if_neg (by decide), if_neg (by decide), if_pos rfl]
      rw [es] at w0 w1
      refine mo_testing h3 ht3 p3 qL hc (fun q2 I2 V2 e2 h2 p2 hV2 => ?_) (fun ts q2 I2 V2 e2 h2 p2 hc2 hl2 hl1 hr2 hf2 hq2 => ?_)
      · rw [e2] at w0
        exact r_Mo_statement_177 ⟨fun _ => w0 q2 I2 V2 rfl h2 p2 (pV3.tr hV2), fun z => absurd rfl z⟩
      · rw [e2] at w0 w1
        simp only [zbind] at w0 w1
        have pV2 : pE V V2 := fun f j a b => by rw [hf2 f j a (by omega) (by omega) (by omega)]; exact pV3 f j a b
        refine r_Mo_statement_177 ⟨fun z => absurd z (by decide), fun _ => ⟨h2.K9, mo_semi h2 (pV2.mT ht) p2 hq2 (fun I4 e4 h4 => ?_) (fun I4 e4 h4 => ?_)⟩⟩
        · rw [tk59, if_neg e4] at w0
          exact w0 _ I4 _ rfl h4 (zup_s _ _ _ _) (pV2.up (Or.inl ⟨rfl, rfl⟩))
        · rw [tk59, if_pos e4] at w1
          have g4 : ∀ f j v, ¬ (f = 0 ∧ j = 3) → ¬ (f = 5 ∧ j = 2) → f ≠ 8 → ¬ (f = 11 ∧ j < 200) → zup V2 0 3 v f j = V3 f j := fun f j v a1 a2 a3 a4 => by rw [zup_at, if_neg a1, hf2 f j a1 a2 a3 a4]
          refine w1 2 _ _ I4 _ rfl h4 (zup_s _ _ _ _) (pV2.up (Or.inl ⟨rfl, rfl⟩)) (up_tests (w := 2) (Or.inr ⟨rfl, rfl⟩) hS hb12 hl2 hl1 (fun j hj => ?_) ?_ (fun j h0 h1 => ?_) ?_ ?_ (fun j => ?_) (fun j => ?_) (fun j => ?_) (fun j => ?_) (fun j hj => ?_) (fun i t hit => ?_)) hM' ((sat_lx e4).1)
          · rw [g4 4 j _ (by omega) (by omega) (by omega) (by omega), f3 4 j (by omega) (by omega) (by omega)]
          · rw [g4 4 2 _ (by omega) (by omega) (by omega) (by omega)]; exact f4w
          · rw [g4 5 j _ (by omega) (by omega) (by omega) (by omega), f3 5 j (by omega) (by omega) (by omega)]
          · rw [g4 5 0 _ (by omega) (by omega) (by omega) (by omega)]; exact f50
          · rw [zup_n _ _ _ (by decide)]; exact hc2
          · rw [g4 6 j _ (by omega) (by omega) (by omega) (by omega), f3 6 j (by omega) (by omega) (by omega)]
          · rw [g4 7 j _ (by omega) (by omega) (by omega) (by omega), f3 7 j (by omega) (by omega) (by omega)]
          · rw [g4 9 j _ (by omega) (by omega) (by omega) (by omega), f3 9 j (by omega) (by omega) (by omega)]
          · rw [g4 10 j _ (by omega) (by omega) (by omega) (by omega), f3 10 j (by omega) (by omega) (by omega)]
          · rw [g4 11 j _ (by omega) (by omega) (by omega) (by omega), f3 11 j (by omega) (by omega) (by omega)]
          · obtain ⟨t1, t2⟩ := hr2 i t hit
            exact ⟨t1.fr (fun j _ => by rw [zup_n _ _ _ (by decide)]) (fun j _ => by rw [zup_n _ _ _ (by decide)]), fun z => by unfold wyR; rw [zup_n _ _ _ (by decide)]; exact t2 z⟩
    · -- sum
      have := ew 3 (by decide) z
      subst this
      have hb0 := hbf.1
      have hk0 : st.2.2.1 = [] := (hwS.2.2.2.2.1).mp hb0
      have hc : V3 5 3 = nI 0 := by rw [f3 5 3 (by omega) (by omega) (by omega), hmL.2.1.2.2.1, hk0]; rfl
      have es : ∀ q, sayP x L 3 st q = zbind (sumsF x L 4 q) fun v q => (some (st.1, st.2.1, v, st.2.2.2), q) := fun q => by unfold sayP; rw [if_neg (by decide), if_neg (by decide), if_neg (by decide), if_pos rfl]
      rw [es, say_g (sumsF x L 4 q) (fun v => (st.1, st.2.1, v, st.2.2.2))] at w0 w1
      change ∀ q' I' V', zbind (gT x L (sumsF x L) 4 q) _ = _ → _ at w0
      change ∀ k s q' I' V', zbind (gT x L (sumsF x L) 4 q) _ = _ → _ at w1
      rw [gT_s sumsF_s] at w0 w1
      refine mo_sumF (c := 0) h3 ht3 p3 qL hc (by omega) (fun I2 V2 hlt => by omega) (fun q2 I2 V2 _ e2 h2 p2 hV2 => ?_) (fun ka kb q2 I2 V2 _ e2 h2 p2 hc2 hr2 hf2 hq2 => ?_)
      · rw [fldP_sk] at e2
        have es : sumP x L q = (none, q2) := by unfold sumP; rw [e2]; rfl
        rw [es] at w0
        exact r_Mo_statement_186 (r_Mo_statement_188 ⟨fun _ => ⟨fun _ => w0 q2 I2 V2 rfl h2 p2 (pV3.tr hV2), fun z => absurd rfl z⟩, fun z => absurd rfl z⟩)
      · rw [fldP_sk] at e2
        have es : sumP x L q = (some (none, ka, kb), q2) := by unfold sumP; rw [e2]; rfl
        rw [es] at w0 w1
        simp only [zbind] at w0 w1
        have pV2 : pE V V2 := fun f j a b => by rw [hf2 f j a (by omega) (by omega)]; exact pV3 f j a b
        refine r_Mo_statement_186 (mo_sumsL 3 1 q2 I2 V2 (by omega) hq2 h2 (pV2.mT ht) p2 hc2 (fun q4 I4 V4 e4 h4 p4 hV4 => ?_) (fun ks q4 I4 V4 e4 h4 p4 hc4 hl4 hr4 hf4 hq4 => ?_))
        · rw [e4] at w0
          exact w0 q4 I4 V4 rfl h4 p4 (pV2.tr hV4)
        · rw [e4] at w1
          have g4 : ∀ f j, ¬ (f = 0 ∧ j = 3) → ¬ (f = 5 ∧ j = 3) → f ≠ 9 → V4 f j = V3 f j := fun f j a1 a2 a3 => by rw [hf4 f j a1 a2 (fun z => a3 z.1), hf2 f j a1 a2 (fun z => a3 z.1)]
          refine w1 3 (st.1, st.2.1, (none, ka, kb) :: ks, st.2.2.2) q4 I4 V4 rfl h4 p4 (fun f j a1 a2 => by rw [hf4 f j a1 (by omega) (by omega)]; exact pV2 f j a1 a2) (up_sums hS hb0 (by simp; omega) (by simp) (fun j hj => ?_) ?_ (fun j h0 h1 => ?_) ?_ ?_ (fun j => ?_) (fun j => ?_) (fun j => ?_) (fun j => ?_) (fun j => ?_) (fun i k' hk' => ?_)) hM' hq4
          · rw [g4 4 j (by omega) (by omega) (by omega), f3 4 j (by omega) (by omega) (by omega)]
          · rw [g4 4 3 (by omega) (by omega) (by omega)]; exact f4w
          · rw [g4 5 j (by omega) (by omega) (by omega), f3 5 j (by omega) (by omega) (by omega)]
          · rw [g4 5 0 (by omega) (by omega) (by omega)]; exact f50
          · rw [hc4]; congr 1; simp; omega
          · rw [g4 6 j (by omega) (by omega) (by omega), f3 6 j (by omega) (by omega) (by omega)]
          · rw [g4 7 j (by omega) (by omega) (by omega), f3 7 j (by omega) (by omega) (by omega)]
          · rw [g4 8 j (by omega) (by omega) (by omega), f3 8 j (by omega) (by omega) (by omega)]
          · rw [g4 10 j (by omega) (by omega) (by omega), f3 10 j (by omega) (by omega) (by omega)]
          · rw [g4 11 j (by omega) (by omega) (by omega), f3 11 j (by omega) (by omega) (by omega)]
          · cases i with
            | zero => rw [← Option.some.inj hk']; exact hr2.fr (fun j hj => hf4 9 j (by omega) (by omega) (by omega))
            | succ i =>
              have := hr4 i k' (by simpa using hk')
              rw [show 1 + i = i + 1 by omega] at this; exact this
    · -- out
      have := ew 4 (by decide) z
      subst this
      have hb0 := hbf.1
      have hk0 : st.2.2.2.1 = [] := (hwS.2.2.2.2.2.1).mp hb0
      have hc : V3 5 4 = nI 0 := by rw [f3 5 4 (by omega) (by omega) (by omega), hmL.2.1.2.2.2, hk0]; rfl
      have es : ∀ q, sayP x L 4 st q = zbind (piecesF x L 12 q) fun v q => (some (st.1, st.2.1, st.2.2.1, v, st.2.2.2.2), q) := fun q => by unfold sayP; rw [if_neg (by decide), if_neg (by decide), if_neg (by decide), if_neg (by decide), if_pos rfl]
      rw [es, say_g (piecesF x L 12 q) (fun v => (st.1, st.2.1, st.2.2.1, v, st.2.2.2.2))] at w0 w1
      change ∀ q' I' V', zbind (gT x L (piecesF x L) 12 q) _ = _ → _ at w0
      change ∀ k s q' I' V', zbind (gT x L (piecesF x L) 12 q) _ = _ → _ at w1
      rw [gT_s piecesF_s] at w0 w1
      refine mo_piece (c := 0) h3 ht3 p3 qL hc (by omega) (fun q2 I2 V2 e2 h2 p2 hV2 => ?_) (fun k q2 I2 V2 e2 h2 p2 hc2 hr2 hf2 hq2 => ?_)
      · rw [e2] at w0
        exact r_Mo_statement_215 (r_Mo_statement_217 ⟨fun _ => ⟨fun _ => w0 q2 I2 V2 rfl h2 p2 (pV3.tr hV2), fun z => absurd rfl z⟩, fun z => absurd rfl z⟩)
      · rw [e2] at w0 w1
        simp only [zbind] at w0 w1
        have pV2 : pE V V2 := fun f j a b => by rw [hf2 f j a (by omega) (by omega) (by omega)]; exact pV3 f j a b
        refine r_Mo_statement_215 (mo_piecesL 11 1 q2 I2 V2 (by omega) hq2 h2 (pV2.mT ht) p2 hc2 (fun q4 I4 V4 e4 h4 p4 hV4 => ?_) (fun ks q4 I4 V4 e4 h4 p4 hc4 hl4 hr4 hf4 hq4 => ?_))
        · rw [e4] at w0
          exact w0 q4 I4 V4 rfl h4 p4 (pV2.tr hV4)
        · rw [e4] at w1
          have g4 : ∀ f j, ¬ (f = 0 ∧ j = 3) → ¬ (f = 5 ∧ j = 4) → f ≠ 10 → ¬ (f = 11 ∧ 200 ≤ j) → V4 f j = V3 f j := fun f j a1 a2 a3 a4 => by rw [hf4 f j a1 a2 (fun z => a3 z.1) (fun z => a4 ⟨z.1, by omega⟩), hf2 f j a1 a2 (fun z => a3 z.1) (fun z => a4 ⟨z.1, by omega⟩)]
          refine w1 4 (st.1, st.2.1, st.2.2.1, k :: ks, st.2.2.2.2) q4 I4 V4 rfl h4 p4 (fun f j a1 a2 => by rw [hf4 f j a1 (by omega) (by omega) (by omega)]; exact pV2 f j a1 a2) (up_pieces hS hb0 (by simp; omega) (by simp) (fun j hj => ?_) ?_ (fun j h0 h1 => ?_) ?_ ?_ (fun j => ?_) (fun j => ?_) (fun j => ?_) (fun j => ?_) (fun j hj => ?_) (fun i k' hk' => ?_)) hM' hq4
          · rw [g4 4 j (by omega) (by omega) (by omega) (by omega), f3 4 j (by omega) (by omega) (by omega)]
          · rw [g4 4 4 (by omega) (by omega) (by omega) (by omega)]; exact f4w
          · rw [g4 5 j (by omega) (by omega) (by omega) (by omega), f3 5 j (by omega) (by omega) (by omega)]
          · rw [g4 5 0 (by omega) (by omega) (by omega) (by omega)]; exact f50
          · rw [hc4]; congr 1; simp; omega
          · rw [g4 6 j (by omega) (by omega) (by omega) (by omega), f3 6 j (by omega) (by omega) (by omega)]
          · rw [g4 7 j (by omega) (by omega) (by omega) (by omega), f3 7 j (by omega) (by omega) (by omega)]
          · rw [g4 8 j (by omega) (by omega) (by omega) (by omega), f3 8 j (by omega) (by omega) (by omega)]
          · rw [g4 9 j (by omega) (by omega) (by omega) (by omega), f3 9 j (by omega) (by omega) (by omega)]
          · rw [g4 11 j (by omega) (by omega) (by omega) (by omega), f3 11 j (by omega) (by omega) (by omega)]
          · cases i with
            | zero => rw [← Option.some.inj hk']; exact hr2.fr (fun j hj => hf4 10 j (by omega) (by omega) (by omega) (by omega)) (fun j hj => hf4 11 j (by omega) (by omega) (by omega) (by omega))
            | succ i =>
              have := hr4 i k' (by simpa using hk')
              rw [show 1 + i = i + 1 by omega] at this; exact this
    · -- skip, stop
      have hw56 : w = 5 ∨ w = 6 := by
        have n0 : w ≠ 0 := fun y => z0 (by rw [y]; rfl)
        have n1 : w ≠ 1 := fun y => z1 (by rw [y]; rfl)
        have n2 : w ≠ 2 := fun y => z2 (by rw [y]; rfl)
        have n3 : w ≠ 3 := fun y => z3 (by rw [y]; rfl)
        have n4 : w ≠ 4 := fun y => z4 (by rw [y]; rfl)
        omega
      refine ⟨_, h3.f (f := 6) (by decide), ?_⟩
      have hn := numP_le (x := x) (L := L) (lo := 0) (hi := 9999) qL
      refine mo_num (lo := 0) (hi := 9999) (by omega) (by omega) h3 ht3 p3 qL (fun I2 h2 => ?_)
      have es : ∀ q, sayP x L w st q = zbind (numP x L 0 9999 q) fun v q => (some (st.1, st.2.1, st.2.2.1, st.2.2.2.1, st.2.2.2.2.1, (if w = 5 then v else st.2.2.2.2.2.1), (if w = 5 then st.2.2.2.2.2.2.1 else v), st.2.2.2.2.2.2.2), q) := fun q => by
        unfold sayP
        rcases hw56 with e | e <;> subst e <;> rfl
      rw [es] at w0 w1
      cases e2 : numP x L 0 9999 q with
      | mk o2 q2 =>
      rw [e2] at h2 hn w0 w1
      dsimp only at h2 hn
      have e5 : nI w - (5 : Int32) = nI (w - 5) := pk_sub (b := 5) (by omega)
      have bd6 : w - 5 < n (A 6) := by rw [h2.sz (by decide)]; show w - 5 < 4; omega
      have h6 := h2.up (f := 6) (by decide) (w - 5) (mO o2)
      have pV6 : pE V (zup (zup V3 0 3 (nI q2)) 6 (w - 5) (mO o2)) := (pV3.up (Or.inl ⟨rfl, rfl⟩)).up (Or.inr (by omega))
      refine r_Mo_statement_255 ⟨h2.k (by decide), w - 5, e5, bd6, by omega, h2.K9, _, h2.f (f := 6) (by decide), h2.k (by decide), w - 5, e5, bd6, by omega, ?_⟩
      rw [zup_s]
      cases o2 with
      | none =>
        refine ⟨fun _ => w0 q2 _ _ rfl h6 (by simp [zup_at]) pV6, fun z => absurd rfl z⟩
      | some v =>
        have hv := hn.2 v rfl
        simp only [zbind] at w0 w1
        refine ⟨fun z => absurd z (nI_m1 (by omega)), fun _ => mo_semi h6 (pV6.mT ht) (by simp [zup_at]) hn.1 (fun I4 e4 h4 => ?_) (fun I4 e4 h4 => ?_)⟩
        · rw [tk59, if_neg e4] at w0
          exact w0 _ I4 _ rfl h4 (zup_s _ _ _ _) (pV6.up (Or.inl ⟨rfl, rfl⟩))
        · rw [tk59, if_pos e4] at w1
          have g4 : ∀ f j u, ¬ (f = 0 ∧ j = 3) → f ≠ 6 → zup (zup (zup V3 0 3 (nI q2)) 6 (w - 5) (mO (some v))) 0 3 u f j = V3 f j := fun f j u a1 a2 => by rw [zup_at, if_neg a1, zup_at, if_neg (fun z => a2 z.1), zup_at, if_neg a1]
          have hwv : (w = 5 ∧ (if w = 5 then v else st.2.2.2.2.2.1) = v ∧ (if w = 5 then st.2.2.2.2.2.2.1 else v) = st.2.2.2.2.2.2.1) ∨ (w = 6 ∧ (if w = 5 then v else st.2.2.2.2.2.1) = st.2.2.2.2.2.1 ∧ (if w = 5 then st.2.2.2.2.2.2.1 else v) = v) := by
            rcases hw56 with e | e <;> subst e
            · exact Or.inl ⟨rfl, rfl, rfl⟩
            · exact Or.inr ⟨rfl, rfl, rfl⟩
          refine w1 w _ _ I4 _ rfl h4 (zup_s _ _ _ _) (pV6.up (Or.inl ⟨rfl, rfl⟩)) (up_lim hwv hv.2.1 hS (fun j hj => ?_) ?_ (fun j h0 => ?_) ?_ (fun j hj => ?_) ?_ (fun f j hf1 hf2 => ?_)) hM' ((sat_lx e4).1)
          · rw [g4 4 j _ (by omega) (by omega), f3 4 j (by omega) (by omega) (by omega)]
          · rw [g4 4 w _ (by omega) (by omega)]; exact f4w
          · rw [g4 5 j _ (by omega) (by omega), f3 5 j (by omega) (by omega) (by omega)]
          · rw [g4 5 0 _ (by omega) (by omega)]; exact f50
          · rw [zup_n _ _ _ (by decide), zup_at, if_neg (fun z => hj z.2), zup_n _ _ _ (by decide), f3 6 j (by omega) (by omega) (by omega)]
          · rw [zup_n _ _ _ (by decide), zup_s]; rfl
          · rw [g4 f j _ (by omega) (by omega), f3 f j (by omega) (by omega) (by omega)]
  -- is it there already?
  have st49 : (w = 1 ∨ w = 2) → AW E m_Mo_statement (K, n, I1, F, J) cb sb Q 49 [some (.ref m), some (.int (nI p)), some (.int (nI w)), none, none] [] := fun h12 => by
    have ew2 : zwb w = 2 := by rcases h12 with e | e <;> subst e <;> rfl
    refine r_Mo_statement_49 ⟨h1.K9, _, h1.f (f := 4) (by decide), h1.k (by decide), 1, rfl, bd4 1 (by decide), by decide, 2, rfl, bd4 2 (by decide), by decide, ?_⟩
    rw [h1.a (by decide), v4, v4, hwB 1 (by decide), hwB 2 (by decide)]
    have key : ∀ c d : Bool, (zB c + zB d ≤ 0 ↔ c = false ∧ d = false) := by decide
    refine ⟨fun z => ⟨fun y => absurd y hwm1, fun _ => ⟨w, rfl, bd4 w hw7, by omega, _, h1.f (f := 5) (by decide), h1.k (by decide), 0, rfl, bd5, by decide, disp ?_⟩⟩, fun z => ⟨fun y => absurd y hwm1, fun _ => twice ?_⟩⟩
    · rw [ew2]; exact hM.2.2.1.mpr ((key _ _).mp z)
    · rw [ew2]; exact fun y => z ((key _ _).mpr (hM.2.2.1.mp y))
  refine r_Mo_statement_24 ⟨fun z => absurd z hwm1, fun _ => ⟨h1.K9, _, h1.f (f := 4) (by decide), h1.k (by decide), w, rfl, bd4 w hw7, by omega, ?_⟩⟩
  rw [h1.a (by decide), v4, hwB w hw7]
  refine ⟨fun z => ⟨fun y => absurd y hwm1, fun _ => twice (fun y => ?_)⟩, fun z => ⟨fun z1 => st49 (Or.inl ((nI_eq (a := w) (b := 1) (by omega) (by omega)).mp z1)), fun z1 => ⟨fun z2 => ⟨fun y => absurd y hwm1, fun _ => ⟨_, h1.f (f := 5) (by decide), h1.k (by decide), 0, rfl, bd5, by decide, disp ?_⟩⟩, fun z2 => st49 (Or.inr ((nI_eq (a := w) (b := 2) (by omega) (by omega)).mp z2))⟩⟩⟩
  · have := ((hM.free hw7).mp y).1
    rw [(zpos _).mp z] at this; cases this
  · refine (hM.free hw7).mpr ⟨?_, fun y => ?_⟩
    · cases hb : b w
      · rfl
      · exact absurd ((zpos _).mpr hb) z
    · rcases y with y | y
      · exact absurd (by rw [y]; rfl) z1
      · exact absurd (by rw [y]; rfl) z2
end
