-- ===== the class's run: laying out =====
section
variable {E : zE} {U : zU} {K n : Nat → Nat} {I : Nat → Nat → Int32} {F : Nat → Nat → Option Nat} {J : Nat → Nat → Int64} {cb sb : Nat} {Q : zO → zH → Prop} {k : Nat → Nat} {X : Nat → List Nat} {R : Nat → List Nat} {N : Nat → Nat × Nat × Nat} {st : zStm} {pu pp : List Nat} {cu cp : Nat} {D Sg : Nat → Int32} {rc : zRec}
/-- one piece -/
theorem cc_layI {a j : Nat} {hh : List Nat} {pc : zPart} (ha : rws U X a) (hah : a ≠ uhd U) (hpc : st.2.2.2.1[j]? = some pc) : ∀ (d q : Nat) (I : Nat → Nat → Int32) (R : Nat → List Nat) (ap : Nat), q + d = pc.2.2 → CC E U K n I F J k X R N st pu cu pp cp D Sg → R (uhd U) = hh → (∃ fo l3 xs cap, F (uo U) 2 = some fo ∧ F fo 3 = some l3 ∧ cL E K n I F l3 xs cap ∧ xs.getD j 0 = ap) → cP K n I F ap pc →
    (∀ I', CC E U K n I' F J k X (va_up R a (appP pc hh q d (R a))) N st pu cu pp cp D Sg → AW E m_Su_layOutHeld (K, n, I', F, J) cb sb Q 23 [some (.ref (uo U)), some (.ref a), some (.int (nI (j + 1))), none, none] []) →
    AW E m_Su_layOutHeld (K, n, I, F, J) cb sb Q 55 [some (.ref (uo U)), some (.ref a), some (.int (nI j)), some (.ref ap), some (.int (nI q))] []
  | 0, q, I, R, ap, hq, h, hR, hA, hP, w => by
    have := hP.2.2.2.2.1
    refine r_Su_layOutHeld_55 ⟨hP.1, ?_⟩
    rw [hP.2.2.1, nI_1]
    have w' := w I (by unfold appP; rw [va_up_id]; exact h)
    exact br_t ((nI_leI (by omega) (by omega)).mpr (by omega)) w'
  | d + 1, q, I, R, ap, hq, h, hR, hA, hP, w => by
    have hl := hP.2.2.2.2.1
    have hh1 := (h.rV rws.hd).1
    rw [hR] at hh1
    refine r_Su_layOutHeld_55 ⟨hP.1, ?_⟩
    rw [hP.2.2.1]
    refine br_f (nI_ge (by omega) (by omega)) ⟨h.ro, _, h.hd, c_partOct hP hh1 (by omega) (r_Su_layOutHeld_75 ⟨h.rK ha, c_append (h.rV ha).1 (poct_lt hP hh1.2.2.1 q) (fun I' g gi hr => r_Su_layOutHeld_78 ?_)⟩)⟩
    rw [nI_1]
    have C := h.rowB ha (g.mono (fun _ _ z => z)) gi hr
    have hG := h.G
    have ha4 := h.rK ha
    have nS : ∀ c, K c ≠ 4 → K c ≠ 20 → ¬ rowS F a c := fun c q1 q2 z => (rowS_K hG ha4 z).elim q1 q2
    have hP' : cP K n I' F ap pc := by
      have k2 := hP.1
      refine hP.fr g (fun z => nS ap (by omega) (by omega) z) (fun b hb z => ?_)
      rcases z with z | z
      · have := hG.2.2.2.2.1 ap b hP.1 hb; rw [z] at this; omega
      · exact hG.2.2.2.2.2 ap a b hP.1 ha4 hb z
    obtain ⟨fo, l3, xs, cap, e1, e2, e3, e4⟩ := hA
    refine cc_layI (hh := hh) ha hah hpc d (q + 1) I' _ ap (by omega) C (by rw [va_up_n _ _ (fun z => hah z.symm)]; exact hR) ⟨fo, l3, xs, cap, e1, e2, e3.frN g (fun c _ z => ?_), e4⟩ hP' (fun I2 C2 => w I2 ?_)
    · rcases rowS_K hG ha4 z with y | y <;> omega
    · rw [va_up2, va_up_s] at C2
      exact C2
theorem cc_layL {a : Nat} {hh : List Nat} {num mo : Nat} (ha : rws U X a) (hah : a ≠ uhd U) (hN : (N (uhd U)).2 = (num, mo)) : ∀ (ps : List zPart) (j : Nat) (I : Nat → Nat → Int32) (R : Nat → List Nat), st.2.2.2.1.drop j = ps → CC E U K n I F J k X R N st pu cu pp cp D Sg → j ≤ 100 → R (uhd U) = hh →
    (∀ I', CC E U K n I' F J k X (va_up R a (layP hh ps (R a))) (va_up N a ((N a).1, num, mo)) st pu cu pp cp D Sg → Q (.inl none) (K, n, I', F, J)) →
    AW E m_Su_layOutHeld (K, n, I, F, J) cb sb Q 23 [some (.ref (uo U)), some (.ref a), some (.int (nI j)), none, none] []
  | [], j, I, R, hj, h, hj1, hR, w => by
    obtain ⟨fo, f1, f2, f3⟩ := h.sta
    obtain ⟨-, -, -, -, -, -, -, -, l0, l1, l2, l3, g0, g1, g2, g3, -, -, -, ⟨xs, cap, hL, hcap, hlen, hC⟩⟩ := f3
    have b := hL.2.2.1
    have e : st.2.2.2.1.length ≤ j := List.drop_eq_nil_iff.mp hj
    obtain ⟨v1, v2, v3, v4⟩ := h.rV rws.hd
    obtain ⟨t1, t2, t3, t4⟩ := h.rV ha
    rw [hN] at v3 v4
    refine r_Su_layOutHeld_23 ⟨h.ro, fo, f1, f2, l3, g3, hL.1, c_size hL.1 hL.2.1 (r_Su_layOutHeld_34 (br_t ((nI_leI (by omega) (by omega)).mpr (by omega)) ⟨h.ro, _, h.hd, v1.1, t1.1, ?_⟩))⟩
    rw [zup_n _ _ _ (fun z => hah z.symm), v3, v4]
    have g : GR (rowS F a) (K, n, I, F, J) (K, n, zup (zup I a 3 (nI num)) a 4 (nI mo), F, J) := fun c _ => ⟨rfl, rfl, fun hn => ⟨by show zup _ _ _ _ c = I c; rw [zup_n _ _ _ (fun z => hn (Or.inl z)), zup_n _ _ _ (fun z => hn (Or.inl z))], rfl, rfl⟩⟩
    have hr' : cR K n (zup (zup I a 3 (nI num)) a 4 (nI mo)) F a (R a) := by
      obtain ⟨k1, k2, k3, k4, b, k5, k6, k7, k8, k9⟩ := t1
      have hba : b ≠ a := fun z => by rw [z] at k6; omega
      exact ⟨k1, k2, k3, by rw [zup_k _ _ _ (by decide), zup_k _ _ _ (by decide)]; exact k4, b, k5, k6, k7, by rw [zup_n _ _ _ hba, zup_n _ _ _ hba]; exact k8, by rw [zup_n _ _ _ hba, zup_n _ _ _ hba]; exact k9⟩
    exact w _ (h.row ha g (t := ((N a).1, num, mo)) ⟨hr', by rw [zup_k _ _ _ (by decide), zup_k _ _ _ (by decide)]; exact t2, by rw [zup_k _ _ _ (by decide), zup_s], by rw [zup_s]⟩)
  | p :: ps, j, I, R, hj, h, hj1, hR, w => by
    obtain ⟨fo, f1, f2, f3⟩ := h.sta
    obtain ⟨-, -, -, -, -, -, -, -, l0, l1, l2, l3, g0, g1, g2, g3, -, -, -, ⟨xs, cap, hL, hcap, hlen, hC⟩⟩ := f3
    have b := hL.2.2.1
    obtain ⟨ef, ed, el⟩ := zdrop_at hj
    have hP := hC j p ef
    refine r_Su_layOutHeld_23 ⟨h.ro, fo, f1, f2, l3, g3, hL.1, c_size hL.1 hL.2.1 (r_Su_layOutHeld_34 (br_f (nI_ge (by omega) (by omega)) ⟨h.ro, fo, f1, f2, l3, g3, hL.1, c_get hL (by omega) (r_Su_layOutHeld_48 ⟨hP.1, ?_⟩)⟩))⟩
    refine cc_layI ha hah ef p.2.2 0 I R _ (by omega) h hR ⟨fo, l3, xs, cap, f1, g3, hL, rfl⟩ hP (fun I' C => ?_)
    refine cc_layL (hh := hh) ha hah hN ps (j + 1) I' _ ed C (by omega) (by rw [va_up_n _ _ (fun z => hah z.symm)]; exact hR) (fun I2 C2 => w I2 ?_)
    rw [va_up2, va_up_s] at C2
    exact C2
/-- layOutHeld(row) -/
theorem cc_lay {a : Nat} {hh : List Nat} {num mo : Nat} (h : CC E U K n I F J k X R N st pu cu pp cp D Sg) (ha : rws U X a) (hah : a ≠ uhd U) (hRa : R a = []) (hR : R (uhd U) = hh) (hN : (N (uhd U)).2 = (num, mo))
    (w : ∀ I' t, CC E U K n I' F J k X (va_up R a (layF st hh)) (va_up N a (t, num, mo)) st pu cu pp cp D Sg → Q (.inl none) (K, n, I', F, J)) :
    AW E m_Su_layOutHeld (K, n, I, F, J) cb sb Q 0 [some (.ref (uo U)), some (.ref a), none, none, none] [] := by
  obtain ⟨fo, f1, f2, f3⟩ := h.sta
  obtain ⟨-, -, -, -, -, -, -, -, l0, l1, l2, l3, g0, g1, g2, g3, -, -, -, ⟨xs, cap, hL, hcap, hlen, hC⟩⟩ := f3
  have b := hL.2.2.1
  unfold layF at w
  refine r_Su_layOutHeld_0 ⟨h.ro, fo, f1, f2, l3, g3, hL.1, c_isEmpty hL.1 hL.2.1 (by omega) ?_⟩
  rw [hlen]
  by_cases e : st.2.2.2.1 = []
  · rw [if_pos e] at w
    rw [e, if_pos List.length_nil]
    obtain ⟨v1, v2, v3, v4⟩ := h.rV rws.hd
    obtain ⟨t1, t2, t3, t4⟩ := h.rV ha
    rw [hN] at v3 v4
    refine r_Su_layOutHeld_10 ⟨fun z => absurd z (by decide), fun _ => ⟨h.ro, _, h.hd, t1.1, c_become t1 v1 hah h.G (fun I' g i2 i3 i4 hr => r_Su_layOutHeld_21 ?_)⟩⟩
    have C := h.row ha (g.mono (fun _ _ z => z)) (t := ((N a).1, num, mo)) ⟨hr, by rw [i2]; exact t2, by rw [i3]; exact v3, by rw [i4]; exact v4⟩
    have hn := fun z => hah (Eq.symm z)
    refine cc_layL ha hah (num := num) (mo := mo) (by rw [va_up_n _ _ hn]; exact hN) [] 0 I' _ (by rw [e]; rfl) C (by omega) (by rw [va_up_n _ _ hn]) (fun I2 C2 => w I2 (N a).1 ?_)
    rw [va_up2, va_up2, va_up_s, va_up_s, hR] at C2
    exact C2
  · rw [if_neg e] at w
    rw [if_neg (fun z => e (List.length_eq_zero_iff.mp z))]
    refine r_Su_layOutHeld_10 ⟨fun _ => r_Su_layOutHeld_21 ?_, fun z => absurd rfl z⟩
    refine cc_layL ha hah hN st.2.2.2.1 0 I R rfl h (by omega) hR (fun I2 C2 => w I2 (N a).1 ?_)
    rw [hRa] at C2
    exact C2
end
/-- the rows laid out -/
def LD (k : Nat → Nat) (X : Nat → List Nat) (R : Nat → List Nat) (N : Nat → Nat × Nat × Nat) (L : List zHel) : Prop := L.length = k 1 ∧ ∀ t, t < k 1 → R ((X 1).getD t 0) = (L.getD t ([], 0, 0)).1 ∧ (N ((X 1).getD t 0)).2 = (L.getD t ([], 0, 0)).2
section
variable {E : zE} {U : zU} {K n : Nat → Nat} {I : Nat → Nat → Int32} {F : Nat → Nat → Option Nat} {J : Nat → Nat → Int64} {cb sb : Nat} {Q : zO → zH → Prop} {k : Nat → Nat} {X : Nat → List Nat} {R : Nat → List Nat} {N : Nat → Nat × Nat × Nat} {st : zStm} {pu pp : List Nat} {cu cp : Nat} {D Sg : Nat → Int32} {rc : zRec}
theorem LD.up {k' : Nat → Nat} {X' : Nat → List Nat} {R' : Nat → List Nat} {N' : Nat → Nat × Nat × Nat} {L : List zHel} (h : LD k X R N L) (hk : k' 1 = k 1) (hX : X' 1 = X 1) (hR : ∀ t, t < k 1 → R' ((X 1).getD t 0) = R ((X 1).getD t 0) ∧ N' ((X 1).getD t 0) = N ((X 1).getD t 0)) : LD k' X' R' N' L := by
  refine ⟨by rw [hk]; exact h.1, fun t ht => ?_⟩
  rw [hk] at ht
  rw [hX, (hR t ht).1, (hR t ht).2]
  exact h.2 t ht
/-- from laidOut.add() on -/
theorem cc_del70 {hh : List Nat} {num mo : Nat} {L : List zHel} (h : CC E U K n I F J k X R N st pu cu pp cp D Sg) (hB : RB k X R N rc) (hL : LD k X R N L) (hR : R (uhd U) = hh) (hN : (N (uhd U)).2 = (num, mo)) (hl : L.length < 150) (hb : L.length = (X 1).length → 3 ≤ cb ∧ 405 ≤ sb)
    (w : ∀ K' n' I' F' k' X' R' N', CC E U K' n' I' F' J k' X' R' N' st pu cu pp cp D Sg → RB k' X' R' N' rc → LD k' X' R' N' (L ++ [(layF st hh, num, mo)]) → (∀ j, j ≠ 1 → k' j = k j ∧ X' j = X j) → (X' 1).length = max (X 1).length (L.length + 1) → (∀ j x, j < 4 → j ≠ 1 → x ∈ X j → R' x = R x ∧ N' x = N x) → (N' (uhd U)) = N (uhd U) → Q (.inl none) (K', n', I', F', J)) :
    AW E m_Su_deliverHeld (K, n, I, F, J) cb sb Q 70 [some (.ref (uo U)), none] [] := by
  obtain ⟨u1, u2, u3, u4, u5⟩ := h.w (i := 1) (by decide)
  have hk := hL.1
  have hk0 := (h.w (i := 0) (by decide)).2.2.2.1
  refine r_Su_deliverHeld_70 ⟨h.ro, _, u1, u2, cb, sb, 0, 0, by omega, by omega, ?_⟩
  refine cc_add h (by decide) (fun _ z => hb (by omega)) (fun z => by omega) (fun z K' n' I' F' X' N' a C hNx hX ea et hlX hor => ?_)
  refine r_Su_deliverHeld_77 (sr0 := some a) ⟨fun e => (by cases e), fun z1 e => ?_⟩
  cases e
  have hkX : k 1 < (X' 1).length := by omega
  have haX : rws U X' a := by rw [← ea]; exact rws.at (by decide) hkX
  have hhd : a ≠ uhd U := fun q => by
    have := C.nh (i := 1) (t := k 1) (by decide) hkX
    rw [ea] at this; exact this q
  have hhd' : uhd U ≠ a := fun q => hhd q.symm
  have hoth : ∀ j x, j < 4 → j ≠ 1 → x ∈ X j → x ≠ a := fun j x hj hj2 hx q => by
    obtain ⟨cap, fo, c1, -⟩ := C
    rw [q, ← hX j hj2] at hx
    exact hj2 (c1.2.2.2.2.2.2.2.2.2.2.2.1 j 1 a hj (by decide) hx (by rw [← ea]; exact zgetD_mem hkX))
  refine ⟨C.ro, cc_lay C haX hhd (va_up_s _ _ _) (hh := hh) (by rw [va_up_n _ _ hhd']; exact hR) (num := num) (mo := mo) (by rw [hNx _ hhd']; exact hN) (fun I2 t0 C2 => r_Su_deliverHeld_87 ?_)⟩
  rw [va_up2] at C2
  refine w K' n' I2 F' _ X' _ _ C2 (hB.up (va_up_n _ _ (by decide)) (hX 0 (by decide)) (fun t ht => ?_)) ⟨by rw [va_up_s]; simp; omega, fun t ht => ?_⟩ (fun j hj => ⟨va_up_n _ _ hj, hX j hj⟩) (by rw [hlX, hk]) (fun j x hj hj2 hx => ?_) ?_
  · have q := hoth 0 _ (by decide) (by decide) (zgetD_mem (xs := X 0) (i := t) (by omega))
    rw [va_up_n _ _ q, va_up_n _ _ q]; exact ⟨rfl, hNx _ q⟩
  · rw [va_up_s] at ht
    by_cases e : t = k 1
    · rw [e, ea, va_up_s, va_up_s, ← hk]; simp [List.getD_eq_getElem?_getD]
    · have htk : t < k 1 := by omega
      have q : (X' 1).getD t 0 ≠ a := fun q => by
        rw [← ea] at q
        have := C.ne (i := 1) (j := 1) (by decide) (by decide) (by omega) hkX q
        omega
      rw [va_up_n _ _ q, va_up_n _ _ q, hNx _ q, et t htk, (hL.2 t htk).1, (hL.2 t htk).2]
      simp [List.getD_eq_getElem?_getD, List.getElem?_append_left (show t < L.length by omega)]
  · have q := hoth j x hj hj2 hx
    rw [va_up_n _ _ q, va_up_n _ _ q]; exact ⟨rfl, hNx _ q⟩
  · rw [va_up_n _ _ hhd']; exact hNx _ hhd'
/-- raise, then lay out -/
theorem cc_del56 {hh : List Nat} {num mo does : Nat} {L : List zHel} (h : CC E U K n I F J k X R N st pu cu pp cp D Sg) (hB : RB k X R N rc) (hL : LD k X R N L) (hR : R (uhd U) = hh) (hN : (N (uhd U)).2 = (num, mo)) (hl : L.length < 150) (hb : L.length = (X 1).length → 3 ≤ cb ∧ 405 ≤ sb) (hd : D 8 = nI does) (hd3 : does < 3)
    (w : ∀ K' n' I' F' k' X' R' N', CC E U K' n' I' F' J k' X' R' N' st pu cu pp cp D Sg → RB k' X' R' N' rc → LD k' X' R' N' (L ++ [(layF st (if does = 2 then hh.map zupc else hh), num, mo)]) → (∀ j, j ≠ 1 → k' j = k j ∧ X' j = X j) → (X' 1).length = max (X 1).length (L.length + 1) → (∀ j x, j < 4 → j ≠ 1 → x ∈ X j → R' x = R x ∧ N' x = N x) → (N' (uhd U)) = N (uhd U) → Q (.inl none) (K', n', I', F', J)) :
    ((¬ (I (uo U) 8) = (2 : Int32) → AW E m_Su_deliverHeld (K, n, I, F, J) cb sb Q 70 [some (.ref (uo U)), none] []) ∧ ((I (uo U) 8) = (2 : Int32) → (∃ b4 : Nat, F (uo U) 11 = some b4 ∧ K b4 = 4 ∧ AW E m_Row_raiseLetters (K, n, I, F, J) 0 0 (zAft E m_Su_deliverHeld cb sb Q 67 [some (.ref (uo U)), none] []) 0 [some (.ref b4), none] []))) := by
  have e2 : I (uo U) 8 = (2 : Int32) ↔ does = 2 := by
    rw [h.oD, hd]
    exact nI_eq (b := 2) (by omega) (by omega)
  have hk0 := (h.w (i := 0) (by decide)).2.2.2.1
  have hk1 := (h.w (i := 1) (by decide)).2.2.2.1
  refine ⟨fun q => ?_, fun q => ?_⟩
  · rw [if_neg (fun z => q (e2.mpr z))] at w
    exact cc_del70 h hB hL hR hN hl hb w
  · rw [if_pos (e2.mp q)] at w
    have v := h.rV rws.hd
    refine ⟨_, h.hd, v.1.1, c_raise v.1 (fun I' g hr => ?_)⟩
    rw [hR] at hr
    have hg4 := v.1.1
    have gi : I' (uhd U) = I (uhd U) := (g.f (a := uhd U) (by omega) (fun z => by have := h.G.2.2.1 _ _ v.1.1 z; omega)).1
    have C := h.rowB rws.hd (g.mono (fun _ _ z => Or.inr z)) (fun j _ => by rw [gi]) hr
    have q0 : ∀ t, t < k 0 → (X 0).getD t 0 ≠ uhd U := fun t ht => h.nh (i := 0) (by decide) (by omega)
    have q1 : ∀ t, t < k 1 → (X 1).getD t 0 ≠ uhd U := fun t ht => h.nh (i := 1) (by decide) (by omega)
    refine cc_del70 C (hB.up rfl rfl (fun t ht => ⟨va_up_n _ _ (q0 t ht), rfl⟩)) (hL.up rfl rfl (fun t ht => ⟨va_up_n _ _ (q1 t ht), rfl⟩)) (va_up_s _ _ _) hN hl hb (fun K' n' I2 F' k' X' R' N' C2 hB2 hL2 hX2 hl2 ho2 hn2 => w K' n' I2 F' k' X' R' N' C2 hB2 hL2 hX2 hl2 (fun j x hj hj2 hx => ?_) hn2)
    have o := ho2 j x hj hj2 hx
    have hxh : x ≠ uhd U := fun z => by
      obtain ⟨cap, fo, c1, -⟩ := h
      rw [z] at hx
      exact c1.2.2.2.2.2.2.2.2.2.2.2.2.2 j hj hx
    rw [va_up_n _ _ hxh] at o
    exact o
/-- deliverHeld() -/
theorem cc_deliver {hh : List Nat} {num mo does arr c : Nat} {stops : Bool} {L : List zHel} (h : CC E U K n I F J k X R N st pu cu pp cp D Sg) (hB : RB k X R N rc) (hL : LD k X R N L) (hR : R (uhd U) = hh) (hN : (N (uhd U)).2 = (num, mo)) (hl : L.length < 150) (hb : L.length < (delF st does stops arr (hh, num, mo) L).length → L.length = (X 1).length → 3 ≤ cb ∧ 405 ≤ sb) (hd : D 8 = nI does) (hd3 : does < 3) (hs : D 9 = zB stops) (ha : D 13 = nI arr) (ha1 : arr ≤ 1000) (hc : D 14 = nI c)
    (w : ∀ K' n' I' F' k' X' R' N' D', CC E U K' n' I' F' J k' X' R' N' st pu cu pp cp D' Sg → RB k' X' R' N' rc → LD k' X' R' N' (delF st does stops arr (hh, num, mo) L) → (∀ j, j ≠ 1 → k' j = k j ∧ X' j = X j) → (X' 1).length = max (X 1).length (delF st does stops arr (hh, num, mo) L).length → (∀ j x, j < 4 → j ≠ 1 → x ∈ X j → R' x = R x ∧ N' x = N x) → (∀ j, j ≠ 13 → j ≠ 14 → D' j = D j) → D' 13 = nI (arr + 1) → D' 14 = nI (delC stops arr c) → Q (.inl none) (K', n', I', F', J)) :
    AW E m_Su_deliverHeld (K, n, I, F, J) cb sb Q 0 [some (.ref (uo U)), none] [] := by
  have hk := hL.1
  have hk1 := (h.w (i := 1) (by decide)).2.2.2.1
  have C1 := h.oI (I' := zup I (uo U) 13 (nI (arr + 1))) (fun a ha => zup_n _ _ _ ha)
  rw [zup_row, h.oD] at C1
  have ho := h.ro
  refine r_Su_deliverHeld_0 ⟨h.ro, ?_⟩
  rw [h.oD, ha, nI_1]
  have i9 : zup I (uo U) 13 (nI (arr + 1)) (uo U) 9 = zB stops := by rw [zup_k _ _ _ (by decide), h.oD]; exact hs
  have i8 : zup I (uo U) 13 (nI (arr + 1)) (uo U) 8 = nI does := by rw [zup_k _ _ _ (by decide), h.oD]; exact hd
  have hD : ∀ j, j ≠ 13 → j ≠ 14 → va_up D 13 (nI (arr + 1)) j = D j := fun j h1 _ => va_up_n _ _ h1
  have hD8 : va_up D 13 (nI (arr + 1)) 8 = nI does := by rw [va_up_n _ _ (by decide)]; exact hd
  -- what happens if the row does not stop the run
  have go : ¬ (stops = true ∧ 3 ≤ arr + 1) → ((¬ ((zup I (uo U) 13 (nI (arr + 1))) (uo U) 8) = (1 : Int32) → ((¬ ((zup I (uo U) 13 (nI (arr + 1))) (uo U) 8) = (2 : Int32) → AW E m_Su_deliverHeld (K, n, (zup I (uo U) 13 (nI (arr + 1))), F, J) cb sb Q 70 [some (.ref (uo U)), none] []) ∧ (((zup I (uo U) 13 (nI (arr + 1))) (uo U) 8) = (2 : Int32) → (∃ b5 : Nat, F (uo U) 11 = some b5 ∧ K b5 = 4 ∧ AW E m_Row_raiseLetters (K, n, (zup I (uo U) 13 (nI (arr + 1))), F, J) 0 0 (zAft E m_Su_deliverHeld cb sb Q 67 [some (.ref (uo U)), none] []) 0 [some (.ref b5), none] [])))) ∧ (((zup I (uo U) 13 (nI (arr + 1))) (uo U) 8) = (1 : Int32) → (∃ b7 : Nat, F (uo U) 11 = some b7 ∧ K b7 = 4 ∧ AW E m_Row_octetAt (K, n, (zup I (uo U) 13 (nI (arr + 1))), F, J) 0 0 (zAft E m_Su_deliverHeld cb sb Q 45 [some (.ref (uo U)), none] []) 0 [some (.ref b7), some (.int (0 : Int32))] []))) := fun hns => by
    have wd : does = 1 → oct hh 0 % 2 = 1 → Q (.inl none) (K, n, zup I (uo U) 13 (nI (arr + 1)), F, J) := fun q1 q2 => by
      have e : delF st does stops arr (hh, num, mo) L = L := by unfold delF; rw [if_neg hns, if_pos ⟨q1, q2⟩]
      rw [e] at w
      refine w K n _ F k X R N _ C1 hB hL (fun j _ => ⟨rfl, rfl⟩) (by omega) (fun _ _ _ _ _ => ⟨rfl, rfl⟩) hD (va_up_s _ _ _) ?_
      rw [va_up_n _ _ (by decide), hc]; unfold delC; rw [if_neg hns]
    have wl : ¬ (does = 1 ∧ oct hh 0 % 2 = 1) → _ := fun q => by
      have e : delF st does stops arr (hh, num, mo) L = L ++ [(layF st (if does = 2 then hh.map zupc else hh), num, mo)] := by unfold delF; rw [if_neg hns, if_neg q]
      rw [e] at w hb
      exact cc_del56 C1 hB hL hR hN hl (hb (by simp)) hD8 hd3 (fun K' n' I' F' k' X' R' N' C2 hB2 hL2 hX2 hl2 ho2 hn2 => w K' n' I' F' k' X' R' N' _ C2 hB2 hL2 hX2 (by rw [hl2]; simp) ho2 hD (va_up_s _ _ _) (by rw [va_up_n _ _ (by decide), hc]; unfold delC; rw [if_neg hns]))
    have e1 : zup I (uo U) 13 (nI (arr + 1)) (uo U) 8 = (1 : Int32) ↔ does = 1 := by
      rw [i8]; exact nI_eq (b := 1) (by omega) (by omega)
    refine ⟨fun q => wl (fun z => q (e1.mpr z.1)), fun q => ⟨_, h.hd, (C1.rV rws.hd).1.1, c_octetAt (i := 0) (C1.rV rws.hd).1 (by omega) (r_Su_deliverHeld_48 ?_)⟩⟩
    rw [hR]
    have hlt := oct_lt (C1.rV rws.hd).1.2.2.1 0
    rw [hR] at hlt
    have em : nI (oct hh 0) - nI (oct hh 0) / (2 : Int32) * (2 : Int32) = nI (oct hh 0 % 2) := pk_rem (d := 2) (by omega) (by omega) (by omega)
    rw [em]
    have e3 : nI (oct hh 0 % 2) = (1 : Int32) ↔ oct hh 0 % 2 = 1 := nI_eq (b := 1) (by omega) (by omega)
    exact ⟨fun z => ⟨h.ro, wl (fun y => z (e3.mpr y.2))⟩, fun z => wd (e1.mp q) (e3.mp z)⟩
  rw [i9]
  refine br_c (fun q => ?_) (fun q => ?_)
  · have hst : stops = false := (zB_0 stops).mp q
    exact go (fun z => by rw [hst] at z; cases z.1)
  · have hst : stops = true := by
      cases stops
      · exact absurd rfl q
      · rfl
    rw [zup_s]
    refine pk_lt (arr + 1) 3 (fun z => go (fun y => by omega)) (fun z => ?_) rfl rfl (by omega) (by omega)
    have e : delF st does stops arr (hh, num, mo) L = L := by unfold delF; rw [if_pos ⟨hst, z⟩]
    rw [e] at w
    have C2 := C1.oI (I' := zup (zup I (uo U) 13 (nI (arr + 1))) (uo U) 14 (16 : Int32)) (fun a ha => zup_n _ _ _ ha)
    rw [zup_row, zup_row, h.oD] at C2
    refine w K n _ F k X R N _ C2 hB hL (fun j _ => ⟨rfl, rfl⟩) (by omega) (fun _ _ _ _ _ => ⟨rfl, rfl⟩) (fun j h1 h2 => by rw [va_up_n _ _ h2, va_up_n _ _ h1]) (by rw [va_up_n _ _ (by decide), va_up_s]) ?_
    rw [va_up_s]; unfold delC; rw [if_pos ⟨hst, z⟩]; rfl
end
