-- ===== the class's run: the held row =====
/-- what a text can say -/
def okS (st : zStm) : Prop := (st.1.length ≤ 6 ∧ st.2.1.length ≤ 10 ∧ st.2.2.1.length ≤ 4 ∧ st.2.2.2.1.length ≤ 12) ∧ ∀ f ∈ st.2.2.1, f.1 = none ∧ f.2.1 + f.2.2 ≤ 100 ∧ 1 ≤ f.2.2 ∧ f.2.2 ≤ 9
theorem dig_le (u : Nat) : dig u ≤ 9 := by unfold dig; split <;> omega
theorem numIn_lt (t : zPart) (r : List Nat) : ∀ (d k acc : Nat), numIn t r k d acc < (acc + 1) * 10 ^ d
  | 0, k, acc => by unfold numIn; omega
  | d + 1, k, acc => by
    unfold numIn
    have h := numIn_lt t r d (k + 1) (acc * 10 + dig (poct t r k))
    have hd := dig_le (poct t r k)
    refine Nat.lt_of_lt_of_le h ?_
    rw [Nat.pow_succ, Nat.mul_comm (10 ^ d) 10, ← Nat.mul_assoc]
    exact Nat.mul_le_mul_right _ (by omega)
theorem sumN_lt {f : zPart} (hf : f.2.2 ≤ 9) (h r : List Nat) : sumN f h r < 2 ^ 31 ∧ 10 ^ f.2.2 < 2 ^ 31 := by
  have h1 := numIn_lt f h f.2.2 0 0
  have h2 := numIn_lt f r f.2.2 0 0
  have h3 : 10 ^ f.2.2 ≤ 10 ^ 9 := Nat.pow_le_pow_right (by omega) hf
  unfold sumN
  omega
theorem va_up_id {α : Type} (f : Nat → α) (a : Nat) : va_up f a (f a) = f := by
  funext j
  by_cases h : j = a
  · rw [h, va_up_s]
  · rw [va_up_n _ _ h]
section
variable {E : zE} {U : zU} {K n : Nat → Nat} {I I' : Nat → Nat → Int32} {F : Nat → Nat → Option Nat} {J : Nat → Nat → Int64} {cb sb : Nat} {Q : zO → zH → Prop} {k : Nat → Nat} {X : Nat → List Nat} {R : Nat → List Nat} {N : Nat → Nat × Nat × Nat} {st : zStm} {pu pp : List Nat} {cu cp : Nat} {D Sg : Nat → Int32} {rc : zRec}
theorem CC.rowB {a : Nat} {r' : List Nat} (h : CC E U K n I F J k X R N st pu cu pp cp D Sg) (ha : rws U X a) (g : GR (rowS F a) (K, n, I, F, J) (K, n, I', F, J)) (hi : ∀ j, j ≠ 1 → I' a j = I a j) (hv : cR K n I' F a r') : CC E U K n I' F J k X (va_up R a r') N st pu cu pp cp D Sg := by
  obtain ⟨v1, v2, v3, v4⟩ := h.rV ha
  have := h.row ha g (r' := r') (t := N a) ⟨hv, by rw [hi 2 (by decide)]; exact v2, by rw [hi 3 (by decide)]; exact v3, by rw [hi 4 (by decide)]; exact v4⟩
  rw [va_up_id] at this
  exact this
theorem CC.ns (h : CC E U K n I F J k X R N st pu cu pp cp D Sg) : F (uo U) 12 = some (uns U) ∧ K (uns U) = 22 ∧ n (uns U) = 4 := by
  obtain ⟨cap, fo, h1, h2, h3, h4, h5, h6, h7, h8⟩ := h
  exact h1.2.2.2.2.2.2.2.1
/-- sumsHavePlace: the loop -/
theorem cc_shpL {i : Nat} {hh : List Nat} (ho : okS st) (hB : RB k X R N rc) (hi : i < k 0) (hR : R (uhd U) = hh) : ∀ (d j : Nat) (J : Nat → Nat → Int64), j + d = st.2.2.1.length → CC E U K n I F J k X R N st pu cu pp cp D Sg → (∀ q f, q < j → st.2.2.1[q]? = some f → J (uns U) q = lN (sumN f hh (rc i).2)) →
    (fitF hh (rc i).2 (st.2.2.1.drop j) = true → ∀ J', CC E U K n I F J' k X R N st pu cu pp cp D Sg → (∀ q f, st.2.2.1[q]? = some f → J' (uns U) q = lN (sumN f hh (rc i).2)) → Q (.inl (some (.int 1))) (K, n, I, F, J')) →
    (fitF hh (rc i).2 (st.2.2.1.drop j) = false → ∀ J', CC E U K n I F J' k X R N st pu cu pp cp D Sg → Q (.inl (some (.int 0))) (K, n, I, F, J')) →
    AW E m_Su_sumsHavePlace (K, n, I, F, J) cb sb Q 2 [some (.ref (uo U)), some (.ref ((X 0).getD i 0)), some (.int (nI j)), none] []
  | 0, j, J, hj, h, hJ, w1, w0 => by
    obtain ⟨fo, f1, f2, f3⟩ := h.sta
    obtain ⟨-, -, -, -, -, -, -, -, l0, l1, l2, l3, g0, g1, g2, g3, -, -, ⟨xs, cap, hL, hcap, hlen, hC⟩, -⟩ := f3
    have h4 := ho.1.2.2.1
    refine r_Su_sumsHavePlace_2 ⟨h.ro, fo, f1, f2, l2, g2, hL.1, c_size hL.1 hL.2.1 (r_Su_sumsHavePlace_13 (br_t ((nI_leI (by omega) (by omega)).mpr (by omega)) ?_))⟩
    rw [List.drop_of_length_le (by omega)] at w1
    refine w1 rfl J h (fun q f hq => hJ q f ?_ hq)
    have := (List.getElem?_eq_some_iff.mp hq).1
    omega
  | d + 1, j, J, hj, h, hJ, w1, w0 => by
    obtain ⟨fo, f1, f2, f3⟩ := h.sta
    obtain ⟨-, -, -, -, -, -, -, -, l0, l1, l2, l3, g0, g1, g2, g3, -, -, ⟨xs, cap, hL, hcap, hlen, hC⟩, -⟩ := f3
    obtain ⟨n1, n2, n3⟩ := h.ns
    have h4 := ho.1.2.2.1
    have hjl : j < st.2.2.1.length := by omega
    obtain ⟨fj, ef⟩ : ∃ f, st.2.2.1[j]? = some f := ⟨_, List.getElem?_eq_getElem hjl⟩
    have hP := hC j fj ef
    have hfm : fj ∈ st.2.2.1 := List.mem_of_getElem? ef
    obtain ⟨o1, o2, o3, o4⟩ := ho.2 fj hfm
    have hh1 := (h.rV rws.hd).1
    rw [hR] at hh1
    have hr1 := (h.rV (h.rx (i := 0) (by decide) hi)).1
    rw [(hB i hi).1] at hr1
    have edr : st.2.2.1.drop j = fj :: st.2.2.1.drop (j + 1) := by
      rw [List.drop_eq_getElem_cons hjl]
      congr 1
      exact Option.some.inj (by rw [← ef, List.getElem?_eq_getElem hjl])
    rw [edr] at w1 w0
    unfold fitF at w1 w0
    refine r_Su_sumsHavePlace_2 ⟨h.ro, fo, f1, f2, l2, g2, hL.1, c_size hL.1 hL.2.1 (r_Su_sumsHavePlace_13 (br_f (nI_ge (by omega) (by omega)) ⟨h.ro, _, n1, by omega, ?_⟩))⟩
    rw [n3]
    refine br_f (nI_ge (by omega) (by omega)) ⟨fo, f1, f2, l2, g2, hL.1, c_get hL (by omega) (r_Su_sumsHavePlace_36 ⟨hP.1, h.ro, _, n1, _, h.hd, c_num hP hh1 (r_Su_sumsHavePlace_53 ⟨hP.1, c_num hP hr1 (r_Su_sumsHavePlace_58 ⟨n2, j, rfl, by omega, by omega, h.ro, _, n1, n2, j, rfl, by omega, by omega, hP.1, c_too hP (r_Su_sumsHavePlace_70 ?_)⟩)⟩)⟩)⟩
    rw [zup_s, lN_add]
    obtain ⟨b1, b2⟩ := sumN_lt o4 hh (rc i).2
    have hc := lg_cmp_lt (lN (numIn fj hh 0 fj.2.2 0 + numIn fj (rc i).2 0 fj.2.2 0)) (lN (10 ^ fj.2.2))
    rw [lN_lt (show numIn fj hh 0 fj.2.2 0 + numIn fj (rc i).2 0 fj.2.2 0 < 2 ^ 31 from b1) b2] at hc
    have h2 := h.nsJ (J' := zup J (uns U) j (lN (numIn fj hh 0 fj.2.2 0 + numIn fj (rc i).2 0 fj.2.2 0))) (fun a ha => zup_n _ _ _ ha)
    refine br_c (fun q => ?_) (fun q => ?_)
    · rw [if_pos (show sumN fj hh (rc i).2 < 10 ^ fj.2.2 from hc.mp q)] at w1 w0
      rw [nI_1]
      refine cc_shpL ho hB hi hR d (j + 1) _ (by omega) h2 (fun q f hq ef' => ?_) w1 w0
      by_cases e : q = j
      · subst e
        rw [zup_s, Option.some.inj (ef'.symm.trans ef)]; rfl
      · rw [zup_k _ _ _ e]; exact hJ q f (by omega) ef'
    · rw [if_neg (show ¬ sumN fj hh (rc i).2 < 10 ^ fj.2.2 from fun z => q (hc.mpr z))] at w0
      exact w0 rfl _ h2
/-- the sums are written -/
theorem cc_twL {hh rr : List Nat} (ho : okS st) (hJ : ∀ q f, st.2.2.1[q]? = some f → J (uns U) q = lN (sumN f hh rr)) {inp num mo : Nat} (hN : N (uhd U) = (inp, num, mo)) : ∀ (fs : List zPart) (j : Nat) (I : Nat → Nat → Int32) (R : Nat → List Nat), st.2.2.1.drop j = fs → j ≤ st.2.2.1.length → CC E U K n I F J k X R N st pu cu pp cp D Sg →
    (∀ I', CC E U K n I' F J k X (va_up R (uhd U) (wsF fs (fs.map (fun f => sumN f hh rr)) (R (uhd U)))) (va_up N (uhd U) (inp, num, mo + 1)) st pu cu pp cp D Sg → Q (.inl (some (.int 1))) (K, n, I', F, J)) →
    AW E m_Su_heldTakesUp (K, n, I, F, J) cb sb Q 67 [some (.ref (uo U)), none, some (.int (nI j))] []
  | [], j, I, R, hj, hjl, h, w => by
    obtain ⟨fo, f1, f2, f3⟩ := h.sta
    obtain ⟨-, -, -, -, -, -, -, -, l0, l1, l2, l3, g0, g1, g2, g3, -, -, ⟨xs, cap, hL, hcap, hlen, hC⟩, -⟩ := f3
    have h4 := ho.1.2.2.1
    have e : st.2.2.1.length ≤ j := List.drop_eq_nil_iff.mp hj
    obtain ⟨v1, v2, v3, v4⟩ := h.rV rws.hd
    refine r_Su_heldTakesUp_67 ⟨h.ro, fo, f1, f2, l2, g2, hL.1, c_size hL.1 hL.2.1 (r_Su_heldTakesUp_78 (br_t ((nI_leI (by omega) (by omega)).mpr (by omega)) ⟨h.ro, _, h.hd, v1.1, ?_⟩))⟩
    rw [hN] at v2 v3 v4
    rw [v4, nI_1]
    have g : GR (rowS F (uhd U)) (K, n, I, F, J) (K, n, zup I (uhd U) 4 (nI (mo + 1)), F, J) := fun c _ => ⟨rfl, rfl, fun hn => ⟨zup_n _ _ _ (fun z => hn (Or.inl z)), rfl, rfl⟩⟩
    have hr' : cR K n (zup I (uhd U) 4 (nI (mo + 1))) F (uhd U) (R (uhd U)) := by
      obtain ⟨k1, k2, k3, k4, b, k5, k6, k7, k8, k9⟩ := v1
      have hba : b ≠ uhd U := fun z => by rw [z] at k6; omega
      exact ⟨k1, k2, k3, by rw [zup_k _ _ _ (by decide)]; exact k4, b, k5, k6, k7, by rw [zup_n _ _ _ hba]; exact k8, by rw [zup_n _ _ _ hba]; exact k9⟩
    exact w _ (h.row rws.hd g (t := (inp, num, mo + 1)) ⟨hr', by rw [zup_k _ _ _ (by decide)]; exact v2, by rw [zup_k _ _ _ (by decide)]; exact v3, by rw [zup_s]⟩)
  | f :: fs, j, I, R, hj, hjl, h, w => by
    obtain ⟨fo, f1, f2, f3⟩ := h.sta
    obtain ⟨-, -, -, -, -, -, -, -, l0, l1, l2, l3, g0, g1, g2, g3, -, -, ⟨xs, cap, hL, hcap, hlen, hC⟩, -⟩ := f3
    obtain ⟨n1, n2, n3⟩ := h.ns
    have h4 := ho.1.2.2.1
    obtain ⟨ef, ed, el⟩ := zdrop_at hj
    have hP := hC j f ef
    obtain ⟨o1, o2, o3, o4⟩ := ho.2 f (List.mem_of_getElem? ef)
    obtain ⟨v1, v2, v3, v4⟩ := h.rV rws.hd
    obtain ⟨b1, b2⟩ := sumN_lt o4 hh rr
    refine r_Su_heldTakesUp_67 ⟨h.ro, fo, f1, f2, l2, g2, hL.1, c_size hL.1 hL.2.1 (r_Su_heldTakesUp_78 (br_f (nI_ge (by omega) (by omega)) ⟨h.ro, _, n1, by omega, ?_⟩))⟩
    rw [n3]
    refine br_f (nI_ge (by omega) (by omega)) ⟨fo, f1, f2, l2, g2, hL.1, c_get hL (by omega) (r_Su_heldTakesUp_101 ⟨hP.1, h.ro, _, h.hd, _, n1, n2, j, rfl, by omega, by omega, ?_⟩)⟩
    rw [hJ j f ef]
    refine c_wnum hP v1 o2 (by omega) h.G (fun I' g gi hr => r_Su_heldTakesUp_117 ?_)
    rw [nI_1]
    have C := h.rowB rws.hd (g.mono (fun _ _ q => q)) gi hr
    refine cc_twL ho hJ hN fs (j + 1) I' _ ed (by omega) C (fun I2 C2 => w I2 ?_)
    rw [va_up2, va_up_s] at C2
    exact C2
/-- heldTakesUp(row) -/
theorem cc_take {i c : Nat} {hh : List Nat} {inp num mo : Nat} (h : CC E U K n I F J k X R N st pu cu pp cp D Sg) (ho : okS st) (hB : RB k X R N rc) (hi : i < k 0) (hR : R (uhd U) = hh) (hN : N (uhd U) = (inp, num, mo)) (hc : D 14 = nI c) (hc16 : c ≤ 16)
    (w0 : tkS st hh (rc i).2 = 0 → Q (.inl (some (.int 0))) (K, n, I, F, J))
    (w1 : tkS st hh (rc i).2 = 1 → ∀ I' J', CC E U K n I' F J' k X R N st pu cu pp cp (va_up D 14 (nI (max c 4))) Sg → Q (.inl (some (.int 0))) (K, n, I', F, J'))
    (w2 : tkS st hh (rc i).2 = 2 → ∀ I' J', CC E U K n I' F J' k X (va_up R (uhd U) (takF st hh (rc i).2)) (va_up N (uhd U) (inp, num, mo + 1)) st pu cu pp cp D Sg → Q (.inl (some (.int 1))) (K, n, I', F, J')) :
    AW E m_Su_heldTakesUp (K, n, I, F, J) cb sb Q 0 [some (.ref (uo U)), some (.ref ((X 0).getD i 0)), none] [] := by
  obtain ⟨fo, f1, f2, f3⟩ := h.sta
  have f3' := f3
  obtain ⟨-, -, -, -, -, -, -, -, l0, l1, l2, l3, g0, g1, g2, g3, ⟨x0, p0, hL0, hp0, hlen0, -⟩, -, ⟨x2, p2, hL2, hp2, hlen2, -⟩, -⟩ := f3'
  have hh1 := (h.rV rws.hd).1
  rw [hR] at hh1
  have hr1 := (h.rV (h.rx (i := 0) (by decide) hi)).1
  rw [(hB i hi).1] at hr1
  have b0 := hL0.2.2.1
  have b2 := hL2.2.2.1
  unfold tkS at w0 w1 w2
  have e0 : ∀ {α : Type} (xs : List α), xs.length = 0 ↔ xs = [] := fun xs => List.length_eq_zero_iff
  refine r_Su_heldTakesUp_0 ⟨h.ro, fo, f1, f2, l0, g0, hL0.1, c_isEmpty hL0.1 hL0.2.1 (by omega) (r_Su_heldTakesUp_10 ⟨fun q => ?_, fun q => ⟨h.ro, fo, f1, f2, l2, g2, hL2.1, c_isEmpty hL2.1 hL2.2.1 (by omega) (r_Su_heldTakesUp_23 ⟨fun q2 => ?_, fun q2 => ⟨h.ro, fo, f1, _, h.hd, f2, c_cmpR f3 hh1 hr1 (fun x hx _ => r_Su_heldTakesUp_38 ⟨fun q3 => ⟨h.ro, ?_⟩, fun q3 => ?_⟩)⟩⟩)⟩⟩)⟩
  · refine w0 (if_pos (Or.inl ((e0 _).mp ?_)))
    rw [hlen0] at q
    by_cases z : st.1.length = 0
    · exact z
    · rw [if_neg z] at q; exact absurd rfl q
  · refine w0 (if_pos (Or.inr (Or.inl ((e0 _).mp ?_))))
    rw [hlen2] at q2
    by_cases z : st.2.2.1.length = 0
    · exact z
    · rw [if_neg z] at q2; exact absurd rfl q2
  · have k1 : st.1 ≠ [] := fun z => by rw [hlen0, z, if_pos List.length_nil] at q; exact absurd q (by decide)
    have k2 : st.2.2.1 ≠ [] := fun z => by rw [hlen2, z, if_pos List.length_nil] at q2; exact absurd q2 (by decide)
    have k3 : cmpR st.1 hh (rc i).2 = 0 := by rw [← hx]; exact (zi0 x).1.mp q3
    have kn : ¬ (st.1 = [] ∨ st.2.2.1 = [] ∨ cmpR st.1 hh (rc i).2 ≠ 0) := fun z => by
      rcases z with z | z | z
      · exact k1 z
      · exact k2 z
      · exact z k3
    rw [if_neg kn] at w1 w2
    refine r_Su_sumsHavePlace_0 (cc_shpL ho hB hi hR _ 0 J (Nat.zero_add _) h (fun q f hq _ => by omega) (fun hfit J' C hJ' => r_Su_heldTakesUp_48 ⟨fun _ => ?_, fun z => absurd z (by decide)⟩) (fun hfit J' C => r_Su_heldTakesUp_48 ⟨fun z => absurd rfl z, fun _ => ⟨h.ro, ?_⟩⟩))
    · rw [List.drop_zero] at hfit
      rw [if_pos hfit] at w2
      refine cc_twL ho hJ' hN st.2.2.1 0 I R rfl (by omega) C (fun I' C' => w2 rfl I' J' ?_)
      rw [hR] at C'
      exact C'
    · rw [List.drop_zero] at hfit
      rw [if_neg (by rw [hfit]; decide)] at w1
      rw [h.oD, hc]
      refine c_max (b := 4) (by omega) (by omega) (r_Su_heldTakesUp_60 ⟨h.ro, w1 rfl _ J' ?_⟩)
      have C2 := C.oI (I' := zup I (uo U) 14 (nI (max c 4))) (fun a ha => zup_n _ _ _ ha)
      rw [zup_row, h.oD] at C2
      exact C2
  · refine w0 (if_pos (Or.inr (Or.inr (fun z => q3 ?_))))
    exact (zi0 x).1.mpr (by rw [hx]; exact z)
end
