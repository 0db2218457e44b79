-- ===== the class's run: picking =====
/-- the records as they stand -/
def RB (k : Nat → Nat) (X : Nat → List Nat) (R : Nat → List Nat) (N : Nat → Nat × Nat × Nat) (rc : zRec) : Prop := ∀ t, t < k 0 → R ((X 0).getD t 0) = (rc t).2 ∧ N ((X 0).getD t 0) = ((rc t).1, t, 1)
def xm (X : Nat → List Nat) (p : List Nat) : List Nat := p.map (fun j => (X 0).getD j 0)
theorem xm_len (X : Nat → List Nat) (p : List Nat) : (xm X p).length = p.length := List.length_map _
theorem xm_at {X : Nat → List Nat} {p : List Nat} {j : Nat} (h : j < p.length) : (xm X p).getD j 0 = (X 0).getD (p.getD j 0) 0 := by
  unfold xm
  simp [List.getD_eq_getElem?_getD, List.getElem?_eq_getElem h]
theorem xm_ins (X : Nat → List Nat) (p : List Nat) (q i : Nat) : zins (xm X p) q ((X 0).getD i 0) = xm X (zins p q i) := by
  unfold xm zins
  simp [List.map_take, List.map_drop]
section
variable {E : zE} {U : zU} {K n : Nat → Nat} {I : Nat → Nat → Int32} {F : Nat → Nat → Option Nat} {J : Nat → Nat → Int64} {cb sb : Nat} {Q : zO → zH → Prop} {k : Nat → Nat} {X : Nat → List Nat} {R : Nat → List Nat} {N : Nat → Nat × Nat × Nat} {st : zStm} {pu pp : List Nat} {cu cp : Nat} {D Sg : Nat → Int32} {rc : zRec}
theorem RB.up {k' : Nat → Nat} {X' : Nat → List Nat} {R' : Nat → List Nat} {N' : Nat → Nat × Nat × Nat} (h : RB k X R N rc) (hk : k' 0 = k 0) (hX : X' 0 = X 0) (hR : ∀ t, t < k 0 → R' ((X 0).getD t 0) = R ((X 0).getD t 0) ∧ N' ((X 0).getD t 0) = N ((X 0).getD t 0)) : RB k' X' R' N' rc := fun t ht => by
  rw [hk] at ht
  rw [hX, (hR t ht).1, (hR t ht).2]
  exact h t ht
theorem cB.up {k' : Nat → Nat} {X' : Nat → List Nat} {R' : Nat → List Nat} {i : Nat} {B : List (List Nat)} (h : cB k X R i B) (hk : k' i = k i) (hX : ∀ t, t < k i → (X' i).getD t 0 = (X i).getD t 0) (hR : ∀ t, t < k i → R' ((X i).getD t 0) = R ((X i).getD t 0)) : cB k' X' R' i B := by
  refine ⟨by rw [hk]; exact h.1, fun t ht => ?_⟩
  rw [hk] at ht
  rw [hX t ht, hR t ht]
  exact h.2 t ht
theorem CC.l5 (h : CC E U K n I F J k X R N st pu cu pp cp D Sg) : F (uo U) 10 = some (ul U 5) ∧ cL E K n I F (ul U 5) pp cp ∧ cp ≤ 300 ∧ ∀ a ∈ pp, a ∈ X 0 := by
  obtain ⟨cap, fo, h1, h2, h3, h4, h5, h6, h7, h8⟩ := h
  exact ⟨h1.2.2.2.2.2.1.2.1, h4, h5.2.1, h5.2.2.2⟩
theorem CC.l4 (h : CC E U K n I F J k X R N st pu cu pp cp D Sg) : F (uo U) 7 = some (ul U 4) ∧ cL E K n I F (ul U 4) pu cu ∧ cu ≤ 300 ∧ ∀ a ∈ pu, a ∈ X 0 := by
  obtain ⟨cap, fo, h1, h2, h3, h4, h5, h6, h7, h8⟩ := h
  exact ⟨h1.2.2.2.2.2.1.1, h3, h5.1, h5.2.2.1⟩
theorem cL.cap0 {l cap : Nat} {xs : List Nat} (h : cL E K n I F l xs cap) : cap = 0 ∨ 10 ≤ cap := by
  obtain ⟨h1, h2, h3, h4, h5, e, h6, h7, h8⟩ := h
  rcases h7 with q | q
  · exact Or.inr q.2.2
  · exact Or.inl q.2
/-- insertSorted: the loop -/
theorem cc_insL {p : List Nat} {i : Nat} (h : CC E U K n I F J k X R N st pu cu (xm X p) cp D Sg) (hB : RB k X R N rc) (hp : ∀ j ∈ p, j < k 0) (hi : i < k 0) (hs : srt st.1 rc p) (hl : p.length < 150) (hb : p.length = cp → 1 ≤ cb ∧ 300 ≤ sb)
    (w : ∀ K' n' I' F' cp', CC E U K' n' I' F' J k X R N st pu cu (xm X (insI st.1 rc p i)) cp' D Sg → cp' = (if p.length = cp then zgrow cp else cp) → Q (.inl none) (K', n', I', F', J)) :
    ∀ (d lo hi' : Nat), hi' - lo ≤ d → lo ≤ hi' → hi' ≤ p.length → (∀ j, j < lo → cmpR st.1 (rc (p.getD j 0)).2 (rc i).2 ≤ 0) → (∀ j, hi' ≤ j → j < p.length → ¬ cmpR st.1 (rc (p.getD j 0)).2 (rc i).2 ≤ 0) →
    AW E m_Su_insertSorted (K, n, I, F, J) cb sb Q 10 [some (.ref (uo U)), some (.ref ((X 0).getD i 0)), some (.int (nI lo)), some (.int (nI hi')), none] [] := by
  have ho := h.ro
  obtain ⟨l1, l2, l3, l4⟩ := h.l5
  obtain ⟨fo, f1, f2, f3⟩ := h.sta
  intro d
  induction d with
  | zero =>
    intro lo hi' hd h1 h2 h3 h4
    have e : lo = hi' := by omega
    subst e
    refine r_Su_insertSorted_10 (br_t (Int32.le_refl _) ⟨ho, _, l1, l2.1, cb, sb, 0, 0, by omega, by omega, ?_⟩)
    refine aw_c0 (fun hc0 => ?_)
    have ha := (h.rV (h.rx (i := 0) (by decide) hi)).1.1
    have hlen := xm_len X p
    have hzg : p.length = cp → zgrow cp ≤ 300 := fun q => by
      rcases l2.cap0 with z | z <;> (unfold zgrow; split <;> omega)
    refine c_addI l2 h.G (Or.inr (Or.inr (Or.inl ha))) (by omega) (by omega) (fun q => ⟨(hb (by omega)).1, ?_⟩) (fun K' n' I' F' g hG' hL => ?_)
    · have := hzg (by omega); have := (hb (by omega)).2; omega
    · rw [xm_ins, hlen] at hL
      have e2 : zins p lo i = insI st.1 rc p i := by
        unfold insI
        rw [tw_len _ p lo h2 (fun j hj => by have := h3 j hj; simpa using this) (fun hlo => by have := h4 lo (Nat.le_refl _) hlo; simp only [decide_eq_false_iff_not]; exact this)]
      rw [e2] at hL
      have C := h.lst5 hc0 g hG' hL (by
        split
        · exact hzg (by assumption)
        · exact l3) (fun a ha => by
        unfold xm at ha
        obtain ⟨j, hj, e⟩ := List.mem_map.mp ha
        have hk0 := (h.w (i := 0) (by decide)).2.2.2.1
        have : j < k 0 := by
          rcases insI_mem hj with q | q
          · omega
          · exact hp j q
        rw [← e]; exact zgetD_mem (by omega))
      exact r_Su_insertSorted_68 (w _ _ _ _ _ C rfl)
  | succ d ih =>
    intro lo hi' hd h1 h2 h3 h4
    by_cases e : lo = hi'
    · exact ih lo hi' (by omega) h1 h2 h3 h4
    · refine r_Su_insertSorted_10 (br_f (nI_ge (by omega) (by omega)) ⟨ho, fo, f1, _, l1, l2.1, ?_⟩)
      rw [nI_add]
      have em : nI (lo + hi') / (2 : Int32) = nI ((lo + hi') / 2) := pk_div (d := 2) (by omega) (by omega) (by omega)
      rw [em]
      have hm : (lo + hi') / 2 < p.length := by omega
      refine c_get l2 (by rw [xm_len]; exact hm) ?_
      rw [xm_at hm]
      have hmk : p.getD ((lo + hi') / 2) 0 < k 0 := hp _ (zgetD_mem hm)
      have r1 := (h.rV (h.rx (i := 0) (by decide) hmk)).1
      have r2 := (h.rV (h.rx (i := 0) (by decide) hi)).1
      have r1' := r1
      rw [(hB _ hmk).1] at r1
      rw [(hB _ hi).1] at r2
      refine r_Su_insertSorted_35 ⟨r1.1, f2, c_cmpR f3 r1 r2 (fun x hx _ => r_Su_insertSorted_42 ?_)⟩
      obtain ⟨z1, z2, z3, z4, z5⟩ := zi0 x
      rw [hx] at z5
      refine br_c (fun q => ?_) (fun q => ?_)
      · have hgt := z5.mp q
        refine ih lo ((lo + hi') / 2) (by omega) (by omega) (by omega) h3 (fun j hj hjl => ?_)
        by_cases ej : j = (lo + hi') / 2
        · rw [ej]; omega
        · intro z
          have := cmpR_tr st.1 _ _ _ (hs ((lo + hi') / 2) j (by omega) hjl) z
          omega
      · have hle : cmpR st.1 (rc (p.getD ((lo + hi') / 2) 0)).2 (rc i).2 ≤ 0 := by
          exact Int.not_lt.mp (fun y => q (z5.mpr y))
        rw [nI_1]
        refine ih ((lo + hi') / 2 + 1) hi' (by omega) (by omega) h2 (fun j hj => ?_) h4
        by_cases ej : j = (lo + hi') / 2
        · rw [ej]; exact hle
        · exact cmpR_tr st.1 _ _ _ (hs j ((lo + hi') / 2) (by omega) hm) hle
theorem cc_ins {p : List Nat} {i : Nat} (h : CC E U K n I F J k X R N st pu cu (xm X p) cp D Sg) (hB : RB k X R N rc) (hp : ∀ j ∈ p, j < k 0) (hi : i < k 0) (hs : srt st.1 rc p) (hl : p.length < 150) (hb : p.length = cp → 1 ≤ cb ∧ 300 ≤ sb)
    (w : ∀ K' n' I' F' cp', CC E U K' n' I' F' J k X R N st pu cu (xm X (insI st.1 rc p i)) cp' D Sg → cp' = (if p.length = cp then zgrow cp else cp) → Q (.inl none) (K', n', I', F', J)) :
    AW E m_Su_insertSorted (K, n, I, F, J) cb sb Q 0 [some (.ref (uo U)), some (.ref ((X 0).getD i 0)), none, none, none] [] := by
  obtain ⟨l1, l2, l3, l4⟩ := h.l5
  refine r_Su_insertSorted_0 ⟨h.ro, _, l1, l2.1, c_size l2.1 l2.2.1 (r_Su_insertSorted_9 ?_)⟩
  rw [xm_len]
  exact cc_insL h hB hp hi hs hl hb w p.length 0 p.length (by omega) (by omega) (by omega) (fun j hj => by omega) (fun j h1 h2 => by omega)
/-- refuse(row) -/
theorem cc_refuse {i : Nat} {f : List (List Nat)} (h : CC E U K n I F J k X R N st pu cu pp cp D Sg) (hB : RB k X R N rc) (hf : cB k X R 2 f) (hi : i < k 0) (hl : f.length < 150) (hb : f.length = (X 2).length → 3 ≤ cb ∧ 405 ≤ sb)
    (w : ∀ K' n' I' F' X' R' N', CC E U K' n' I' F' J (va_up k 2 (f.length + 1)) X' R' N' st pu cu pp cp D Sg → RB (va_up k 2 (f.length + 1)) X' R' N' rc → cB (va_up k 2 (f.length + 1)) X' R' 2 (f ++ [(rc i).2]) → (∀ j, j ≠ 2 → X' j = X j) → (X' 2).length = max (X 2).length (f.length + 1) → (∀ j x, j < 4 → j ≠ 2 → x ∈ X j → R' x = R x ∧ N' x = N x) → R' (uhd U) = R (uhd U) → N' (uhd U) = N (uhd U) → Q (.inl none) (K', n', I', F', J)) :
    AW E m_Su_refuse (K, n, I, F, J) cb sb Q 0 [some (.ref (uo U)), some (.ref ((X 0).getD i 0)), none] [] := by
  obtain ⟨u1, u2, u3, u4, u5⟩ := h.w (i := 2) (by decide)
  have hk := hf.1
  have hk0 := (h.w (i := 0) (by decide)).2.2.2.1
  rw [hk] at w hb
  refine r_Su_refuse_0 ⟨h.ro, _, u1, u2, cb, sb, 0, 0, by omega, by omega, ?_⟩
  refine cc_add h (by decide) (fun _ z => hb z) (fun z => by omega) (fun z K' n' I' F' X' N' a C hN hX ea et hlX hor => ?_)
  refine r_Su_refuse_7 (sr0 := some a) ⟨fun e => (by cases e), fun z1 e => ?_⟩
  cases e
  have hX0 := hX 0 (by decide)
  have hkX2 : k 2 < (X' 2).length := by omega
  have haX : rws U X' a := by rw [← ea]; exact rws.at (by decide) hkX2
  have hne : ∀ t, t < (X 0).length → (X 0).getD t 0 ≠ a := fun t ht q => by
    rw [← ea, ← hX0] at q
    have := C.ne (i := 0) (j := 2) (by decide) (by decide) (by rw [hX0]; exact ht) hkX2 q
    omega
  have hir : rws U X' ((X 0).getD i 0) := by rw [← hX0]; exact rws.at (by decide) (by rw [hX0]; omega)
  have ra := C.rV haX
  have ri := C.rV hir
  have hine := hne i (by omega)
  rw [va_up_s] at ra
  rw [va_up_n _ _ hine, hN _ hine, (hB i hi).1, (hB i hi).2] at ri
  refine ⟨ra.1.1, c_become ra.1 ri.1 (fun q => hine q.symm) C.G (fun I2 g i2 i3 i4 hr => r_Su_refuse_17 ?_)⟩
  have C2 := C.row haX (g.mono (fun _ _ q => q)) (t := ((N' a).1, i, 1)) ⟨hr, by rw [i2]; exact ra.2.1, by rw [i3]; exact ri.2.2.1, by rw [i4]; exact ri.2.2.2⟩
  rw [va_up2] at C2
  have hoth : ∀ j x, j < 4 → j ≠ 2 → x ∈ X j → x ≠ a := fun j x hj hj2 hx q => by
    obtain ⟨cap, fo, c1, -⟩ := C
    rw [q, ← hX j hj2] at hx
    exact hj2 (c1.2.2.2.2.2.2.2.2.2.2.2.1 j 2 a hj (by decide) hx (by rw [← ea]; exact zgetD_mem hkX2))
  have hhd : uhd U ≠ a := fun q => by
    have := C.nh (i := 2) (t := k 2) (by decide) hkX2
    rw [ea] at this; exact this q.symm
  refine w K' n' I2 F' X' _ _ C2 (hB.up (va_up_n _ _ (by decide)) hX0 (fun t ht => ?_)) ⟨by rw [va_up_s]; simp; omega, fun t ht => ?_⟩ hX hlX (fun j x hj hj2 hx => ?_) ?_ ?_
  · have q := hne t (by omega)
    rw [va_up_n _ _ q, va_up_n _ _ q]; exact ⟨rfl, hN _ q⟩
  · rw [va_up_s] at ht
    by_cases e : t = k 2
    · rw [e, ea, va_up_s, ← hk]; simp [List.getD_eq_getElem?_getD]
    · have htk : t < k 2 := by omega
      have q : (X' 2).getD t 0 ≠ a := fun q => by
        rw [← ea] at q
        have := C.ne (i := 2) (j := 2) (by decide) (by decide) (by omega) hkX2 q
        omega
      rw [va_up_n _ _ q, et t htk, hf.2 t htk]
      simp [List.getD_eq_getElem?_getD, List.getElem?_append_left (show t < f.length by omega)]
  · have q := hoth j x hj hj2 hx
    rw [va_up_n _ _ q, va_up_n _ _ q]; exact ⟨rfl, hN _ q⟩
  · rw [va_up_n _ _ hhd]
  · rw [va_up_n _ _ hhd]; exact hN _ hhd
end
