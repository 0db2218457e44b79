theorem nI_subneg {a b : Nat} (h : a < b) (hb : b < 2 ^ 31) : nI a - nI b < 0 := by
  rw [Int32.lt_iff_toInt_lt, Int32.toInt_sub, nI_toInt (by omega), nI_toInt hb]
  have e : ((a : Int) - (b : Int)).bmod (2 ^ 32) = (a : Int) - b := Int.bmod_eq_of_le (by omega) (by omega)
  rw [e]
  show (a : Int) - b < 0
  omega
theorem pickF_ge (st : zStm) (rc : zRec) : ∀ (d i s : Nat) (p : List Nat) (f : List (List Nat)), p.length ≤ (pickF st rc d i s p f).1.length ∧ f.length ≤ (pickF st rc d i s p f).2.length ∧ (pickF st rc d i s p f).1.length + (pickF st rc d i s p f).2.length ≤ p.length + f.length + d
  | 0, i, s, p, f => by unfold pickF; exact ⟨by simp, by simp, by simp⟩
  | d + 1, i, s, p, f => by
    unfold pickF
    by_cases h1 : (rc i).1 = 0
    · rw [if_pos h1]
      by_cases h2 : st.2.2.2.2.2.1 ≤ s ∧ s - st.2.2.2.2.2.1 < st.2.2.2.2.2.2.1
      · rw [if_pos h2]
        by_cases h3 : keepsB st (rc i).2 = true
        · rw [if_pos h3]
          have := pickF_ge st rc d (i + 1) (s + 1) (insI st.1 rc p i) f
          rw [insI_len] at this
          omega
        · rw [if_neg h3]
          have := pickF_ge st rc d (i + 1) (s + 1) p (f ++ [(rc i).2])
          rw [List.length_append, List.length_singleton] at this
          omega
      · rw [if_neg h2]
        have := pickF_ge st rc d (i + 1) (s + 1) p f
        omega
    · rw [if_neg h1]
      have := pickF_ge st rc d (i + 1) s p f
      omega
theorem pickF_ok (st : zStm) (rc : zRec) : ∀ (d i s : Nat) (p : List Nat) (f : List (List Nat)), (∀ j ∈ p, j < i) → srt st.1 rc p → (∀ j ∈ (pickF st rc d i s p f).1, j < i + d) ∧ srt st.1 rc (pickF st rc d i s p f).1
  | 0, i, s, p, f, h1, h2 => by unfold pickF; exact ⟨h1, h2⟩
  | d + 1, i, s, p, f, h1, h2 => by
    have go : ∀ s p f, (∀ j ∈ p, j < i + 1) → srt st.1 rc p → (∀ j ∈ (pickF st rc d (i + 1) s p f).1, j < i + (d + 1)) ∧ srt st.1 rc (pickF st rc d (i + 1) s p f).1 := fun s p f a1 a2 => by
      have := pickF_ok st rc d (i + 1) s p f a1 a2
      exact ⟨fun j hj => by have := this.1 j hj; omega, this.2⟩
    have h1' : ∀ j ∈ p, j < i + 1 := fun j hj => by have := h1 j hj; omega
    unfold pickF
    split
    · split
      · split
        · exact go _ _ _ (fun j hj => by rcases insI_mem hj with q | q; · omega
                                         · exact h1' j q) (srt_ins h2)
        · exact go _ _ _ h1' h2
      · exact go _ _ _ h1' h2
    · exact go _ _ _ h1' h2
section
variable {E : zE} {U : zU} {J : Nat → Nat → Int64} {Q : zO → zH → Prop} {st : zStm} {pu : List Nat} {cu : Nat} {D Sg : Nat → Int32} {rc : zRec}
theorem cc_pickL : ∀ (d i s : Nat) (p : List Nat) (f : List (List Nat)) (K n : Nat → Nat) (I : Nat → Nat → Int32) (F : Nat → Nat → Option Nat) (k : Nat → Nat) (X : Nat → List Nat) (R : Nat → List Nat) (N : Nat → Nat × Nat × Nat) (cp cb sb : Nat),
    CC E U K n I F J k X R N st pu cu (xm X p) cp D Sg → RB k X R N rc → cB k X R 2 f → (∀ j ∈ p, j < i) → srt st.1 rc p → p.length + f.length ≤ i → s ≤ i → i + d = k 0 → (∀ t, t < k 0 → (rc t).1 < 3) →
    3 * ((pickF st rc d i s p f).2.length - (X 2).length) + ((pickF st rc d i s p f).1.length - cp) ≤ cb → 405 * ((pickF st rc d i s p f).2.length - (X 2).length) + 300 * ((pickF st rc d i s p f).1.length - cp) ≤ sb →
    (∀ K' n' I' F' k' X' R' N' cp', CC E U K' n' I' F' J k' X' R' N' st pu cu (xm X' (pickF st rc d i s p f).1) cp' D Sg → RB k' X' R' N' rc → cB k' X' R' 2 (pickF st rc d i s p f).2 → (∀ j, j ≠ 2 → k' j = k j ∧ X' j = X j) → (X' 2).length = max (X 2).length (pickF st rc d i s p f).2.length → cp ≤ cp' → (∀ j x, j < 4 → j ≠ 2 → x ∈ X j → R' x = R x ∧ N' x = N x) → Q (.inl none) (K', n', I', F', J)) →
    AW E m_Su_pickRecords (K, n, I, F, J) cb sb Q 4 [some (.ref (uo U)), some (.int (nI s)), some (.int (nI i)), none, none] []
  | 0, i, s, p, f, K, n, I, F, k, X, R, N, cp, cb, sb, h, hB, hf, hp, hs, hpf, hsi, hd, hr3, hcb, hsb, w => by
    obtain ⟨u1, u2, u3, u4, u5⟩ := h.w (i := 0) (by decide)
    obtain ⟨v1, v2, v3, v4, v5⟩ := h.w (i := 2) (by decide)
    refine r_Su_pickRecords_4 ⟨h.ro, _, u1, u2, ?_⟩
    rw [u3]
    refine br_t ((nI_leI (by omega) (by omega)).mpr (by omega)) ?_
    unfold pickF at w
    have := hf.1
    exact w K n I F k X R N cp h hB hf (fun j _ => ⟨rfl, rfl⟩) (by show (X 2).length = max (X 2).length f.length; omega) (Nat.le_refl _) (fun _ _ _ _ _ => ⟨rfl, rfl⟩)
  | d + 1, i, s, p, f, K, n, I, F, k, X, R, N, cp, cb, sb, h, hB, hf, hp, hs, hpf, hsi, hd, hr3, hcb, hsb, w => by
    obtain ⟨u1, u2, u3, u4, u5⟩ := h.w (i := 0) (by decide)
    obtain ⟨v1, v2, v3, v4, v5⟩ := h.w (i := 2) (by decide)
    obtain ⟨l, cap, hW⟩ := h.at (i := 0) (by decide)
    obtain ⟨fo, f1, f2, f3⟩ := h.sta
    have hik : i < k 0 := by omega
    have hfl := hf.1
    refine r_Su_pickRecords_4 ⟨h.ro, _, u1, u2, ?_⟩
    rw [u3]
    refine br_f (nI_ge hik (by omega)) (c_atIn hW hik ?_)
    obtain ⟨r1, r2, r3, r4⟩ := h.rV (h.rx (i := 0) (by decide) hik)
    rw [(hB i hik).1] at r1
    rw [(hB i hik).2] at r2
    have hin := hr3 i hik
    refine r_Su_pickRecords_23 (sr0 := some _) ⟨fun e => (by cases e), fun z1 e => ?_⟩
    cases e
    refine ⟨r1.1, ?_⟩
    rw [r2]
    have skip : ∀ s' : Nat, s' ≤ i + 1 → pickF st rc (d + 1) i s p f = pickF st rc d (i + 1) s' p f → AW E m_Su_pickRecords (K, n, I, F, J) cb sb Q 96 [some (.ref (uo U)), some (.int (nI s')), some (.int (nI i)), none, none] [] := fun s' hs' e => by
      refine r_Su_pickRecords_96 ?_
      rw [nI_1]
      rw [e] at hcb hsb w
      exact cc_pickL d (i + 1) s' p f K n I F k X R N cp cb sb h hB hf (fun j hj => by have := hp j hj; omega) hs (by omega) hs' (by omega) hr3 hcb hsb w
    obtain ⟨c1, c2, c3, c4, c5, c6, c7, -⟩ := id f3
    refine br_c (fun e0 => ⟨h.ro, fo, f1, f2, ?_⟩) (fun e0 => ?_)
    · have h1 : (rc i).1 = 0 := by
        rw [← nI_0] at e0
        exact (nI_eq (by omega) (by omega)).mp e0
      rw [c3, c4, nI_1]
      by_cases h2 : st.2.2.2.2.2.1 ≤ s
      · rw [pk_sub h2]
        refine br_f (nI_pos (by omega)) (pk_lt (s - st.2.2.2.2.2.1) st.2.2.2.2.2.2.1 (fun h3 => ?_) (fun h3 => ?_) rfl rfl (by omega) (by omega))
        · have hpk : pickF st rc (d + 1) i s p f = if keepsB st (rc i).2 then pickF st rc d (i + 1) (s + 1) (insI st.1 rc p i) f else pickF st rc d (i + 1) (s + 1) p (f ++ [(rc i).2]) := by
            conv => lhs; unfold pickF
            rw [if_pos h1, if_pos ⟨h2, h3⟩]
          refine c_keeps f3 r1 (r_Su_pickRecords_80 ⟨fun e => ?_, fun e => ?_⟩)
          · have hkp : keepsB st (rc i).2 = false := (zB_0 _).mp e
            rw [hpk, hkp] at hcb hsb w
            simp only [Bool.false_eq_true, if_false] at hcb hsb w
            have hge := pickF_ge st rc d (i + 1) (s + 1) p (f ++ [(rc i).2])
            rw [List.length_append, List.length_singleton] at hge
            have hk2 : f.length ≤ (X 2).length := by omega
            refine ⟨h.ro, (if f.length = (X 2).length then 3 else 0), (if f.length = (X 2).length then 405 else 0), cb - (if f.length = (X 2).length then 3 else 0), sb - (if f.length = (X 2).length then 405 else 0), by split <;> omega, by split <;> omega, ?_⟩
            refine cc_refuse h hB hf hik (by omega) (fun q => by rw [if_pos q, if_pos q]; exact ⟨Nat.le_refl _, Nat.le_refl _⟩) (fun K' n' I' F' X' R' N' C' hB' hf' hX hl' ho1 ho2 ho3 => r_Su_pickRecords_96 ?_)
            rw [nI_1]
            have hX0 : xm X' p = xm X p := by unfold xm; rw [hX 0 (by decide)]
            refine cc_pickL d (i + 1) (s + 1) p _ K' n' I' F' _ X' R' N' cp _ _ (by rw [hX0]; exact C') hB' hf' (fun j hj => by have := hp j hj; omega) hs (by rw [List.length_append, List.length_singleton]; omega) (by omega) (by rw [va_up_n _ _ (by decide)]; omega) (by rw [va_up_n _ _ (by decide)]; exact hr3) ?_ ?_ (fun K2 n2 I2 F2 k2 X2 R2 N2 cp2 C2 hB2 hf2 hX2 hl2 hcp2 ho4 => ?_)
            · rw [hl']; split <;> omega
            · rw [hl']; split <;> omega
            · refine w K2 n2 I2 F2 k2 X2 R2 N2 cp2 C2 hB2 hf2 (fun j hj => ⟨by rw [(hX2 j hj).1, va_up_n _ _ hj], by rw [(hX2 j hj).2, hX j hj]⟩) (by rw [hl2, hl']; omega) hcp2 (fun j x hj hj2 hx => ?_)
              have q1 := ho1 j x hj hj2 hx
              have q2 := ho4 j x hj hj2 (by rw [hX j hj2]; exact hx)
              exact ⟨q2.1.trans q1.1, q2.2.trans q1.2⟩
          · have hkp : keepsB st (rc i).2 = true := by
              cases q : keepsB st (rc i).2
              · rw [q] at e; exact absurd rfl e
              · rfl
            rw [hpk, hkp] at hcb hsb w
            simp only [if_true] at hcb hsb w
            have hge := pickF_ge st rc d (i + 1) (s + 1) (insI st.1 rc p i) f
            rw [insI_len] at hge
            have hcpl : p.length ≤ cp := by have := (h.l5).2.1.2.2.1; rw [xm_len] at this; exact this
            have hc0 := (h.l5).2.1.cap0
            have hzg : p.length = cp → cp < zgrow cp := fun q => by
              unfold zgrow; split <;> omega
            refine ⟨h.ro, (if p.length = cp then 1 else 0), (if p.length = cp then 300 else 0), cb - (if p.length = cp then 1 else 0), sb - (if p.length = cp then 300 else 0), by split <;> omega, by split <;> omega, ?_⟩
            refine cc_ins h hB (fun j hj => by have := hp j hj; omega) hik hs (by omega) (fun q => by rw [if_pos q, if_pos q]; exact ⟨Nat.le_refl _, Nat.le_refl _⟩) (fun K' n' I' F' cp' C' hcp' => r_Su_pickRecords_88 (r_Su_pickRecords_96 ?_))
            rw [nI_1]
            have hcc : cp ≤ cp' := by
              rw [hcp']
              by_cases q : p.length = cp
              · rw [if_pos q]; have := hzg q; omega
              · rw [if_neg q]; exact Nat.le_refl _
            refine cc_pickL d (i + 1) (s + 1) _ f K' n' I' F' k X R N cp' _ _ C' hB hf (fun j hj => ?_) (srt_ins hs) (by rw [insI_len]; omega) (by omega) (by omega) hr3 ?_ ?_ (fun K2 n2 I2 F2 k2 X2 R2 N2 cp2 C2 hB2 hf2 hX2 hl2 hcp2 ho4 => w K2 n2 I2 F2 k2 X2 R2 N2 cp2 C2 hB2 hf2 hX2 hl2 (by omega) ho4)
            · rcases insI_mem hj with q | q
              · omega
              · have := hp j q; omega
            · rw [hcp']; split
              · have := hzg (by assumption); omega
              · omega
            · rw [hcp']; split
              · have := hzg (by assumption); omega
              · omega
        · refine skip (s + 1) (by omega) ?_
          conv => lhs; unfold pickF
          rw [if_pos h1, if_neg (fun z => by omega)]
      · refine br_t (nI_subneg (by omega) (by omega)) (skip (s + 1) (by omega) ?_)
        conv => lhs; unfold pickF
        rw [if_pos h1, if_neg (fun z => h2 z.1)]
    · refine skip s (by omega) ?_
      conv => lhs; unfold pickF
      rw [if_neg (fun z => e0 (by rw [z]; rfl))]
end
