section
variable {E : zE} {K0 K n : Nat → Nat} {I : Nat → Nat → Int32} {F : Nat → Nat → Option Nat} {J : Nat → Nat → Int64} {cb sb : Nat} {Q : zO → zH → Prop} {rd sg L p fo m : Nat} {x : zTx} {st : zStm}
theorem c_addK {l v : Nat} {k : zKey} (hI : rI E K0 K n I F rd sg L x fo m st p) (hl : F fo 0 = some l) (hv : cK K n I F v k) (hlen0 : st.1.length ≤ 20) (hcb : 1 ≤ cb) (hsb : 45 ≤ sb)
    (w : ∀ K' n' I' F', GR (fun a => K0 a = 0) (K, n, I, F, J) (K', n', I', F', J) → rI E K0 K' n' I' F' rd sg L x fo m (st.1 ++ [k], st.2) p → F' fo = F fo → Q (.inl (some (.int 1))) (K', n', I', F', J)) :
    AW E m_ArrayList_add (K, n, I, F, J) cb sb Q 0 [some (.ref l), some (.ref v)] [] := by
  refine aw_c0 (fun hc0 => ?_)
  obtain ⟨h1, h2, h3, h4, h5, h6, h7, h8, hG, hS⟩ := id hI
  obtain ⟨s1, s2, s3, s4, s5, s6, s7, s8, l0, l1, l2, l3, f0, f1, f2, f3, ⟨xs, cap, hL, hcap, hlen, hC⟩, a1, a2, a3⟩ := hS
  have hll : l0 = l := Option.some.inj (f0.symm.trans hl)
  subst hll
  have hlK := hL.1
  have hle := hL.2.2.1
  refine c_add hL hG (Or.inl hv.1) (by omega) (fun z => ⟨hcb, Nat.le_trans (zgrow_le (by omega)) hsb⟩) (fun K' n' I' F' g hG' hL' hfr => ?_)
  have g : GR (SL K F l0) (K, n, I, F, J) (K', n', I', F', J) := g
  have hSK : ∀ a, K a ≠ 0 → SL K F l0 a → K a ≠ 1 ∧ K a ≠ 2 ∧ K a ≠ 7 ∧ K a ≠ 20 := fun a _ z => SL_K hlK z
  have hcap' : (if xs.length = cap then zgrow cap else cap) ≤ 100 := by
    split
    · have := zgrow_le (c := cap) (by omega); omega
    · exact hcap
  obtain ⟨c1, c2, c3, c4, c5, c6, c7, c8, c9⟩ := hI.ctx (j := 0) (by decide) hl g hG' (fun e he hk => by
    by_cases hz : K e = 0
    · exact Nat.eq_zero_of_not_pos (fun z => h3 e (by omega) hz)
    · rcases hfr e he with y | y
      · exact (h8.2 0 _ (by decide) hl).2.2 e y (by rw [← g.k hz]; exact hk)
      · exact absurd y hz)
  refine w K' n' I' F' c6 ⟨c1, h2, c2, c3, h5, c4, h7, c5, hG', c7, ?_, ?_, ?_, ?_, s6, s7, s8, l0, l1, l2, l3, ?_, ?_, ?_, ?_, ?_, ?_, ?_, ?_⟩ c9
  · rw [c8]; exact s2
  · rw [c8]; exact s3
  · rw [c8]; exact s4
  · rw [c8]; exact s5
  · rw [c9]; exact f0
  · rw [c9]; exact f1
  · rw [c9]; exact f2
  · rw [c9]; exact f3
  · exact cA.grow (C := cK K n I F) hlen hC hL' hcap' (hv.frK g hG hSK) (fun a t q => q.frK g hG hSK)
  · exact a1.other g hlK (fun z => absurd (h8.1 1 0 _ (by decide) (by decide) (z ▸ f1) f0) (by decide)) hG hc0 (fun a t q => q.frK g hG hSK)
  · exact a2.other g hlK (fun z => absurd (h8.1 2 0 _ (by decide) (by decide) (z ▸ f2) f0) (by decide)) hG hc0 (fun a t q => q.frK g hG hSK)
  · exact a3.other g hlK (fun z => absurd (h8.1 3 0 _ (by decide) (by decide) (z ▸ f3) f0) (by decide)) hG hc0 (fun a t q => q.frK g hG hSK)
theorem c_addT {l v : Nat} {k : zTest} (hI : rI E K0 K n I F rd sg L x fo m st p) (hl : F fo 1 = some l) (hv : cT K n I F v k) (hlen0 : st.2.1.length ≤ 20) (hcb : 1 ≤ cb) (hsb : 45 ≤ sb)
    (w : ∀ K' n' I' F', GR (fun a => K0 a = 0) (K, n, I, F, J) (K', n', I', F', J) → rI E K0 K' n' I' F' rd sg L x fo m (st.1, st.2.1 ++ [k], st.2.2) p → F' fo = F fo → Q (.inl (some (.int 1))) (K', n', I', F', J)) :
    AW E m_ArrayList_add (K, n, I, F, J) cb sb Q 0 [some (.ref l), some (.ref v)] [] := by
  refine aw_c0 (fun hc0 => ?_)
  obtain ⟨h1, h2, h3, h4, h5, h6, h7, h8, hG, hS⟩ := id hI
  obtain ⟨s1, s2, s3, s4, s5, s6, s7, s8, l0, l1, l2, l3, f0, f1, f2, f3, a0, ⟨xs, cap, hL, hcap, hlen, hC⟩, a2, a3⟩ := hS
  have hll : l1 = l := Option.some.inj (f1.symm.trans hl)
  subst hll
  have hlK := hL.1
  have hle := hL.2.2.1
  refine c_add hL hG ((fun h => Or.inr (Or.inr (Or.inr h))) hv.1) (by omega) (fun z => ⟨hcb, Nat.le_trans (zgrow_le (by omega)) hsb⟩) (fun K' n' I' F' g hG' hL' hfr => ?_)
  have g : GR (SL K F l1) (K, n, I, F, J) (K', n', I', F', J) := g
  have hSK : ∀ a, K a ≠ 0 → SL K F l1 a → K a ≠ 1 ∧ K a ≠ 2 ∧ K a ≠ 7 ∧ K a ≠ 20 := fun a _ z => SL_K hlK z
  have hcap' : (if xs.length = cap then zgrow cap else cap) ≤ 100 := by
    split
    · have := zgrow_le (c := cap) (by omega); omega
    · exact hcap
  obtain ⟨c1, c2, c3, c4, c5, c6, c7, c8, c9⟩ := hI.ctx (j := 1) (by decide) hl g hG' (fun e he hk => by
    by_cases hz : K e = 0
    · exact Nat.eq_zero_of_not_pos (fun z => h3 e (by omega) hz)
    · rcases hfr e he with y | y
      · exact (h8.2 1 _ (by decide) hl).2.2 e y (by rw [← g.k hz]; exact hk)
      · exact absurd y hz)
  refine w K' n' I' F' c6 ⟨c1, h2, c2, c3, h5, c4, h7, c5, hG', c7, ?_, ?_, ?_, ?_, s6, s7, s8, l0, l1, l2, l3, ?_, ?_, ?_, ?_, ?_, ?_, ?_, ?_⟩ c9
  · rw [c8]; exact s2
  · rw [c8]; exact s3
  · rw [c8]; exact s4
  · rw [c8]; exact s5
  · rw [c9]; exact f0
  · rw [c9]; exact f1
  · rw [c9]; exact f2
  · rw [c9]; exact f3
  · exact a0.other g hlK (fun z => absurd (h8.1 0 1 _ (by decide) (by decide) (z ▸ f0) f1) (by decide)) hG hc0 (fun a t q => q.frK g hG hSK)
  · exact cA.grow (C := cT K n I F) hlen hC hL' hcap' (hv.frK g hG hSK) (fun a t q => q.frK g hG hSK)
  · exact a2.other g hlK (fun z => absurd (h8.1 2 1 _ (by decide) (by decide) (z ▸ f2) f1) (by decide)) hG hc0 (fun a t q => q.frK g hG hSK)
  · exact a3.other g hlK (fun z => absurd (h8.1 3 1 _ (by decide) (by decide) (z ▸ f3) f1) (by decide)) hG hc0 (fun a t q => q.frK g hG hSK)
theorem c_addS {l v : Nat} {k : zPart} (hI : rI E K0 K n I F rd sg L x fo m st p) (hl : F fo 2 = some l) (hv : cP K n I F v k) (hlen0 : st.2.2.1.length ≤ 20) (hcb : 1 ≤ cb) (hsb : 45 ≤ sb)
    (w : ∀ K' n' I' F', GR (fun a => K0 a = 0) (K, n, I, F, J) (K', n', I', F', J) → rI E K0 K' n' I' F' rd sg L x fo m (st.1, st.2.1, st.2.2.1 ++ [k], st.2.2.2) p → F' fo = F fo → Q (.inl (some (.int 1))) (K', n', I', F', J)) :
    AW E m_ArrayList_add (K, n, I, F, J) cb sb Q 0 [some (.ref l), some (.ref v)] [] := by
  refine aw_c0 (fun hc0 => ?_)
  obtain ⟨h1, h2, h3, h4, h5, h6, h7, h8, hG, hS⟩ := id hI
  obtain ⟨s1, s2, s3, s4, s5, s6, s7, s8, l0, l1, l2, l3, f0, f1, f2, f3, a0, a1, ⟨xs, cap, hL, hcap, hlen, hC⟩, a3⟩ := hS
  have hll : l2 = l := Option.some.inj (f2.symm.trans hl)
  subst hll
  have hlK := hL.1
  have hle := hL.2.2.1
  refine c_add hL hG ((fun h => Or.inr (Or.inl h)) hv.1) (by omega) (fun z => ⟨hcb, Nat.le_trans (zgrow_le (by omega)) hsb⟩) (fun K' n' I' F' g hG' hL' hfr => ?_)
  have g : GR (SL K F l2) (K, n, I, F, J) (K', n', I', F', J) := g
  have hSK : ∀ a, K a ≠ 0 → SL K F l2 a → K a ≠ 1 ∧ K a ≠ 2 ∧ K a ≠ 7 ∧ K a ≠ 20 := fun a _ z => SL_K hlK z
  have hcap' : (if xs.length = cap then zgrow cap else cap) ≤ 100 := by
    split
    · have := zgrow_le (c := cap) (by omega); omega
    · exact hcap
  obtain ⟨c1, c2, c3, c4, c5, c6, c7, c8, c9⟩ := hI.ctx (j := 2) (by decide) hl g hG' (fun e he hk => by
    by_cases hz : K e = 0
    · exact Nat.eq_zero_of_not_pos (fun z => h3 e (by omega) hz)
    · rcases hfr e he with y | y
      · exact (h8.2 2 _ (by decide) hl).2.2 e y (by rw [← g.k hz]; exact hk)
      · exact absurd y hz)
  refine w K' n' I' F' c6 ⟨c1, h2, c2, c3, h5, c4, h7, c5, hG', c7, ?_, ?_, ?_, ?_, s6, s7, s8, l0, l1, l2, l3, ?_, ?_, ?_, ?_, ?_, ?_, ?_, ?_⟩ c9
  · rw [c8]; exact s2
  · rw [c8]; exact s3
  · rw [c8]; exact s4
  · rw [c8]; exact s5
  · rw [c9]; exact f0
  · rw [c9]; exact f1
  · rw [c9]; exact f2
  · rw [c9]; exact f3
  · exact a0.other g hlK (fun z => absurd (h8.1 0 2 _ (by decide) (by decide) (z ▸ f0) f2) (by decide)) hG hc0 (fun a t q => q.frK g hG hSK)
  · exact a1.other g hlK (fun z => absurd (h8.1 1 2 _ (by decide) (by decide) (z ▸ f1) f2) (by decide)) hG hc0 (fun a t q => q.frK g hG hSK)
  · exact cA.grow (C := cP K n I F) hlen hC hL' hcap' (hv.frK g hG hSK) (fun a t q => q.frK g hG hSK)
  · exact a3.other g hlK (fun z => absurd (h8.1 3 2 _ (by decide) (by decide) (z ▸ f3) f2) (by decide)) hG hc0 (fun a t q => q.frK g hG hSK)
theorem c_addP {l v : Nat} {k : zPart} (hI : rI E K0 K n I F rd sg L x fo m st p) (hl : F fo 3 = some l) (hv : cP K n I F v k) (hlen0 : st.2.2.2.1.length ≤ 20) (hcb : 1 ≤ cb) (hsb : 45 ≤ sb)
    (w : ∀ K' n' I' F', GR (fun a => K0 a = 0) (K, n, I, F, J) (K', n', I', F', J) → rI E K0 K' n' I' F' rd sg L x fo m (st.1, st.2.1, st.2.2.1, st.2.2.2.1 ++ [k], st.2.2.2.2) p → F' fo = F fo → Q (.inl (some (.int 1))) (K', n', I', F', J)) :
    AW E m_ArrayList_add (K, n, I, F, J) cb sb Q 0 [some (.ref l), some (.ref v)] [] := by
  refine aw_c0 (fun hc0 => ?_)
  obtain ⟨h1, h2, h3, h4, h5, h6, h7, h8, hG, hS⟩ := id hI
  obtain ⟨s1, s2, s3, s4, s5, s6, s7, s8, l0, l1, l2, l3, f0, f1, f2, f3, a0, a1, a2, ⟨xs, cap, hL, hcap, hlen, hC⟩⟩ := hS
  have hll : l3 = l := Option.some.inj (f3.symm.trans hl)
  subst hll
  have hlK := hL.1
  have hle := hL.2.2.1
  refine c_add hL hG ((fun h => Or.inr (Or.inl h)) hv.1) (by omega) (fun z => ⟨hcb, Nat.le_trans (zgrow_le (by omega)) hsb⟩) (fun K' n' I' F' g hG' hL' hfr => ?_)
  have g : GR (SL K F l3) (K, n, I, F, J) (K', n', I', F', J) := g
  have hSK : ∀ a, K a ≠ 0 → SL K F l3 a → K a ≠ 1 ∧ K a ≠ 2 ∧ K a ≠ 7 ∧ K a ≠ 20 := fun a _ z => SL_K hlK z
  have hcap' : (if xs.length = cap then zgrow cap else cap) ≤ 100 := by
    split
    · have := zgrow_le (c := cap) (by omega); omega
    · exact hcap
  obtain ⟨c1, c2, c3, c4, c5, c6, c7, c8, c9⟩ := hI.ctx (j := 3) (by decide) hl g hG' (fun e he hk => by
    by_cases hz : K e = 0
    · exact Nat.eq_zero_of_not_pos (fun z => h3 e (by omega) hz)
    · rcases hfr e he with y | y
      · exact (h8.2 3 _ (by decide) hl).2.2 e y (by rw [← g.k hz]; exact hk)
      · exact absurd y hz)
  refine w K' n' I' F' c6 ⟨c1, h2, c2, c3, h5, c4, h7, c5, hG', c7, ?_, ?_, ?_, ?_, s6, s7, s8, l0, l1, l2, l3, ?_, ?_, ?_, ?_, ?_, ?_, ?_, ?_⟩ c9
  · rw [c8]; exact s2
  · rw [c8]; exact s3
  · rw [c8]; exact s4
  · rw [c8]; exact s5
  · rw [c9]; exact f0
  · rw [c9]; exact f1
  · rw [c9]; exact f2
  · rw [c9]; exact f3
  · exact a0.other g hlK (fun z => absurd (h8.1 0 3 _ (by decide) (by decide) (z ▸ f0) f3) (by decide)) hG hc0 (fun a t q => q.frK g hG hSK)
  · exact a1.other g hlK (fun z => absurd (h8.1 1 3 _ (by decide) (by decide) (z ▸ f1) f3) (by decide)) hG hc0 (fun a t q => q.frK g hG hSK)
  · exact a2.other g hlK (fun z => absurd (h8.1 2 3 _ (by decide) (by decide) (z ▸ f2) f3) (by decide)) hG hc0 (fun a t q => q.frK g hG hSK)
  · exact cA.grow (C := cP K n I F) hlen hC hL' hcap' (hv.frK g hG hSK) (fun a t q => q.frK g hG hSK)
end
