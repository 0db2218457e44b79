-- ===== new SortUtilityModel() =====
/-- the reference as it is being made; the array q for the field f is not stored yet -/
def MP (E : zE) (h0 : zH) (K n : Nat → Nat) (I : Nat → Nat → Int32) (F : Nat → Nat → Option Nat) (J : Nat → Nat → Int64) (m : Nat) (A : Nat → Nat) (S : List Nat) (f q : Nat) : Prop :=
  K m = 9 ∧ HG E K F ∧ I m = (fun _ => 0) ∧ (∀ g, g ∈ S → F m g = some (A g) ∧ K (A g) = 21 ∧ n (A g) = asz g ∧ I (A g) = fun _ => 0) ∧ (∀ g g', g ∈ S → g' ∈ S → A g = A g' → g = g') ∧ (K q = 21 ∧ n q = asz f ∧ I q = fun _ => 0) ∧ (∀ g, g ∈ S → A g ≠ q) ∧ GR (fun a => a = m) h0 (K, n, I, F, J)
section
variable {E : zE} {h0 : zH} {K n : Nat → Nat} {I : Nat → Nat → Int32} {F : Nat → Nat → Option Nat} {J : Nat → Nat → Int64} {m : Nat} {A : Nat → Nat} {S : List Nat} {f q q' : Nat}
theorem gr_z {S : Nat → Prop} {h : zH} (hg : GR S h0 h) (hq : h.1 q' = 0) : h0.1 q' = 0 := by
  apply Classical.byContradiction; intro z
  exact z ((hg q' z).1.symm.trans hq)
/-- q is stored -/
theorem MP.st (h : MP E h0 K n I F J m A S f q) (hf : f ∉ S) : K m = 9 ∧ HG E K (zup F m f (some q)) ∧ (∀ g, g ∈ f :: S → zup F m f (some q) m g = some (va_up A f q g) ∧ K (va_up A f q g) = 21 ∧ n (va_up A f q g) = asz g ∧ I (va_up A f q g) = fun _ => 0) ∧ (∀ g g', g ∈ f :: S → g' ∈ f :: S → va_up A f q g = va_up A f q g' → g = g') ∧ GR (fun a => a = m) h0 (K, n, I, zup F m f (some q), J) := by
  obtain ⟨h1, h2, h3, h4, h5, h6, h7, h8⟩ := h
  refine ⟨h1, h2.put m f _ (by omega) (by omega) (by omega), fun g hg => ?_, fun g g' hg hg' e => ?_, h8.tr (fun a _ => ⟨rfl, rfl, fun hn => ⟨rfl, zup_n _ _ _ hn, rfl⟩⟩)⟩
  · by_cases e : g = f
    · subst e; rw [va_up_s, zup_s]; exact ⟨rfl, h6⟩
    · have hgS : g ∈ S := by
        rcases List.mem_cons.mp hg with y | y
        · exact absurd y e
        · exact y
      rw [va_up_n _ _ e, zup_k _ _ _ e]; exact h4 g hgS
  · by_cases e1 : g = f <;> by_cases e2 : g' = f
    · rw [e1, e2]
    · have : g' ∈ S := by
        rcases List.mem_cons.mp hg' with y | y
        · exact absurd y e2
        · exact y
      rw [e1, va_up_s, va_up_n _ _ e2] at e; exact absurd e.symm (h7 g' this)
    · have : g ∈ S := by
        rcases List.mem_cons.mp hg with y | y
        · exact absurd y e1
        · exact y
      rw [e2, va_up_s, va_up_n _ _ e1] at e; exact absurd e (h7 g this)
    · have a1 : g ∈ S := by
        rcases List.mem_cons.mp hg with y | y
        · exact absurd y e1
        · exact y
      have a2 : g' ∈ S := by
        rcases List.mem_cons.mp hg' with y | y
        · exact absurd y e2
        · exact y
      rw [va_up_n _ _ e1, va_up_n _ _ e2] at e; exact h5 g g' a1 a2 e
theorem MP.nx {f' N : Nat} (h : MP E h0 K n I F J m A S f q) (hf : f ∉ S) (hq : K q' = 0) (hN : N = asz f') : MP E h0 (va_up K q' 21) (va_up n q' N) (va_up I q' (fun _ => 0)) (zup F m f (some q)) J m (va_up A f q) (f :: S) f' q' := by
  subst hN
  obtain ⟨s1, s2, s3, s4, s5⟩ := h.st hf
  obtain ⟨h1, h2, h3, h4, h5, h6, h7, h8⟩ := h
  have hm : m ≠ q' := fun z => by rw [z, hq] at h1; cases h1
  have hne : ∀ g, g ∈ f :: S → va_up A f q g ≠ q' := fun g hg z => by have := (s3 g hg).2.1; rw [z, hq] at this; cases this
  refine ⟨by rw [va_up_n _ _ hm]; exact h1, s2.newA 21 (Or.inr (Or.inl rfl)) hq, by rw [va_up_n _ _ hm]; exact h3, fun g hg => ?_, s4, ⟨va_up_s _ _ _, va_up_s _ _ _, va_up_s _ _ _⟩, hne, s5.trans (S' := fun a => a = m) (fun a ha => ?_) (fun _ _ z => z)⟩
  · obtain ⟨a1, a2, a3, a4⟩ := s3 g hg
    have hn := hne g hg
    exact ⟨a1, by rw [va_up_n _ _ hn]; exact a2, by rw [va_up_n _ _ hn]; exact a3, by rw [va_up_n _ _ hn]; exact a4⟩
  · have hn : a ≠ q' := fun z => ha (by show K a = 0; rw [z]; exact hq)
    exact ⟨va_up_n _ _ hn, va_up_n _ _ hn, fun _ => ⟨va_up_n _ _ hn, rfl, rfl⟩⟩
end
section
variable {E : zE} {K n : Nat → Nat} {I : Nat → Nat → Int32} {F : Nat → Nat → Option Nat} {J : Nat → Nat → Int64} {cb sb : Nat} {Q : zO → zH → Prop}
/-- its <init> -/
theorem mo_init {m : Nat} (hm : K m = 9) (hI : I m = fun _ => 0) (hG : HG E K F) (hcb : 40 ≤ cb) (hsb : 79775 ≤ sb)
    (w : ∀ K' n' I' F' J' A T, HG E K' F' → GR (fun a => a = m) (K, n, I, F, J) (K', n', I', F', J') → (∀ f, 0 < asz f → K (A f) = 0) → K (A 39) = 0 → MS (I', J') K' n' I' F' J' m A (fun _ _ => 0) T → Q (.inl none) (K', n', I', F', J')) :
    AW E m_Mo_init (K, n, I, F, J) cb sb Q 0 [some (.ref m)] [] := by
  refine r_Mo_init_0 ⟨cb - 1, sb - 500, by omega, by omega, fun q0 hq0 => ?_⟩
  have hm0 : m ≠ q0 := fun z => by rw [z, hq0] at hm; cases hm
  have P0 : MP E (K, n, I, F, J) (va_up K q0 21) (va_up n q0 500) (va_up I q0 (fun _ => 0)) F J m (fun _ => 0) [] 1 q0 := by
    refine ⟨by rw [va_up_n _ _ hm0]; exact hm, hG.newA 21 (Or.inr (Or.inl rfl)) hq0, by rw [va_up_n _ _ hm0]; exact hI, fun g hg => (by cases hg), fun g g' hg => (by cases hg), ⟨va_up_s _ _ _, va_up_s _ _ _, va_up_s _ _ _⟩, fun g hg => (by cases hg), fun a ha => ?_⟩
    have hn : a ≠ q0 := fun z => ha (by show K a = 0; rw [z]; exact hq0)
    exact ⟨va_up_n _ _ hn, va_up_n _ _ hn, fun _ => ⟨va_up_n _ _ hn, rfl, rfl⟩⟩
  have N0 : K q0 = 0 := hq0
  refine r_Mo_init_10 ⟨P0.1, cb - 2, sb - 514, by omega, by omega, fun q1 hq1 => ?_⟩
  have N1 : K q1 = 0 := gr_z P0.2.2.2.2.2.2.2 hq1
  have P1 := P0.nx (f' := 4) (N := 14) (by decide) hq1 rfl
  refine r_Mo_init_18 ⟨P1.1, cb - 3, sb - 524, by omega, by omega, fun q2 hq2 => ?_⟩
  have N2 : K q2 = 0 := gr_z P1.2.2.2.2.2.2.2 hq2
  have P2 := P1.nx (f' := 5) (N := 10) (by decide) hq2 rfl
  refine r_Mo_init_26 ⟨P2.1, cb - 4, sb - 528, by omega, by omega, fun q3 hq3 => ?_⟩
  have N3 : K q3 = 0 := gr_z P2.2.2.2.2.2.2.2 hq3
  have P3 := P2.nx (f' := 6) (N := 4) (by decide) hq3 rfl
  refine r_Mo_init_33 ⟨P3.1, cb - 5, sb - 576, by omega, by omega, fun q4 hq4 => ?_⟩
  have N4 : K q4 = 0 := gr_z P3.2.2.2.2.2.2.2 hq4
  have P4 := P3.nx (f' := 7) (N := 48) (by decide) hq4 rfl
  refine r_Mo_init_41 ⟨P4.1, cb - 6, sb - 696, by omega, by omega, fun q5 hq5 => ?_⟩
  have N5 : K q5 = 0 := gr_z P4.2.2.2.2.2.2.2 hq5
  have P5 := P4.nx (f' := 8) (N := 120) (by decide) hq5 rfl
  refine r_Mo_init_49 ⟨P5.1, cb - 7, sb - 712, by omega, by omega, fun q6 hq6 => ?_⟩
  have N6 : K q6 = 0 := gr_z P5.2.2.2.2.2.2.2 hq6
  have P6 := P5.nx (f' := 9) (N := 16) (by decide) hq6 rfl
  refine r_Mo_init_57 ⟨P6.1, cb - 8, sb - 760, by omega, by omega, fun q7 hq7 => ?_⟩
  have N7 : K q7 = 0 := gr_z P6.2.2.2.2.2.2.2 hq7
  have P7 := P6.nx (f' := 10) (N := 48) (by decide) hq7 rfl
  refine r_Mo_init_65 ⟨P7.1, cb - 9, sb - 1640, by omega, by omega, fun q8 hq8 => ?_⟩
  have N8 : K q8 = 0 := gr_z P7.2.2.2.2.2.2.2 hq8
  have P8 := P7.nx (f' := 11) (N := 880) (by decide) hq8 rfl
  refine r_Mo_init_74 ⟨P8.1, cb - 10, sb - 16640, by omega, by omega, fun q9 hq9 => ?_⟩
  have N9 : K q9 = 0 := gr_z P8.2.2.2.2.2.2.2 hq9
  have P9 := P8.nx (f' := 12) (N := 15000) (by decide) hq9 rfl
  refine r_Mo_init_83 ⟨P9.1, cb - 11, sb - 16790, by omega, by omega, fun q10 hq10 => ?_⟩
  have N10 : K q10 = 0 := gr_z P9.2.2.2.2.2.2.2 hq10
  have P10 := P9.nx (f' := 13) (N := 150) (by decide) hq10 rfl
  refine r_Mo_init_92 ⟨P10.1, cb - 12, sb - 16940, by omega, by omega, fun q11 hq11 => ?_⟩
  have N11 : K q11 = 0 := gr_z P10.2.2.2.2.2.2.2 hq11
  have P11 := P10.nx (f' := 14) (N := 150) (by decide) hq11 rfl
  refine r_Mo_init_101 ⟨P11.1, cb - 13, sb - 31940, by omega, by omega, fun q12 hq12 => ?_⟩
  have N12 : K q12 = 0 := gr_z P11.2.2.2.2.2.2.2 hq12
  have P12 := P11.nx (f' := 19) (N := 15000) (by decide) hq12 rfl
  refine r_Mo_init_110 ⟨P12.1, cb - 14, sb - 32090, by omega, by omega, fun q13 hq13 => ?_⟩
  have N13 : K q13 = 0 := gr_z P12.2.2.2.2.2.2.2 hq13
  have P13 := P12.nx (f' := 20) (N := 150) (by decide) hq13 rfl
  refine r_Mo_init_119 ⟨P13.1, cb - 15, sb - 32240, by omega, by omega, fun q14 hq14 => ?_⟩
  have N14 : K q14 = 0 := gr_z P13.2.2.2.2.2.2.2 hq14
  have P14 := P13.nx (f' := 21) (N := 150) (by decide) hq14 rfl
  refine r_Mo_init_128 ⟨P14.1, cb - 16, sb - 32390, by omega, by omega, fun q15 hq15 => ?_⟩
  have N15 : K q15 = 0 := gr_z P14.2.2.2.2.2.2.2 hq15
  have P15 := P14.nx (f' := 22) (N := 150) (by decide) hq15 rfl
  refine r_Mo_init_137 ⟨P15.1, cb - 17, sb - 32540, by omega, by omega, fun q16 hq16 => ?_⟩
  have N16 : K q16 = 0 := gr_z P15.2.2.2.2.2.2.2 hq16
  have P16 := P15.nx (f' := 23) (N := 150) (by decide) hq16 rfl
  refine r_Mo_init_146 ⟨P16.1, cb - 18, sb - 77540, by omega, by omega, fun q17 hq17 => ?_⟩
  have N17 : K q17 = 0 := gr_z P16.2.2.2.2.2.2.2 hq17
  have P17 := P16.nx (f' := 24) (N := 45000) (by decide) hq17 rfl
  refine r_Mo_init_154 ⟨P17.1, cb - 19, sb - 77990, by omega, by omega, fun q18 hq18 => ?_⟩
  have N18 : K q18 = 0 := gr_z P17.2.2.2.2.2.2.2 hq18
  have P18 := P17.nx (f' := 25) (N := 450) (by decide) hq18 rfl
  refine r_Mo_init_163 ⟨P18.1, cb - 20, sb - 77993, by omega, by omega, fun q19 hq19 => ?_⟩
  have N19 : K q19 = 0 := gr_z P18.2.2.2.2.2.2.2 hq19
  have P19 := P18.nx (f' := 26) (N := 3) (by decide) hq19 rfl
  refine r_Mo_init_170 ⟨P19.1, cb - 21, sb - 78143, by omega, by omega, fun q20 hq20 => ?_⟩
  have N20 : K q20 = 0 := gr_z P19.2.2.2.2.2.2.2 hq20
  have P20 := P19.nx (f' := 27) (N := 150) (by decide) hq20 rfl
  refine r_Mo_init_179 ⟨P20.1, cb - 22, sb - 78293, by omega, by omega, fun q21 hq21 => ?_⟩
  have N21 : K q21 = 0 := gr_z P20.2.2.2.2.2.2.2 hq21
  have P21 := P20.nx (f' := 28) (N := 150) (by decide) hq21 rfl
  refine r_Mo_init_188 ⟨P21.1, cb - 23, sb - 78443, by omega, by omega, fun q22 hq22 => ?_⟩
  have N22 : K q22 = 0 := gr_z P21.2.2.2.2.2.2.2 hq22
  have P22 := P21.nx (f' := 29) (N := 150) (by decide) hq22 rfl
  refine r_Mo_init_197 ⟨P22.1, cb - 24, sb - 78450, by omega, by omega, fun q23 hq23 => ?_⟩
  have N23 : K q23 = 0 := gr_z P22.2.2.2.2.2.2.2 hq23
  have P23 := P22.nx (f' := 31) (N := 7) (by decide) hq23 rfl
  refine r_Mo_init_205 ⟨P23.1, cb - 25, sb - 78455, by omega, by omega, fun q24 hq24 => ?_⟩
  have N24 : K q24 = 0 := gr_z P23.2.2.2.2.2.2.2 hq24
  have P24 := P23.nx (f' := 32) (N := 5) (by decide) hq24 rfl
  refine r_Mo_init_212 ⟨P24.1, cb - 26, sb - 78457, by omega, by omega, fun q25 hq25 => ?_⟩
  have N25 : K q25 = 0 := gr_z P24.2.2.2.2.2.2.2 hq25
  have P25 := P24.nx (f' := 33) (N := 2) (by decide) hq25 rfl
  refine r_Mo_init_219 ⟨P25.1, cb - 27, sb - 78505, by omega, by omega, fun q26 hq26 => ?_⟩
  have N26 : K q26 = 0 := gr_z P25.2.2.2.2.2.2.2 hq26
  have P26 := P25.nx (f' := 34) (N := 48) (by decide) hq26 rfl
  refine r_Mo_init_227 ⟨P26.1, cb - 28, sb - 78625, by omega, by omega, fun q27 hq27 => ?_⟩
  have N27 : K q27 = 0 := gr_z P26.2.2.2.2.2.2.2 hq27
  have P27 := P26.nx (f' := 35) (N := 120) (by decide) hq27 rfl
  refine r_Mo_init_235 ⟨P27.1, cb - 29, sb - 78641, by omega, by omega, fun q28 hq28 => ?_⟩
  have N28 : K q28 = 0 := gr_z P27.2.2.2.2.2.2.2 hq28
  have P28 := P27.nx (f' := 36) (N := 16) (by decide) hq28 rfl
  refine r_Mo_init_243 ⟨P28.1, cb - 30, sb - 78689, by omega, by omega, fun q29 hq29 => ?_⟩
  have N29 : K q29 = 0 := gr_z P28.2.2.2.2.2.2.2 hq29
  have P29 := P28.nx (f' := 37) (N := 48) (by decide) hq29 rfl
  refine r_Mo_init_251 ⟨P29.1, cb - 31, sb - 79569, by omega, by omega, fun q30 hq30 => ?_⟩
  have N30 : K q30 = 0 := gr_z P29.2.2.2.2.2.2.2 hq30
  have P30 := P29.nx (f' := 38) (N := 880) (by decide) hq30 rfl
  -- the sums
  refine r_Mo_init_260 ⟨P30.1, cb - 32, sb - 79573, by omega, by omega, fun qL hqL => ?_⟩
  have NL : K qL = 0 := gr_z P30.2.2.2.2.2.2.2 hqL
  obtain ⟨s1, s2, s3, s4, s5⟩ := P30.st (by decide)
  have hI38 := P30.2.2.1
  generalize hKK : (va_up (va_up (va_up (va_up (va_up (va_up (va_up (va_up (va_up (va_up (va_up (va_up (va_up (va_up (va_up (va_up (va_up (va_up (va_up (va_up (va_up (va_up (va_up (va_up (va_up (va_up (va_up (va_up (va_up (va_up (va_up K q0 21) q1 21) q2 21) q3 21) q4 21) q5 21) q6 21) q7 21) q8 21) q9 21) q10 21) q11 21) q12 21) q13 21) q14 21) q15 21) q16 21) q17 21) q18 21) q19 21) q20 21) q21 21) q22 21) q23 21) q24 21) q25 21) q26 21) q27 21) q28 21) q29 21) q30 21) = K1 at *
  generalize hnn : (va_up (va_up (va_up (va_up (va_up (va_up (va_up (va_up (va_up (va_up (va_up (va_up (va_up (va_up (va_up (va_up (va_up (va_up (va_up (va_up (va_up (va_up (va_up (va_up (va_up (va_up (va_up (va_up (va_up (va_up (va_up n q0 500) q1 14) q2 10) q3 4) q4 48) q5 120) q6 16) q7 48) q8 880) q9 15000) q10 150) q11 150) q12 15000) q13 150) q14 150) q15 150) q16 150) q17 45000) q18 450) q19 3) q20 150) q21 150) q22 150) q23 7) q24 5) q25 2) q26 48) q27 120) q28 16) q29 48) q30 880) = n1 at *
  have nfr : ∀ g, g ∈ [38, 37, 36, 35, 34, 33, 32, 31, 29, 28, 27, 26, 25, 24, 23, 22, 21, 20, 19, 14, 13, 12, 11, 10, 9, 8, 7, 6, 5, 4, 1] → K ((va_up (va_up (va_up (va_up (va_up (va_up (va_up (va_up (va_up (va_up (va_up (va_up (va_up (va_up (va_up (va_up (va_up (va_up (va_up (va_up (va_up (va_up (va_up (va_up (va_up (va_up (va_up (va_up (va_up (va_up (va_up (fun _ => 0) 1 q0) 4 q1) 5 q2) 6 q3) 7 q4) 8 q5) 9 q6) 10 q7) 11 q8) 12 q9) 13 q10) 14 q11) 19 q12) 20 q13) 21 q14) 22 q15) 23 q16) 24 q17) 25 q18) 26 q19) 27 q20) 28 q21) 29 q22) 31 q23) 32 q24) 33 q25) 34 q26) 35 q27) 36 q28) 37 q29) 38 q30) g) = 0 := by
    have key : ∀ (A0 : Nat → Nat) (f q : Nat) (S : List Nat), K q = 0 → (∀ g, g ∈ S → K (A0 g) = 0) → ∀ g, g ∈ f :: S → K (va_up A0 f q g) = 0 := fun A0 f q S hq hS g hg => by
      by_cases e : g = f
      · subst e; rw [va_up_s]; exact hq
      · rw [va_up_n _ _ e]
        rcases List.mem_cons.mp hg with y | y
        · exact absurd y e
        · exact hS g y
    exact (key _ 38 q30 _ N30 (key _ 37 q29 _ N29 (key _ 36 q28 _ N28 (key _ 35 q27 _ N27 (key _ 34 q26 _ N26 (key _ 33 q25 _ N25 (key _ 32 q24 _ N24 (key _ 31 q23 _ N23 (key _ 29 q22 _ N22 (key _ 28 q21 _ N21 (key _ 27 q20 _ N20 (key _ 26 q19 _ N19 (key _ 25 q18 _ N18 (key _ 24 q17 _ N17 (key _ 23 q16 _ N16 (key _ 22 q15 _ N15 (key _ 21 q14 _ N14 (key _ 20 q13 _ N13 (key _ 19 q12 _ N12 (key _ 14 q11 _ N11 (key _ 13 q10 _ N10 (key _ 12 q9 _ N9 (key _ 11 q8 _ N8 (key _ 10 q7 _ N7 (key _ 9 q6 _ N6 (key _ 8 q5 _ N5 (key _ 7 q4 _ N4 (key _ 6 q3 _ N3 (key _ 5 q2 _ N2 (key _ 4 q1 _ N1 (key _ 1 q0 _ N0 (fun g hg => (by cases hg)))))))))))))))))))))))))))))))))
  generalize hAA : (va_up (va_up (va_up (va_up (va_up (va_up (va_up (va_up (va_up (va_up (va_up (va_up (va_up (va_up (va_up (va_up (va_up (va_up (va_up (va_up (va_up (va_up (va_up (va_up (va_up (va_up (va_up (va_up (va_up (va_up (va_up (fun _ => 0) 1 q0) 4 q1) 5 q2) 6 q3) 7 q4) 8 q5) 9 q6) 10 q7) 11 q8) 12 q9) 13 q10) 14 q11) 19 q12) 20 q13) 21 q14) 22 q15) 23 q16) 24 q17) 25 q18) 26 q19) 27 q20) 28 q21) 29 q22) 31 q23) 32 q24) 33 q25) 34 q26) 35 q27) 36 q28) 37 q29) 38 q30) = A1 at *
  clear hKK hnn
  have hmL : m ≠ qL := fun z => by rw [z, hqL] at s1; cases s1
  have hneL : ∀ g, g ∈ [38, 37, 36, 35, 34, 33, 32, 31, 29, 28, 27, 26, 25, 24, 23, 22, 21, 20, 19, 14, 13, 12, 11, 10, 9, 8, 7, 6, 5, 4, 1] → A1 g ≠ qL := fun g hg z => by have := (s3 g hg).2.1; rw [z, hqL] at this; cases this
  -- as if the sums were stored
  refine r_Mo_init_267 ⟨by rw [va_up_n _ _ hmL]; exact s1, cb - 33, sb - 79773, by omega, by omega, fun q40 hq40 => ?_⟩
  have hm40 : m ≠ q40 := fun z => by rw [z] at hmL; rw [← z, va_up_n _ _ (by rw [z]; exact hmL), s1] at hq40; cases hq40
  have h40L : q40 ≠ qL := fun z => by rw [z, va_up_s] at hq40; cases hq40
  have h40K : K1 q40 = 0 := by rwa [va_up_n _ _ h40L] at hq40
  have N40 : K q40 = 0 := gr_z s5 h40K
  have hne40 : ∀ g, g ∈ [38, 37, 36, 35, 34, 33, 32, 31, 29, 28, 27, 26, 25, 24, 23, 22, 21, 20, 19, 14, 13, 12, 11, 10, 9, 8, 7, 6, 5, 4, 1] → A1 g ≠ q40 := fun g hg z => by have := (s3 g hg).2.1; rw [z, h40K] at this; cases this
  refine r_Mo_init_276 ⟨by rw [va_up_n _ _ hm40, va_up_n _ _ hmL]; exact s1, cb - 34, sb - 79775, by omega, by omega, fun q41 hq41 => ?_⟩
  have h4140 : q41 ≠ q40 := fun z => by rw [z, va_up_s] at hq41; cases hq41
  have h41L : q41 ≠ qL := fun z => by rw [z, va_up_n _ _ (fun y => h40L y.symm), va_up_s] at hq41; cases hq41
  have h41K : K1 q41 = 0 := by rwa [va_up_n _ _ h4140, va_up_n _ _ h41L] at hq41
  have hm41 : m ≠ q41 := fun z => by rw [z, h41K] at s1; cases s1
  have N41 : K q41 = 0 := gr_z s5 h41K
  have hne41 : ∀ g, g ∈ [38, 37, 36, 35, 34, 33, 32, 31, 29, 28, 27, 26, 25, 24, 23, 22, 21, 20, 19, 14, 13, 12, 11, 10, 9, 8, 7, 6, 5, 4, 1] → A1 g ≠ q41 := fun g hg z => by have := (s3 g hg).2.1; rw [z, h41K] at this; cases this
  have hK9 : (va_up (va_up (va_up K1 qL 22) q40 21) q41 21) m = 9 := by rw [va_up_n _ _ hm41, va_up_n _ _ hm40, va_up_n _ _ hmL]; exact s1
  refine r_Mo_init_283 ⟨hK9, ?_⟩
  have memS : ∀ g, 0 < asz g → g ∈ [38, 37, 36, 35, 34, 33, 32, 31, 29, 28, 27, 26, 25, 24, 23, 22, 21, 20, 19, 14, 13, 12, 11, 10, 9, 8, 7, 6, 5, 4, 1] ∨ g = 40 ∨ g = 41 := by
    intro g hg
    by_cases h42 : g < 42
    · have : ∀ g, g < 42 → 0 < asz g → g ∈ [38, 37, 36, 35, 34, 33, 32, 31, 29, 28, 27, 26, 25, 24, 23, 22, 21, 20, 19, 14, 13, 12, 11, 10, 9, 8, 7, 6, 5, 4, 1] ∨ g = 40 ∨ g = 41 := by decide +kernel
      exact this g h42 hg
    · exfalso
      unfold asz at hg
      rw [List.getD_eq_getElem?_getD, List.getElem?_eq_none (by simp; omega)] at hg
      exact absurd hg (by decide)
  have n39 : (39 : Nat) ∉ [38, 37, 36, 35, 34, 33, 32, 31, 29, 28, 27, 26, 25, 24, 23, 22, 21, 20, 19, 14, 13, 12, 11, 10, 9, 8, 7, 6, 5, 4, 1] := by decide
  have n40 : (40 : Nat) ∉ [38, 37, 36, 35, 34, 33, 32, 31, 29, 28, 27, 26, 25, 24, 23, 22, 21, 20, 19, 14, 13, 12, 11, 10, 9, 8, 7, 6, 5, 4, 1] := by decide
  have n41 : (41 : Nat) ∉ [38, 37, 36, 35, 34, 33, 32, 31, 29, 28, 27, 26, 25, 24, 23, 22, 21, 20, 19, 14, 13, 12, 11, 10, 9, 8, 7, 6, 5, 4, 1] := by decide
  let AF := va_up (va_up (va_up A1 39 qL) 40 q40) 41 q41
  have AFs : ∀ g, g ∈ [38, 37, 36, 35, 34, 33, 32, 31, 29, 28, 27, 26, 25, 24, 23, 22, 21, 20, 19, 14, 13, 12, 11, 10, 9, 8, 7, 6, 5, 4, 1] → AF g = A1 g := fun g hg => by
    show va_up (va_up (va_up A1 39 qL) 40 q40) 41 q41 g = A1 g
    rw [va_up_n _ _ (fun z => n41 (by rw [← z]; exact hg)), va_up_n _ _ (fun z => n40 (by rw [← z]; exact hg)), va_up_n _ _ (fun z => n39 (by rw [← z]; exact hg))]
  have AF39 : AF 39 = qL := by show va_up (va_up (va_up A1 39 qL) 40 q40) 41 q41 39 = qL; rw [va_up_n _ _ (by decide), va_up_n _ _ (by decide), va_up_s]
  have AF40 : AF 40 = q40 := by show va_up (va_up (va_up A1 39 qL) 40 q40) 41 q41 40 = q40; rw [va_up_n _ _ (by decide), va_up_s]
  have AF41 : AF 41 = q41 := va_up_s _ _ _
  have hL40 : qL ≠ q40 := fun z => h40L z.symm
  have hL41 : qL ≠ q41 := fun z => h41L z.symm
  have h4041 : q40 ≠ q41 := fun z => h4140 z.symm
  refine w _ _ _ _ _ AF (fun _ => 0) ((((((s2.newA 22 (Or.inr (Or.inr rfl)) hqL).put m 39 _ (by rw [va_up_n _ _ hmL]; omega) (by rw [va_up_n _ _ hmL]; omega) (by rw [va_up_n _ _ hmL]; omega)).newA 21 (Or.inr (Or.inl rfl)) hq40).put m 40 _ (by rw [va_up_n _ _ hm40, va_up_n _ _ hmL]; omega) (by rw [va_up_n _ _ hm40, va_up_n _ _ hmL]; omega) (by rw [va_up_n _ _ hm40, va_up_n _ _ hmL]; omega)).newA 21 (Or.inr (Or.inl rfl)) hq41).put m 41 _ (by omega) (by omega) (by omega)) (s5.trans (S' := fun a => a = m) (fun a ha => ?_) (fun _ _ z => z)) (fun f hf => ?_) (by rw [AF39]; exact NL) ⟨⟨hK9, fun f hf => ?_, fun f g hf hg e => ?_, ?_, ?_, ?_⟩, ?_, fun f hf => ?_, ?_, fun a _ _ => rfl, fun a _ => rfl⟩
  · have a1 : a ≠ qL := fun z => ha (by show K1 a = 0; rw [z]; exact hqL)
    have a2 : a ≠ q40 := fun z => ha (by show K1 a = 0; rw [z]; exact h40K)
    have a3 : a ≠ q41 := fun z => ha (by show K1 a = 0; rw [z]; exact h41K)
    refine ⟨?_, ?_, fun hn => ⟨?_, ?_, ?_⟩⟩
    · show va_up (va_up (va_up K1 qL 22) q40 21) q41 21 a = K1 a
      rw [va_up_n _ _ a3, va_up_n _ _ a2, va_up_n _ _ a1]
    · show va_up (va_up (va_up n1 qL 4) q40 200) q41 2 a = n1 a
      rw [va_up_n _ _ a3, va_up_n _ _ a2, va_up_n _ _ a1]
    · show va_up (va_up _ q40 _) q41 _ a = _
      rw [va_up_n _ _ a3, va_up_n _ _ a2]
    · show zup (zup (zup _ m 39 _) m 40 _) m 41 _ a = _
      rw [zup_n _ _ _ hn, zup_n _ _ _ hn, zup_n _ _ _ hn]
    · show va_up J qL _ a = J a
      rw [va_up_n _ _ a1]
  · rcases memS f hf with y | y | y
    · rw [AFs f y]; exact nfr f y
    · rw [y, AF40]; exact N40
    · rw [y, AF41]; exact N41
  · rcases memS f hf with y | y | y
    · obtain ⟨b1, b2, b3, b4⟩ := s3 f y
      rw [AFs f y]
      refine ⟨?_, ?_, ?_⟩
      · rw [zup_k _ _ _ (fun z => n41 (by rw [← z]; exact y)), zup_k _ _ _ (fun z => n40 (by rw [← z]; exact y)), zup_k _ _ _ (fun z => n39 (by rw [← z]; exact y))]; exact b1
      · rw [va_up_n _ _ (hne41 f y), va_up_n _ _ (hne40 f y), va_up_n _ _ (hneL f y)]; exact b2
      · rw [va_up_n _ _ (hne41 f y), va_up_n _ _ (hne40 f y), va_up_n _ _ (hneL f y)]; exact b3
    · subst y
      rw [AF40]
      exact ⟨by rw [zup_k _ _ _ (by decide), zup_s], by rw [va_up_n _ _ h4041, va_up_s], by rw [va_up_n _ _ h4041, va_up_s]; rfl⟩
    · subst y
      rw [AF41]
      exact ⟨zup_s _ _ _ _, va_up_s _ _ _, va_up_s _ _ _⟩
  · rcases memS f hf with y | y | y <;> rcases memS g hg with y' | y' | y'
    · rw [AFs f y, AFs g y'] at e; exact s4 f g y y' e
    · rw [AFs f y, y', AF40] at e; exact absurd e (hne40 f y)
    · rw [AFs f y, y', AF41] at e; exact absurd e (hne41 f y)
    · rw [AFs g y', y, AF40] at e; exact absurd e.symm (hne40 g y')
    · rw [y, y']
    · rw [y, y', AF40, AF41] at e; exact absurd e h4041
    · rw [AFs g y', y, AF41] at e; exact absurd e.symm (hne41 g y')
    · rw [y, y', AF40, AF41] at e; exact absurd e.symm h4041
    · rw [y, y']
  · rw [AF39, zup_k _ _ _ (by decide), zup_k _ _ _ (by decide), zup_s]
  · rw [AF39, va_up_n _ _ hL41, va_up_n _ _ hL40, va_up_s]
  · rw [AF39, va_up_n _ _ hL41, va_up_n _ _ hL40, va_up_s]
  · rw [va_up_n _ _ hm41, va_up_n _ _ hm40]; exact hI38
  · rcases memS f hf with y | y | y
    · rw [AFs f y, va_up_n _ _ (hne41 f y), va_up_n _ _ (hne40 f y)]; exact (s3 f y).2.2.2
    · rw [y, AF40, va_up_n _ _ h4041, va_up_s]
    · rw [y, AF41, va_up_s]
  · rw [AF39, va_up_s]
end
