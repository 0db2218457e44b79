/-- the rows w: their list l, the rows made so far, their number -/
def cW (E : zE) (K n : Nat → Nat) (I : Nat → Nat → Int32) (F : Nat → Nat → Option Nat) (w l : Nat) (xs : List Nat) (cap k : Nat) : Prop :=
  K w = 5 ∧ F w 0 = some l ∧ cL E K n I F l xs cap ∧ I w 1 = nI k ∧ k ≤ xs.length ∧ xs.length ≤ 150 ∧ cap ≤ 300 ∧ ∀ x ∈ xs, ∃ r, cR K n I F x r
theorem GR.newO {S : Nat → Prop} {K n : Nat → Nat} {I : Nat → Nat → Int32} {F : Nat → Nat → Option Nat} {J : Nat → Nat → Int64} {q : Nat} (hq : K q = 0) (k : Nat) (f : Nat → Int32) (g : Nat → Option Nat) : GR S (K, n, I, F, J) (va_up K q k, n, va_up I q f, va_up F q g, J) := fun a ha => by
  have haq : a ≠ q := fun z => ha (by show K a = 0; rw [z]; exact hq)
  exact ⟨va_up_n _ _ haq, rfl, fun _ => ⟨va_up_n _ _ haq, va_up_n _ _ haq, rfl⟩⟩
theorem GR.newB {S : Nat → Prop} {K n : Nat → Nat} {I : Nat → Nat → Int32} {F : Nat → Nat → Option Nat} {J : Nat → Nat → Int64} {q : Nat} (hq : K q = 0) (k N : Nat) (f : Nat → Int32) : GR S (K, n, I, F, J) (va_up K q k, va_up n q N, va_up I q f, F, J) := fun a ha => by
  have haq : a ≠ q := fun z => ha (by show K a = 0; rw [z]; exact hq)
  exact ⟨va_up_n _ _ haq, va_up_n _ _ haq, fun _ => ⟨va_up_n _ _ haq, rfl, rfl⟩⟩
section
variable {E : zE} {K n : Nat → Nat} {I : Nat → Nat → Int32} {F : Nat → Nat → Option Nat} {J : Nat → Nat → Int64} {cb sb : Nat} {Q : zO → zH → Prop}
theorem c_atIn {w l cap k i : Nat} {xs : List Nat} (hW : cW E K n I F w l xs cap k) (hi : i < k) (q : Q (.inl (some (.ref (xs.getD i 0)))) (K, n, I, F, J)) : AW E m_Rows_at (K, n, I, F, J) cb sb Q 0 [some (.ref w), some (.int (nI i))] [] := by
  obtain ⟨h1, h2, h3, h4, h5, h6, h7, h8⟩ := hW
  refine r_Rows_at_0 (br_f (nI_pos (by omega)) ⟨h1, ?_⟩)
  rw [h4]
  refine br_f (nI_ge hi (by omega)) ⟨l, h2, h3.1, c_get h3 (by omega) ?_⟩
  obtain ⟨r, hr⟩ := h8 _ (zgetD_mem (xs := xs) (i := i) (by omega))
  exact r_Rows_at_20 ⟨hr.1, q⟩
theorem c_atOut {w l cap k : Nat} {x : Int32} {xs : List Nat} (hW : cW E K n I F w l xs cap k) (hx : x < 0 ∨ nI k ≤ x) (q : Q (.inl (some (va_rf none))) (K, n, I, F, J)) : AW E m_Rows_at (K, n, I, F, J) cb sb Q 0 [some (.ref w), some (.int x)] [] := by
  obtain ⟨h1, h2, h3, h4, h5, h6, h7, h8⟩ := hW
  refine r_Rows_at_0 (br_c (fun _ => q) (fun z => ⟨h1, ?_⟩))
  rw [h4]
  rcases hx with hx | hx
  · exact absurd hx z
  · exact br_t hx q
theorem c_rowsClear {w l cap k : Nat} {xs : List Nat} (hW : cW E K n I F w l xs cap k) (q : ∀ I', GR (fun c => c = w) (K, n, I, F, J) (K, n, I', F, J) → cW E K n I' F w l xs cap 0 → Q (.inl none) (K, n, I', F, J)) : AW E m_Rows_clear (K, n, I, F, J) cb sb Q 0 [some (.ref w)] [] := by
  obtain ⟨h1, h2, h3, h4, h5, h6, h7, h8⟩ := hW
  have g : GR (fun c => c = w) (K, n, I, F, J) (K, n, zup I w 1 (0 : Int32), F, J) := fun c hc => ⟨rfl, rfl, fun hn => ⟨zup_n _ _ _ hn, rfl, rfl⟩⟩
  refine r_Rows_clear_0 ⟨h1, q _ g ⟨h1, h2, h3.fr g (fun z => ?_) (fun e he hk z => ?_), zup_s _ _ _ _, by omega, h6, h7, fun x hx => ?_⟩⟩
  · have := h3.1; rw [z] at this; omega
  · rw [z] at hk; omega
  · obtain ⟨r, hr⟩ := h8 x hx
    refine ⟨r, hr.fr g (fun z => ?_) (fun b hb z => ?_)⟩
    · have := hr.1; rw [z] at this; omega
    · obtain ⟨-, -, -, -, b', k5, k6, -⟩ := hr
      cases hb.symm.trans k5
      rw [z] at k6; omega
theorem c_rowsAdd {w l cap k : Nat} {xs : List Nat} (hW : cW E K n I F w l xs cap k) (hG : HG E K F) (hb : k < 150 → k = xs.length → 3 ≤ cb ∧ 405 ≤ sb)
    (w1 : ¬ k < 150 → Q (.inl (some (va_rf none))) (K, n, I, F, J))
    (w2 : k < 150 → ∀ K' n' I' F' xs' cap' a, GR (fun c => c = w ∨ c = l ∨ (F l 1 = some c ∧ K c = 23) ∨ (k < xs.length ∧ c = xs.getD k 0)) (K, n, I, F, J) (K', n', I', F', J) → HG E K' F' → cW E K' n' I' F' w l xs' cap' (k + 1) → a = xs'.getD k 0 → cR K' n' I' F' a [] →
      ((k < xs.length ∧ xs' = xs ∧ cap' = cap ∧ K' = K ∧ n' = n ∧ F' = F ∧ I' = zup (zup I a 1 (0 : Int32)) w 1 (nI (k + 1))) ∨ (k = xs.length ∧ K a = 0 ∧ xs' = xs ++ [a] ∧ cap' = (if xs.length = cap then zgrow cap else cap) ∧ I' a 2 = 0 ∧ I' a 3 = 0 ∧ I' a 4 = 1)) → Q (.inl (some (.ref a))) (K', n', I', F', J)) :
    AW E m_Rows_add (K, n, I, F, J) cb sb Q 0 [some (.ref w), none] [] := by
  obtain ⟨h1, h2, h3, h4, h5, h6, h7, h8⟩ := id hW
  have hl := h3.1
  have hwl : w ≠ l := fun z => by rw [z] at h1; omega
  refine r_Rows_add_0 ⟨h1, ?_⟩
  rw [h4]
  refine pk_lt k 150 (fun hk => ?_) (fun hk => w1 (by omega)) rfl rfl (by omega) (by omega)
  refine ⟨l, h2, hl, c_size hl h3.2.1 ?_⟩
  refine r_Rows_add_23 (pk_lt k xs.length (fun hlt => ?_) (fun hge => ?_) rfl rfl (by omega) (by omega))
  · refine ⟨h1, l, h2, hl, ?_⟩
    rw [h4]
    refine c_get h3 hlt ?_
    obtain ⟨r, hr⟩ := h8 _ (zgetD_mem hlt)
    have ha := hr.1
    refine r_Rows_add_52 ⟨ha, h1, ?_⟩
    have hwa : w ≠ xs.getD k 0 := fun z => by rw [← z] at ha; omega
    rw [zup_n _ _ _ hwa, h4, nI_1]
    have g : GR (fun c => c = w ∨ c = xs.getD k 0) (K, n, I, F, J) (K, n, zup (zup I (xs.getD k 0) 1 (0 : Int32)) w 1 (nI (k + 1)), F, J) := fun c hc => ⟨rfl, rfl, fun hn => ⟨by show zup _ _ _ _ c = I c; rw [zup_n _ _ _ (fun z => hn (Or.inl z)), zup_n _ _ _ (fun z => hn (Or.inr z))], rfl, rfl⟩⟩
    have hself : cR K n (zup (zup I (xs.getD k 0) 1 (0 : Int32)) w 1 (nI (k + 1))) F (xs.getD k 0) [] := by
      obtain ⟨k1, k2, k3, k4, b, k5, k6, k7, k8, k9⟩ := hr
      have hbw : b ≠ w := fun z => by rw [z] at k6; omega
      have hba : b ≠ xs.getD k 0 := fun z => by rw [← z] at ha; omega
      refine ⟨k1, by simp, by simp, ?_, b, k5, k6, k7, by simp, fun j hj => ?_⟩
      · rw [zup_n _ _ _ (fun z => hwa z.symm), zup_s]; rfl
      · rw [zup_n _ _ _ hbw, zup_n _ _ _ hba]; exact k9 j hj
    refine w2 hk K n _ F xs cap (xs.getD k 0) (g.mono (fun c _ hc => hc.elim Or.inl (fun z => Or.inr (Or.inr (Or.inr ⟨hlt, z⟩))))) hG ⟨h1, h2, h3.fr g (fun z => ?_) (fun e he hke z => ?_), zup_s _ _ _ _, by omega, h6, h7, fun x hx => ?_⟩ rfl hself (Or.inl ⟨hlt, rfl, rfl, rfl, rfl, rfl, rfl⟩)
    · rcases z with z | z
      · exact hwl z.symm
      · rw [z] at hl; omega
    · rcases z with z | z
      · rw [z] at hke; omega
      · rw [z] at hke; omega
    · by_cases hxa : x = xs.getD k 0
      · rw [hxa]; exact ⟨[], hself⟩
      · obtain ⟨r', hr'⟩ := h8 x hx
        refine ⟨r', hr'.fr g (fun z => ?_) (fun b hb z => ?_)⟩
        · rcases z with z | z
          · have := hr'.1; rw [z] at this; omega
          · exact hxa z
        · have := hG.2.2.1 x b hr'.1 hb
          rcases z with z | z
          · rw [z] at this; omega
          · rw [z] at this; omega
  · have hke : k = xs.length := by omega
    obtain ⟨b1, b2⟩ := hb hk hke
    refine ⟨h1, l, h2, cb - 1, sb - 5, by omega, by omega, fun q hq => ?_⟩
    have g1 : GR (fun _ => False) (K, n, I, F, J) (va_up K q 4, n, va_up I q (fun _ => 0), va_up F q (fun _ => none), J) := GR.newO hq 4 _ _
    have hG1 : HG E (va_up K q 4) (va_up F q (fun _ => none)) := hG.new 4 hq
    refine r_Rows_add_33 ⟨1, 100, cb - 2, sb - 105, by omega, by omega, ?_⟩
    refine c_rowInit (va_up_s _ _ _) hG1 (by omega) (by omega) (fun q2 I2 hq2 g2 hG2 i2 i3 i4 hr2 => ?_)
    have hqq : q ≠ q2 := fun z => by rw [← z, va_up_s] at hq2; cases hq2
    have g12 : GR (fun c => c = q) (K, n, I, F, J) (va_up (va_up K q 4) q2 20, va_up n q2 100, I2, zup (va_up F q (fun _ => none)) q 0 (some q2), J) := GR.trans (g1.mono (fun _ _ z => z.elim)) g2 (fun _ _ z => z)
    have hL2 : cL E (va_up (va_up K q 4) q2 20) (va_up n q2 100) I2 (zup (va_up F q (fun _ => none)) q 0 (some q2)) l xs cap := h3.fr g12 (fun z => by rw [z] at hl; omega) (fun e he hk9 z => by rw [z] at hk9; omega)
    refine r_Rows_add_37 ⟨hL2.1, cb - 2, sb - 105, 0, 0, by omega, by omega, ?_⟩
    refine c_add hL2 hG2 (Or.inr (Or.inr (Or.inl hr2.1))) (by omega) (fun z => ⟨by omega, by unfold zgrow; split <;> omega⟩) (fun K3 n3 I3 F3 g3 hG3 hL3 _ => ?_)
    have hw2 : (va_up (va_up K q 4) q2 20) w = 5 := g12.K (h := (K, n, I, F, J)) h1 (by decide)
    have hw3 : K3 w = 5 := g3.K (h := (_, _, _, _, J)) hw2 (by decide)
    have hwq : w ≠ q := fun z => by rw [z, hq] at h1; cases h1
    have hIw2 : I2 w = I w := ((g12 w (by show K w ≠ 0; omega)).2.2 hwq).1
    have hFw2 : (zup (va_up F q (fun _ => none)) q 0 (some q2)) w = F w := ((g12 w (by show K w ≠ 0; omega)).2.2 hwq).2.1
    have hS3 : ∀ c, (c = l ∨ ((zup (va_up F q (fun _ => none)) q 0 (some q2)) l 1 = some c ∧ (va_up (va_up K q 4) q2 20) c = 23)) → (va_up (va_up K q 4) q2 20) c = 10 ∨ (va_up (va_up K q 4) q2 20) c = 23 := fun c hc => by
      rcases hc with hc | hc
      · rw [hc]; exact Or.inl hL2.1
      · exact Or.inr hc.2
    have g3w := g3 w (by show (va_up (va_up K q 4) q2 20) w ≠ 0; omega)
    obtain ⟨-, -, g3w⟩ := g3w
    obtain ⟨hIw3, hFw3, -⟩ := g3w (fun z => by rcases hS3 w z with y | y <;> omega)
    dsimp only at hIw3 hFw3
    refine r_Rows_add_40 ⟨hw3, l, by rw [hFw3, hFw2]; exact h2, hL3.1, ?_⟩
    rw [hIw3, hIw2, h4, hke]
    refine c_get hL3 (by simp) ?_
    rw [zgetD_last]
    have hq2' : (va_up (va_up K q 4) q2 20) q = 4 := hr2.1
    have hr3 : cR K3 n3 I3 F3 q [] := hr2.fr g3 (fun z => by rcases hS3 q z with y | y <;> omega) (fun b hb z => by
      have := hG2.2.2.1 q b hr2.1 hb
      rcases hS3 b z with y | y <;> omega)
    refine r_Rows_add_52 ⟨hr3.1, hw3, ?_⟩
    rw [zup_n _ _ _ hwq, hIw3, hIw2, h4, nI_1]
    have g4 : GR (fun c => c = w ∨ c = q) (K3, n3, I3, F3, J) (K3, n3, zup (zup I3 q 1 (0 : Int32)) w 1 (nI (k + 1)), F3, J) := fun c hc => ⟨rfl, rfl, fun hn => ⟨by show zup _ _ _ _ c = I3 c; rw [zup_n _ _ _ (fun z => hn (Or.inl z)), zup_n _ _ _ (fun z => hn (Or.inr z))], rfl, rfl⟩⟩
    have hl3 : K3 l = 10 := hL3.1
    have hq3 : K3 q = 4 := hr3.1
    have hself : cR K3 n3 (zup (zup I3 q 1 (0 : Int32)) w 1 (nI (k + 1))) F3 q [] := by
      obtain ⟨k1, k2, k3, k4, b, k5, k6, k7, k8, k9⟩ := hr3
      have hbw : b ≠ w := fun z => by rw [z] at k6; omega
      have hba : b ≠ q := fun z => by rw [z] at k6; omega
      refine ⟨k1, by simp, by simp, ?_, b, k5, k6, k7, by simp, fun j hj => ?_⟩
      · rw [zup_n _ _ _ (fun z => hwq z.symm), zup_s]; rfl
      · rw [zup_n _ _ _ hbw, zup_n _ _ _ hba]; exact k9 j hj
    have hqS : ∀ j, I3 q j = I2 q j := fun j => by
      obtain ⟨-, -, z3⟩ := g3 q (by show (va_up (va_up K q 4) q2 20) q ≠ 0; omega)
      obtain ⟨z4, -, -⟩ := z3 (fun z => by rcases hS3 q z with y | y <;> omega)
      exact congrFun z4 j
    have hcapz : (if xs.length = cap then zgrow cap else cap) ≤ 300 := by
      have := h3.2.2.1
      split
      · unfold zgrow; split <;> omega
      · omega
    refine w2 hk K3 n3 _ F3 (xs ++ [q]) _ q ?_ hG3 ⟨hw3, by rw [hFw3, hFw2]; exact h2, hL3.fr g4 (fun z => ?_) (fun e he hk9 z => ?_), zup_s _ _ _ _, by simp; omega, by simp; omega, hcapz, fun x hx => ?_⟩ (by rw [hke]; exact (zgetD_last xs q).symm) hself (Or.inr ⟨hke, hq, rfl, rfl, ?_, ?_, ?_⟩)
    · refine GR.trans (h' := (va_up (va_up K q 4) q2 20, va_up n q2 100, I2, zup (va_up F q (fun _ => none)) q 0 (some q2), J)) (S' := fun c => c = w ∨ c = q ∨ c = l ∨ (F l 1 = some c ∧ K c = 23)) (g12.mono (fun c hc z => absurd (by show K c = 0; rw [z]; exact hq) hc)) (GR.trans (g3.mono (fun c hc z => ?_)) (g4.mono (fun c hc z => z.elim Or.inl (fun z => Or.inr (Or.inl z)))) (fun c _ z => z)) (fun c hc z => ?_)
      · rcases z with z | ⟨z1, z2⟩
        · exact Or.inr (Or.inr (Or.inl z))
        · by_cases hcq : c = q
          · exact Or.inr (Or.inl hcq)
          · refine Or.inr (Or.inr (Or.inr ⟨?_, ?_⟩))
            · have hlq : l ≠ q := fun z9 => by rw [z9, hq] at hl; cases hl
              rw [zup_n _ _ _ hlq, va_up_n _ _ hlq] at z1
              exact z1
            · by_cases hc2 : c = q2
              · rw [hc2, va_up_s] at z2; omega
              · rw [va_up_n _ _ hc2, va_up_n _ _ hcq] at z2; exact z2
      · rcases z with z | z | z | z
        · exact Or.inl z
        · exact absurd (by show K c = 0; rw [z]; exact hq) hc
        · exact Or.inr (Or.inl z)
        · exact Or.inr (Or.inr (Or.inl z))
    · rcases z with z | z
      · rw [z] at hl3; omega
      · rw [z] at hl3; omega
    · rcases z with z | z
      · rw [z] at hk9; omega
      · rw [z] at hk9; omega
    · rcases List.mem_append.mp hx with hx | hx
      · obtain ⟨r', hr'⟩ := h8 x hx
        have hx4 := hr'.1
        have hxq : x ≠ q := fun z => by rw [z, hq] at hx4; cases hx4
        have hr2' := hr'.fr g12 hxq (fun b hb z => by have := hG.2.2.1 x b hx4 hb; rw [z, hq] at this; cases this)
        have hr3' := hr2'.fr g3 (fun z => by have := hr2'.1; rcases hS3 x z with y | y <;> omega) (fun b hb z => by
          have := hG2.2.2.1 x b hr2'.1 hb
          rcases hS3 b z with y | y <;> omega)
        refine ⟨r', hr3'.fr g4 (fun z => ?_) (fun b hb z => ?_)⟩
        · rcases z with z | z
          · have := hr3'.1; rw [z] at this; omega
          · exact hxq z
        · have := hG3.2.2.1 x b hr3'.1 hb
          rcases z with z | z
          · rw [z] at this; omega
          · rw [z] at this; omega
      · rw [List.mem_singleton.mp hx]; exact ⟨[], hself⟩
    · rw [zup_n _ _ _ (fun z => hwq z.symm), zup_k _ _ _ (by decide), hqS]; exact i2
    · rw [zup_n _ _ _ (fun z => hwq z.symm), zup_k _ _ _ (by decide), hqS]; exact i3
    · rw [zup_n _ _ _ (fun z => hwq z.symm), zup_k _ _ _ (by decide), hqS]; exact i4
end
