-- ===== rows =====
/-- a byte as it is kept -/
def zsb (u : Nat) : Int32 := (nI u).toInt8.toInt32
theorem zsb_and : ∀ u : Nat, u < 256 → zsb u &&& (255 : Int32) = nI u := by decide +kernel
theorem zsb_fit (u : Nat) : fits .byte (.int (zsb u)) = true := pk_fb _
theorem zsb_of (x : Int32) : x.toInt8.toInt32 = zsb (x.toBitVec.toNat % 256) := by
  unfold zsb
  apply Int32.toInt_inj.mp
  have h1 : ∀ y : Int32, y.toInt8.toInt32.toInt = y.toInt8.toInt := fun y => by simp
  rw [h1, h1]
  congr 1
  apply Int8.toBitVec_inj.mp
  apply BitVec.eq_of_toNat_eq
  have h2 : ∀ y : Int32, y.toInt8.toBitVec.toNat = y.toBitVec.toNat % 256 := fun y => by
    have : y.toInt8.toBitVec = BitVec.signExtend 8 y.toBitVec := by simp
    rw [this, BitVec.signExtend_eq_setWidth_of_le _ (by decide), BitVec.toNat_setWidth]
  rw [h2, h2, pk_tn (by omega)]
  omega
theorem zsb_nI {u : Nat} (h : u < 256) : (nI u).toInt8.toInt32 = zsb u := rfl
theorem zsb_twice (x : Int32) : x.toInt8.toInt32.toInt8.toInt32 = x.toInt8.toInt32 := by simp
def oct (r : List Nat) (i : Nat) : Nat := r.getD i 32
def zput (r : List Nat) (i u : Nat) : List Nat := if i < r.length then r.set i u else r ++ List.replicate (i - r.length) 32 ++ [u]
def zapp (r : List Nat) (u : Nat) : List Nat := if r.length < 100 then r ++ [u] else r
def zupc (u : Nat) : Nat := if 97 ≤ u ∧ u ≤ 122 then u - 32 else u
/-- the row a holds the bytes r -/
def cR (K n : Nat → Nat) (I : Nat → Nat → Int32) (F : Nat → Nat → Option Nat) (a : Nat) (r : List Nat) : Prop :=
  K a = 4 ∧ r.length ≤ 100 ∧ (∀ x ∈ r, x < 256) ∧ I a 1 = nI r.length ∧ ∃ b, F a 0 = some b ∧ K b = 20 ∧ n b = 100 ∧ (∀ k, k < r.length → I b k = zsb (r.getD k 0)) ∧ ∀ k, k < 100 → ∃ u, u < 256 ∧ I b k = zsb u
theorem cR.fr {K n K' n' : Nat → Nat} {I I' : Nat → Nat → Int32} {F F' : Nat → Nat → Option Nat} {J J' : Nat → Nat → Int64} {a : Nat} {r : List Nat} {S : Nat → Prop} (h : cR K n I F a r) (g : GR S (K, n, I, F, J) (K', n', I', F', J')) (ha : ¬ S a) (hb : ∀ b, F a 0 = some b → ¬ S b) : cR K' n' I' F' a r := by
  obtain ⟨h1, h2, h3, h4, b, h5, h6, h7, h8, h9⟩ := h
  obtain ⟨g1, g2, g3⟩ := g a (by show K a ≠ 0; omega)
  obtain ⟨g3, g4, -⟩ := g3 ha
  obtain ⟨k1, k2, k3⟩ := g b (by show K b ≠ 0; omega)
  obtain ⟨k3, -, -⟩ := k3 (hb b h5)
  dsimp only at g1 g2 g3 g4 k1 k2 k3
  exact ⟨by rw [g1]; exact h1, h2, h3, by rw [g3]; exact h4, b, by rw [g4]; exact h5, by rw [k1]; exact h6, by rw [k2]; exact h7, by rw [k3]; exact h8, by rw [k3]; exact h9⟩
theorem zgetD_nat {r : List Nat} {d i : Nat} (hi : i < r.length) : r.getD i d = r.getD i 0 := by
  simp [List.getD_eq_getElem?_getD, List.getElem?_eq_getElem hi]
theorem zgetD_out {r : List Nat} {d i : Nat} (hi : r.length ≤ i) : r.getD i d = d := by
  simp [List.getD_eq_getElem?_getD, List.getElem?_eq_none hi]
theorem zgetD_lt {r : List Nat} (h : ∀ x ∈ r, x < 256) {i : Nat} (hi : i < r.length) : r.getD i 0 < 256 := h _ (zgetD_mem hi)
theorem oct_lt {r : List Nat} (h : ∀ x ∈ r, x < 256) (i : Nat) : oct r i < 256 := by
  unfold oct
  by_cases hi : i < r.length
  · rw [zgetD_nat hi]; exact zgetD_lt h hi
  · rw [zgetD_out (by omega)]; omega
section
variable {E : zE} {K n : Nat → Nat} {I : Nat → Nat → Int32} {F : Nat → Nat → Option Nat} {J : Nat → Nat → Int64} {cb sb : Nat} {Q : zO → zH → Prop}
theorem c_octetAt {a i : Nat} {r : List Nat} (hR : cR K n I F a r) (hi : i < 2 ^ 31) (w : Q (.inl (some (.int (nI (oct r i))))) (K, n, I, F, J)) : AW E m_Row_octetAt (K, n, I, F, J) cb sb Q 0 [some (.ref a), some (.int (nI i))] [] := by
  obtain ⟨h1, h2, h3, h4, b, h5, h6, h7, h8, h9⟩ := hR
  refine r_Row_octetAt_0 (br_f (nI_pos hi) ⟨h1, ?_⟩)
  rw [h4]
  refine pk_le r.length i (fun h => ?_) (fun h => ⟨b, h5, h6, i, rfl, by omega, by omega, ?_⟩) rfl rfl (by omega) hi
  · unfold oct at w
    rw [zgetD_out h] at w
    exact w
  · unfold oct at w
    rw [zgetD_nat h] at w
    rw [h8 i h, zsb_and _ (zgetD_lt h3 h)]
    exact w
theorem zset_at {r : List Nat} {i u j : Nat} (hi : i < r.length) : (r.set i u).getD j 0 = if j = i then u else r.getD j 0 := by
  simp only [List.getD_eq_getElem?_getD, List.getElem?_set]
  by_cases h : i = j
  · subst h; simp [hi]
  · have h2 : ¬ j = i := fun z => h z.symm
    simp [h, h2]
theorem zrep_at {r : List Nat} {d u j : Nat} (hj : j < r.length + d + 1) : (r ++ List.replicate d 32 ++ [u]).getD j 0 = if j < r.length then r.getD j 0 else if j < r.length + d then 32 else u := by
  simp only [List.getD_eq_getElem?_getD]
  by_cases h : j < r.length
  · rw [if_pos h, List.append_assoc, List.getElem?_append_left h]
  · rw [if_neg h, List.append_assoc, List.getElem?_append_right (by omega)]
    by_cases h2 : j < r.length + d
    · rw [if_pos h2, List.getElem?_append_left (by simp; omega), List.getElem?_replicate, if_pos (by omega)]
      rfl
    · rw [if_neg h2, List.getElem?_append_right (by simp; omega)]
      have : j - r.length - (List.replicate d 32).length = 0 := by simp; omega
      rw [this]
      rfl
theorem zput_len {r : List Nat} {i u : Nat} : (zput r i u).length = max r.length (i + 1) := by
  unfold zput
  split <;> simp <;> omega
theorem zput_mem {r : List Nat} {i u : Nat} (h : ∀ x ∈ r, x < 256) (hu : u < 256) : ∀ x ∈ zput r i u, x < 256 := by
  intro x hx
  unfold zput at hx
  split at hx
  · rcases List.mem_or_eq_of_mem_set hx with q | q
    · exact h x q
    · omega
  · rcases List.mem_append.mp hx with q | q
    · rcases List.mem_append.mp q with q | q
      · exact h x q
      · have := List.eq_of_mem_replicate q; omega
    · have := List.mem_singleton.mp q; omega
theorem zput_at {r : List Nat} {i u j : Nat} (hj : j < max r.length (i + 1)) : (zput r i u).getD j 0 = if j = i then u else if j < r.length then r.getD j 0 else 32 := by
  unfold zput
  by_cases h : i < r.length
  · rw [if_pos h, zset_at h]
    by_cases h2 : j = i
    · rw [if_pos h2, if_pos h2]
    · rw [if_neg h2, if_neg h2, if_pos (by omega)]
  · rw [if_neg h, zrep_at (by omega)]
    by_cases h1 : j < r.length
    · rw [if_pos h1, if_neg (by omega), if_pos h1]
    · rw [if_neg h1]
      by_cases h2 : j = i
      · rw [if_neg (by omega), if_pos h2]
      · rw [if_pos (by omega), if_neg h2, if_neg h1]
/-- the loop of put: blanks up to i -/
theorem c_putL {a b i : Nat} {x : Int32} (ha : K a = 4) (hF : F a 0 = some b) (hb : K b = 20) (hn : n b = 100) (hi : i < 100) : ∀ (d len : Nat) (I : Nat → Nat → Int32), (len + d = i ∨ (i ≤ len ∧ d = 0)) → len ≤ 100 → I a 1 = nI len →
    (∀ I', (∀ c, c ≠ a → c ≠ b → I' c = I c) → (∀ j, j ≠ 1 → I' a j = I a j) → I' a 1 = nI (max len (i + 1)) → (∀ j, I' b j = if j = i then x.toInt8.toInt32 else if len ≤ j ∧ j < i then zsb 32 else I b j) → Q (.inl none) (K, n, I', F, J)) →
    AW E m_Row_put (K, n, I, F, J) cb sb Q 11 [some (.ref a), some (.int (nI i)), some (.int x)] []
  | 0, len, I, hd, hl, hI, w => by
    have hab : a ≠ b := fun z => by rw [z] at ha; omega
    refine r_Row_put_11 ⟨ha, ?_⟩
    rw [hI]
    refine br_t (nI_le (by omega) (by omega)) ?_
    rw [nI_1]
    refine c_max (by omega) (by omega) ?_
    refine r_Row_put_54 ⟨ha, ha, b, hF, hb, i, rfl, by omega, by omega, ?_⟩
    rw [zsb_twice]
    refine w _ (fun c h1 h2 => by rw [zup_n _ _ _ h2, zup_n _ _ _ h1]) (fun j hj => by rw [zup_n _ _ _ hab, zup_k _ _ _ hj]) (by rw [zup_n _ _ _ hab, zup_s]) (fun j => ?_)
    by_cases q : j = i
    · subst q; rw [zup_s, if_pos rfl]
    · rw [if_neg q, if_neg (by omega), zup_k _ _ _ q, zup_n _ _ _ (fun z => hab z.symm)]
  | d + 1, len, I, hd, hl, hI, w => by
    have hab : a ≠ b := fun z => by rw [z] at ha; omega
    refine r_Row_put_11 ⟨ha, ?_⟩
    rw [hI]
    refine br_f (nI_ge (by omega) (by omega)) ⟨b, hF, hb, len, rfl, by omega, by omega, ?_⟩
    rw [zup_n _ _ _ hab, hI, nI_1]
    refine c_putL ha hF hb hn hi d (len + 1) _ (by omega) (by omega) (zup_s _ _ _ _) (fun I' h1 h2 h3 h4 => w I' (fun c q1 q2 => ?_) (fun j hj => ?_) ?_ (fun j => ?_))
    · rw [h1 c q1 q2, zup_n _ _ _ q1, zup_n _ _ _ q2]
    · rw [h2 j hj, zup_k _ _ _ hj, zup_n _ _ _ hab]
    · rw [h3]; congr 1; omega
    · rw [h4 j, zup_n _ _ _ (fun z => hab z.symm)]
      by_cases q : j = i
      · rw [if_pos q, if_pos q]
      · rw [if_neg q, if_neg q]
        by_cases q2 : j = len
        · subst q2
          rw [if_neg (by omega), if_pos (by omega), zup_s]
          rfl
        · rw [zup_k _ _ _ q2]
          by_cases q3 : len + 1 ≤ j ∧ j < i
          · rw [if_pos q3, if_pos (by omega)]
          · rw [if_neg q3, if_neg (by omega)]
/-- put(i, x) -/
theorem c_put {a i : Nat} {x : Int32} {r : List Nat} (hR : cR K n I F a r) (hi : i < 100)
    (w : ∀ I', GR (fun c => c = a ∨ F a 0 = some c) (K, n, I, F, J) (K, n, I', F, J) → (∀ j, j ≠ 1 → I' a j = I a j) → cR K n I' F a (zput r i (x.toBitVec.toNat % 256)) → Q (.inl none) (K, n, I', F, J)) :
    AW E m_Row_put (K, n, I, F, J) cb sb Q 0 [some (.ref a), some (.int (nI i)), some (.int x)] [] := by
  obtain ⟨h1, h2, h3, h4, b, h5, h6, h7, h8, h9⟩ := hR
  refine r_Row_put_0 (br_f (nI_pos (by omega)) (br_t (nI_lt (a := i) (b := 100) hi (by omega)) ?_))
  refine c_putL h1 h5 h6 h7 hi (i - r.length) r.length I (by omega) h2 h4 (fun I' g1 g2 g3 g4 => w I' (fun c hc => ⟨rfl, rfl, fun hn => ⟨g1 c (fun z => hn (Or.inl z)) (fun z => hn (Or.inr (by rw [z]; exact h5))), rfl, rfl⟩⟩) g2 ⟨h1, ?_, zput_mem h3 (by omega), ?_, b, h5, h6, h7, fun k hk => ?_, fun k hk => ?_⟩)
  · rw [zput_len]; omega
  · rw [g3, zput_len]
  · rw [zput_len] at hk
    rw [g4 k, zput_at hk]
    by_cases q : k = i
    · rw [if_pos q, if_pos q, zsb_of]
    · rw [if_neg q, if_neg q]
      by_cases q2 : k < r.length
      · rw [if_pos q2, if_neg (by omega)]; exact h8 k q2
      · rw [if_neg q2, if_pos (by omega)]
  · rw [g4 k]
    by_cases q : k = i
    · rw [if_pos q, zsb_of]; exact ⟨_, by omega, rfl⟩
    · rw [if_neg q]
      by_cases q2 : r.length ≤ k ∧ k < i
      · rw [if_pos q2]; exact ⟨32, by omega, rfl⟩
      · rw [if_neg q2]; exact h9 k hk
theorem zput_app {r : List Nat} {u : Nat} : zput r r.length u = r ++ [u] := by
  unfold zput
  rw [if_neg (by omega)]
  simp
/-- append(u) -/
theorem c_append {a u : Nat} {r : List Nat} (hR : cR K n I F a r) (hu : u < 256)
    (w : ∀ I', GR (fun c => c = a ∨ F a 0 = some c) (K, n, I, F, J) (K, n, I', F, J) → (∀ j, j ≠ 1 → I' a j = I a j) → cR K n I' F a (zapp r u) → Q (.inl none) (K, n, I', F, J)) :
    AW E m_Row_append (K, n, I, F, J) cb sb Q 0 [some (.ref a), some (.int (nI u))] [] := by
  refine r_Row_append_0 ⟨hR.1, ?_⟩
  rw [hR.2.2.2.1]
  have hu2 : (nI u).toBitVec.toNat % 256 = u := by rw [pk_tn (by omega)]; omega
  unfold zapp at w
  by_cases h : r.length < 100
  · rw [if_pos h] at w
    refine c_put hR h (fun I' g1 g2 g3 => r_Row_append_9 (w I' g1 g2 ?_))
    rw [hu2, zput_app] at g3
    exact g3
  · rw [if_neg h] at w
    have := hR.2.1
    refine r_Row_put_0 (br_f (nI_pos (by omega)) (br_f (nI_nlt (a := r.length) (b := 100) (by omega) (by omega)) ?_))
    exact r_Row_append_9 (w I (GR.refl _) (fun _ _ => rfl) hR)
end
