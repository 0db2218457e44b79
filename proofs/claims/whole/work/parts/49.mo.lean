-- ===== the reference: what it holds of a text =====
theorem pR.fr' {V V' : Nat → Nat → Int32} {i : Nat} {k : zPart} (h : pR V i k) (hf : ∀ j, V' 10 j = V 10 j) (hl : ∀ j, 200 ≤ j → V' 11 j = V 11 j) : pR V' i k := by
  rcases h with h | h
  · exact Or.inl (h.fr (hf _) (hf _) (fun j _ hj => hl j (by omega)))
  · exact Or.inr ⟨by rw [hf]; exact h.1, by rw [hf]; exact h.2.1, h.2.2⟩
theorem tR.fr' {V V' : Nat → Nat → Int32} {i : Nat} {t : zTest} (hi : i < 10) (h : tR V i t) (hf : ∀ j, V' 8 j = V 8 j) (hl : ∀ j, j < 200 → V' 11 j = V 11 j) : tR V' i t := h.fr (fun j _ => hf j) (fun j hj => hl j (by omega))
/-- the lists -/
def mL (V : Nat → Nat → Int32) (st : zStm) : Prop := okS st ∧ (V 5 1 = nI st.1.length ∧ V 5 2 = nI st.2.1.length ∧ V 5 3 = nI st.2.2.1.length ∧ V 5 4 = nI st.2.2.2.1.length) ∧ (∀ i k, st.1[i]? = some k → kR V i k) ∧ (∀ i t, st.2.1[i]? = some t → tR V i t ∧ (1 ≤ i → wyR V i t.1)) ∧ (∀ i f, st.2.2.1[i]? = some f → sR V i f) ∧ ∀ i g, st.2.2.2.1[i]? = some g → pR V i g
def wB (V : Nat → Nat → Int32) (b : Nat → Bool) : Prop := ∀ k, k < 7 → V 4 k = zB (b k)
def wS (b : Nat → Bool) (st : zStm) : Prop := (b 0 = false ↔ st.1 = []) ∧ (st.2.1 = [] ↔ b 1 = false ∧ b 2 = false) ∧ b 2 = st.2.2.2.2.1 ∧ ¬ (b 1 = true ∧ b 2 = true) ∧ (b 3 = false ↔ st.2.2.1 = []) ∧ (b 4 = false ↔ st.2.2.2.1 = []) ∧ (b 5 = false → st.2.2.2.2.2.1 = 0) ∧ (b 6 = false → st.2.2.2.2.2.2.1 = 9999)
def wL (V : Nat → Nat → Int32) (b : Nat → Bool) (st : zStm) : Prop := (b 5 = true → V 6 0 = nI st.2.2.2.2.2.1) ∧ (b 6 = true → V 6 1 = nI st.2.2.2.2.2.2.1) ∧ st.2.2.2.2.2.1 ≤ 9999 ∧ st.2.2.2.2.2.2.1 ≤ 9999
def mB (V : Nat → Nat → Int32) (b : Nat → Bool) (st : zStm) : Prop := mL V st ∧ wB V b ∧ wS b st ∧ wL V b st ∧ V 5 0 = nI st.2.2.2.2.2.2.2
def mSt (V : Nat → Nat → Int32) (st : zStm) : Prop := ∃ b, mB V b st
def mkB (b : Nat → Bool) (mk : Nat) : Prop := mk < 64 ∧ (mk &&& 1 = 0 ↔ b 0 = false) ∧ (mk &&& 2 = 0 ↔ b 1 = false ∧ b 2 = false) ∧ (mk &&& 4 = 0 ↔ b 3 = false) ∧ (mk &&& 8 = 0 ↔ b 4 = false) ∧ (mk &&& 16 = 0 ↔ b 5 = false) ∧ (mk &&& 32 = 0 ↔ b 6 = false)
theorem bitfa : ∀ mk, mk < 64 → ∀ k, k < 7 → mk ||| zwb k < 64 := by decide +kernel
theorem bitfb : ∀ mk, mk < 64 → ∀ k, k < 7 → ((mk ||| zwb k) &&& 1 = 0 ↔ mk &&& 1 = 0 ∧ k ≠ 0) := by decide +kernel
theorem bitfc : ∀ mk, mk < 64 → ∀ k, k < 7 → ((mk ||| zwb k) &&& 2 = 0 ↔ mk &&& 2 = 0 ∧ k ≠ 1 ∧ k ≠ 2) := by decide +kernel
theorem bitfd : ∀ mk, mk < 64 → ∀ k, k < 7 → ((mk ||| zwb k) &&& 4 = 0 ↔ mk &&& 4 = 0 ∧ k ≠ 3) := by decide +kernel
theorem bitfe : ∀ mk, mk < 64 → ∀ k, k < 7 → ((mk ||| zwb k) &&& 8 = 0 ↔ mk &&& 8 = 0 ∧ k ≠ 4) := by decide +kernel
theorem bitff : ∀ mk, mk < 64 → ∀ k, k < 7 → ((mk ||| zwb k) &&& 16 = 0 ↔ mk &&& 16 = 0 ∧ k ≠ 5) := by decide +kernel
theorem bitfg : ∀ mk, mk < 64 → ∀ k, k < 7 → ((mk ||| zwb k) &&& 32 = 0 ↔ mk &&& 32 = 0 ∧ k ≠ 6) := by decide +kernel
theorem mkB.up {b : Nat → Bool} {mk k : Nat} (h : mkB b mk) (hk : k < 7) : mkB (va_up b k true) (mk ||| zwb k) := by
  obtain ⟨h0, h1, h2, h3, h4, h5, h6⟩ := h
  have g0 := bitfa mk h0 k hk
  have g1 := bitfb mk h0 k hk
  have g2 := bitfc mk h0 k hk
  have g3 := bitfd mk h0 k hk
  have g4 := bitfe mk h0 k hk
  have g5 := bitff mk h0 k hk
  have g6 := bitfg mk h0 k hk
  have e : ∀ j, (va_up b k true j = false ↔ b j = false ∧ k ≠ j) := fun j => by
    by_cases q : j = k
    · subst q; rw [va_up_s]; simp
    · rw [va_up_n _ _ q]; exact ⟨fun z => ⟨z, fun y => q y.symm⟩, fun z => z.1⟩
  refine ⟨g0, ?_, ?_, ?_, ?_, ?_, ?_⟩
  · rw [g1, h1, e]
  · rw [g2, h2, e, e]
    exact ⟨fun z => ⟨⟨z.1.1, z.2.1⟩, z.1.2, z.2.2⟩, fun z => ⟨⟨z.1.1, z.2.1⟩, z.1.2, z.2.2⟩⟩
  · rw [g3, h3, e]
  · rw [g4, h4, e]
  · rw [g5, h5, e]
  · rw [g6, h6, e]
/-- a word that is free -/
theorem mkB.free {b : Nat → Bool} {mk k : Nat} (h : mkB b mk) (hk : k < 7) : mk &&& zwb k = 0 ↔ (b k = false ∧ (k = 1 ∨ k = 2 → b 1 = false ∧ b 2 = false)) := by
  obtain ⟨h0, h1, h2, h3, h4, h5, h6⟩ := h
  have : k = 0 ∨ k = 1 ∨ k = 2 ∨ k = 3 ∨ k = 4 ∨ k = 5 ∨ k = 6 := by omega
  rcases this with e | e | e | e | e | e | e <;> subst e
  · show mk &&& 1 = 0 ↔ _
    rw [h1]; simp
  · show mk &&& 2 = 0 ↔ _
    rw [h2]; simp
  · show mk &&& 2 = 0 ↔ _
    rw [h2]; simp
  · show mk &&& 4 = 0 ↔ _
    rw [h3]; simp
  · show mk &&& 8 = 0 ↔ _
    rw [h4]; simp
  · show mk &&& 16 = 0 ↔ _
    rw [h5]; simp
  · show mk &&& 32 = 0 ↔ _
    rw [h6]; simp
section
variable {V V' : Nat → Nat → Int32} {b : Nat → Bool} {st : zStm}
theorem wB.up {w : Nat} (h : wB V b) (h4 : ∀ j, j ≠ w → V' 4 j = V 4 j) (hw : V' 4 w = 1) : wB V' (va_up b w true) := fun k hk => by
  by_cases e : k = w
  · subst e; rw [va_up_s, hw]; rfl
  · rw [va_up_n _ _ e, h4 k e]; exact h k hk
theorem up_keys {v : List zKey} (h : mB V b st) (hb : b 0 = false) (hv6 : v.length ≤ 6) (hv1 : 1 ≤ v.length) (h4 : ∀ j, j ≠ 0 → V' 4 j = V 4 j) (hw : V' 4 0 = 1) (h5 : ∀ j, j ≠ 0 → j ≠ 1 → V' 5 j = V 5 j) (h50 : V' 5 0 = nI (st.2.2.2.2.2.2.2 + 1)) (h51 : V' 5 1 = nI v.length) (h6 : ∀ j, V' 6 j = V 6 j) (h8 : ∀ j, V' 8 j = V 8 j) (h9 : ∀ j, V' 9 j = V 9 j) (h10 : ∀ j, V' 10 j = V 10 j) (h11 : ∀ j, V' 11 j = V 11 j) (hv : ∀ i k, v[i]? = some k → kR V' i k) :
    mB V' (va_up b 0 true) (stm1 (v, st.2)) := by
  obtain ⟨⟨l1, l2, l3, l4, l5, l6⟩, w1, w2, w3, w4⟩ := h
  have hvn : v ≠ [] := fun z => by rw [z] at hv1; simp at hv1
  refine ⟨⟨⟨⟨hv6, l1.1.2⟩, l1.2⟩, ⟨h51, by rw [h5 2 (by decide) (by decide)]; exact l2.2.1, by rw [h5 3 (by decide) (by decide)]; exact l2.2.2.1, by rw [h5 4 (by decide) (by decide)]; exact l2.2.2.2⟩, hv, fun i t ht => ?_, fun i f hf => (l5 i f hf).fr (fun j _ => h9 j), fun i g hg => (l6 i g hg).fr' h10 (fun j _ => h11 j)⟩, w1.up h4 hw, ?_, ?_, h50⟩
  · obtain ⟨t1, t2⟩ := l4 i t ht
    exact ⟨t1.fr (fun j _ => h8 j) (fun j _ => h11 j), fun z => by unfold wyR; rw [h8]; exact t2 z⟩
  · obtain ⟨s1, s2, s3, s4, s5, s6, s7, s8⟩ := w2
    exact ⟨⟨fun z => (by rw [va_up_s] at z; cases z), fun z => absurd z hvn⟩, s2, s3, s4, s5, s6, s7, s8⟩
  · exact ⟨fun z => by rw [h6]; exact w3.1 z, fun z => by rw [h6]; exact w3.2.1 z, w3.2.2⟩
theorem up_sums {v : List zPart} (h : mB V b st) (hb : b 3 = false) (hv6 : v.length ≤ 4) (hv1 : 1 ≤ v.length) (h4 : ∀ j, j ≠ 3 → V' 4 j = V 4 j) (hw : V' 4 3 = 1) (h5 : ∀ j, j ≠ 0 → j ≠ 3 → V' 5 j = V 5 j) (h50 : V' 5 0 = nI (st.2.2.2.2.2.2.2 + 1)) (h51 : V' 5 3 = nI v.length) (h6 : ∀ j, V' 6 j = V 6 j) (h7 : ∀ j, V' 7 j = V 7 j) (h8 : ∀ j, V' 8 j = V 8 j) (h10 : ∀ j, V' 10 j = V 10 j) (h11 : ∀ j, V' 11 j = V 11 j) (hv : ∀ i k, v[i]? = some k → sR V' i k) :
    mB V' (va_up b 3 true) (stm1 (st.1, st.2.1, v, st.2.2.2)) := by
  obtain ⟨⟨l1, l2, l3, l4, l5, l6⟩, w1, w2, w3, w4⟩ := h
  have hvn : v ≠ [] := fun z => by rw [z] at hv1; simp at hv1
  refine ⟨⟨⟨⟨l1.1.1, l1.1.2.1, hv6, l1.1.2.2.2⟩, fun f hf => ?_⟩, ⟨by rw [h5 1 (by decide) (by decide)]; exact l2.1, by rw [h5 2 (by decide) (by decide)]; exact l2.2.1, h51, by rw [h5 4 (by decide) (by decide)]; exact l2.2.2.2⟩, fun i k hk => (l3 i k hk).fr (fun j _ => h7 j), fun i t ht => ?_, hv, fun i g hg => (l6 i g hg).fr' h10 (fun j _ => h11 j)⟩, w1.up h4 hw, ?_, ?_, h50⟩
  · obtain ⟨i, hi⟩ := List.mem_iff_getElem?.mp hf
    have := hv i f hi
    exact this.2.2
  · obtain ⟨t1, t2⟩ := l4 i t ht
    exact ⟨t1.fr (fun j _ => h8 j) (fun j _ => h11 j), fun z => by unfold wyR; rw [h8]; exact t2 z⟩
  · obtain ⟨s1, s2, s3, s4, s5, s6, s7, s8⟩ := w2
    exact ⟨s1, s2, s3, s4, ⟨fun z => (by rw [va_up_s] at z; cases z), fun z => absurd z hvn⟩, s6, s7, s8⟩
  · exact ⟨fun z => by rw [h6]; exact w3.1 z, fun z => by rw [h6]; exact w3.2.1 z, w3.2.2⟩
theorem up_pieces {v : List zPart} (h : mB V b st) (hb : b 4 = false) (hv6 : v.length ≤ 12) (hv1 : 1 ≤ v.length) (h4 : ∀ j, j ≠ 4 → V' 4 j = V 4 j) (hw : V' 4 4 = 1) (h5 : ∀ j, j ≠ 0 → j ≠ 4 → V' 5 j = V 5 j) (h50 : V' 5 0 = nI (st.2.2.2.2.2.2.2 + 1)) (h51 : V' 5 4 = nI v.length) (h6 : ∀ j, V' 6 j = V 6 j) (h7 : ∀ j, V' 7 j = V 7 j) (h8 : ∀ j, V' 8 j = V 8 j) (h9 : ∀ j, V' 9 j = V 9 j) (h11 : ∀ j, j < 200 → V' 11 j = V 11 j) (hv : ∀ i k, v[i]? = some k → pR V' i k) :
    mB V' (va_up b 4 true) (stm1 (st.1, st.2.1, st.2.2.1, v, st.2.2.2.2)) := by
  obtain ⟨⟨l1, l2, l3, l4, l5, l6⟩, w1, w2, w3, w4⟩ := h
  have hvn : v ≠ [] := fun z => by rw [z] at hv1; simp at hv1
  refine ⟨⟨⟨⟨l1.1.1, l1.1.2.1, l1.1.2.2.1, hv6⟩, l1.2⟩, ⟨by rw [h5 1 (by decide) (by decide)]; exact l2.1, by rw [h5 2 (by decide) (by decide)]; exact l2.2.1, by rw [h5 3 (by decide) (by decide)]; exact l2.2.2.1, h51⟩, fun i k hk => (l3 i k hk).fr (fun j _ => h7 j), fun i t ht => ?_, fun i f hf => (l5 i f hf).fr (fun j _ => h9 j), hv⟩, w1.up h4 hw, ?_, ?_, h50⟩
  · obtain ⟨t1, t2⟩ := l4 i t ht
    have hi : i < st.2.1.length := (List.getElem?_eq_some_iff.mp ht).1
    have := l1.1.2.1
    exact ⟨t1.fr' (by omega) h8 h11, fun z => by unfold wyR; rw [h8]; exact t2 z⟩
  · obtain ⟨s1, s2, s3, s4, s5, s6, s7, s8⟩ := w2
    exact ⟨s1, s2, s3, s4, s5, ⟨fun z => (by rw [va_up_s] at z; cases z), fun z => absurd z hvn⟩, s7, s8⟩
  · exact ⟨fun z => by rw [h6]; exact w3.1 z, fun z => by rw [h6]; exact w3.2.1 z, w3.2.2⟩
theorem up_tests {v : List zTest} {w : Nat} {om : Bool} (hwv : (w = 1 ∧ om = st.2.2.2.2.1) ∨ (w = 2 ∧ om = true)) (h : mB V b st) (hb : b 1 = false ∧ b 2 = false) (hv6 : v.length ≤ 10) (hv1 : 1 ≤ v.length) (h4 : ∀ j, j ≠ w → V' 4 j = V 4 j) (hw : V' 4 w = 1) (h5 : ∀ j, j ≠ 0 → j ≠ 2 → V' 5 j = V 5 j) (h50 : V' 5 0 = nI (st.2.2.2.2.2.2.2 + 1)) (h51 : V' 5 2 = nI v.length) (h6 : ∀ j, V' 6 j = V 6 j) (h7 : ∀ j, V' 7 j = V 7 j) (h9 : ∀ j, V' 9 j = V 9 j) (h10 : ∀ j, V' 10 j = V 10 j) (h11 : ∀ j, 200 ≤ j → V' 11 j = V 11 j) (hv : ∀ i t, v[i]? = some t → tR V' i t ∧ (1 ≤ i → wyR V' i t.1)) :
    mB V' (va_up b w true) (stm1 (st.1, v, st.2.2.1, st.2.2.2.1, om, st.2.2.2.2.2)) := by
  obtain ⟨⟨l1, l2, l3, l4, l5, l6⟩, w1, w2, w3, w4⟩ := h
  have hvn : v ≠ [] := fun z => by rw [z] at hv1; simp at hv1
  refine ⟨⟨⟨⟨l1.1.1, hv6, l1.1.2.2⟩, l1.2⟩, ⟨by rw [h5 1 (by decide) (by decide)]; exact l2.1, h51, by rw [h5 3 (by decide) (by decide)]; exact l2.2.2.1, by rw [h5 4 (by decide) (by decide)]; exact l2.2.2.2⟩, fun i k hk => (l3 i k hk).fr (fun j _ => h7 j), hv, fun i f hf => (l5 i f hf).fr (fun j _ => h9 j), fun i g hg => (l6 i g hg).fr' h10 h11⟩, w1.up h4 hw, ?_, ?_, h50⟩
  · obtain ⟨s1, s2, s3, s4, s5, s6, s7, s8⟩ := w2
    rcases hwv with ⟨rfl, rfl⟩ | ⟨rfl, rfl⟩
    · refine ⟨s1, ⟨fun z => absurd z hvn, fun z => (by rw [va_up_s] at z; cases z.1)⟩, ?_, fun z => ?_, s5, s6, s7, s8⟩
      · rw [va_up_n _ _ (by decide)]; exact s3
      · have z2 := z.2; rw [va_up_n _ _ (by decide), hb.2] at z2; cases z2
    · refine ⟨s1, ⟨fun z => absurd z hvn, fun z => (by rw [va_up_s] at z; cases z.2)⟩, va_up_s _ _ _, fun z => ?_, s5, s6, s7, s8⟩
      have z1 := z.1; rw [va_up_n _ _ (by decide), hb.1] at z1; cases z1
  · rcases hwv with ⟨rfl, -⟩ | ⟨rfl, -⟩ <;> exact ⟨fun z => by rw [h6]; exact w3.1 z, fun z => by rw [h6]; exact w3.2.1 z, w3.2.2⟩
theorem up_lim {v w : Nat} {sk' sp' : Nat} (hwv : (w = 5 ∧ sk' = v ∧ sp' = st.2.2.2.2.2.2.1) ∨ (w = 6 ∧ sk' = st.2.2.2.2.2.1 ∧ sp' = v)) (hv9 : v ≤ 9999) (h : mB V b st) (h4 : ∀ j, j ≠ w → V' 4 j = V 4 j) (hw : V' 4 w = 1) (h5 : ∀ j, j ≠ 0 → V' 5 j = V 5 j) (h50 : V' 5 0 = nI (st.2.2.2.2.2.2.2 + 1)) (h6 : ∀ j, j ≠ w - 5 → V' 6 j = V 6 j) (h6v : V' 6 (w - 5) = nI v) (h7 : ∀ f j, 7 ≤ f → f ≤ 11 → V' f j = V f j) :
    mB V' (va_up b w true) (stm1 (st.1, st.2.1, st.2.2.1, st.2.2.2.1, st.2.2.2.2.1, sk', sp', st.2.2.2.2.2.2.2)) := by
  obtain ⟨⟨l1, l2, l3, l4, l5, l6⟩, w1, w2, w3, w4⟩ := h
  refine ⟨⟨l1, ⟨by rw [h5 1 (by decide)]; exact l2.1, by rw [h5 2 (by decide)]; exact l2.2.1, by rw [h5 3 (by decide)]; exact l2.2.2.1, by rw [h5 4 (by decide)]; exact l2.2.2.2⟩, fun i k hk => (l3 i k hk).fr (fun j _ => h7 7 j (by omega) (by omega)), fun i t ht => ?_, fun i f hf => (l5 i f hf).fr (fun j _ => h7 9 j (by omega) (by omega)), fun i g hg => (l6 i g hg).fr' (fun j => h7 10 j (by omega) (by omega)) (fun j _ => h7 11 j (by omega) (by omega))⟩, w1.up h4 hw, ?_, ?_, h50⟩
  · obtain ⟨t1, t2⟩ := l4 i t ht
    exact ⟨t1.fr (fun j _ => h7 8 j (by omega) (by omega)) (fun j _ => h7 11 j (by omega) (by omega)), fun z => by unfold wyR; rw [h7 8 _ (by omega) (by omega)]; exact t2 z⟩
  · obtain ⟨s1, s2, s3, s4, s5, s6, s7, s8⟩ := w2
    rcases hwv with ⟨rfl, rfl, rfl⟩ | ⟨rfl, rfl, rfl⟩
    · exact ⟨s1, s2, s3, s4, s5, s6, fun z => (by rw [va_up_s] at z; cases z), s8⟩
    · exact ⟨s1, s2, s3, s4, s5, s6, s7, fun z => (by rw [va_up_s] at z; cases z)⟩
  · rcases hwv with ⟨rfl, rfl, rfl⟩ | ⟨rfl, rfl, rfl⟩
    · exact ⟨fun _ => h6v, fun z => by rw [h6 1 (by decide)]; exact w3.2.1 z, hv9, w3.2.2.2⟩
    · exact ⟨fun z => by rw [h6 0 (by decide)]; exact w3.1 z, fun _ => h6v, w3.2.2.1, hv9⟩
/-- only what lies within the arrays' used parts counts -/
theorem mB.ext (h : mB V b st) (h4 : ∀ j, j < 7 → V' 4 j = V 4 j) (h5 : ∀ j, j < 5 → V' 5 j = V 5 j) (h6 : ∀ j, j < 2 → V' 6 j = V 6 j) (h7 : ∀ j, j < 48 → V' 7 j = V 7 j) (h8 : ∀ j, j < 120 → V' 8 j = V 8 j) (h9 : ∀ j, j < 16 → V' 9 j = V 9 j) (h10 : ∀ j, j < 48 → V' 10 j = V 10 j) (h11 : ∀ j, j < 880 → V' 11 j = V 11 j) : mB V' b st := by
  obtain ⟨⟨l1, l2, l3, l4, l5, l6⟩, w1, w2, w3, w4⟩ := h
  refine ⟨⟨l1, ⟨by rw [h5 1 (by decide)]; exact l2.1, by rw [h5 2 (by decide)]; exact l2.2.1, by rw [h5 3 (by decide)]; exact l2.2.2.1, by rw [h5 4 (by decide)]; exact l2.2.2.2⟩, fun i k hk => ?_, fun i t ht => ?_, fun i f hf => ?_, fun i g hg => ?_⟩, fun k hk => by rw [h4 k hk]; exact w1 k hk, w2, ⟨fun z => by rw [h6 0 (by decide)]; exact w3.1 z, fun z => by rw [h6 1 (by decide)]; exact w3.2.1 z, w3.2.2⟩, by rw [h5 0 (by decide)]; exact w4⟩
  · have hi := (List.getElem?_eq_some_iff.mp hk).1
    have := l1.1.1
    exact (l3 i k hk).fr (fun j hj => h7 j (by omega))
  · have hi := (List.getElem?_eq_some_iff.mp ht).1
    have := l1.1.2.1
    obtain ⟨t1, t2⟩ := l4 i t ht
    exact ⟨t1.fr (fun j hj => h8 j (by omega)) (fun j hj => h11 j (by omega)), fun z => by unfold wyR; rw [h8 _ (by omega)]; exact t2 z⟩
  · have hi := (List.getElem?_eq_some_iff.mp hf).1
    have := l1.1.2.2.1
    exact (l5 i f hf).fr (fun j hj => h9 j (by omega))
  · have hi := (List.getElem?_eq_some_iff.mp hg).1
    have := l1.1.2.2.2
    exact (l6 i g hg).fr (fun j hj => h10 j (by omega)) (fun j hj => h11 j (by omega))
end
