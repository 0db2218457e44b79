theorem zraise : ∀ u : Nat, u < 256 → (zsb u < (97 : Int32) → zupc u = u) ∧ ((122 : Int32) < zsb u → zupc u = u) ∧ (¬ zsb u < (97 : Int32) → ¬ (122 : Int32) < zsb u → zupc u = u - 32 ∧ 97 ≤ u ∧ u ≤ 122) := by decide +kernel
theorem zraise2 : ∀ u : Nat, u < 256 → 97 ≤ u → u ≤ 122 → ((zsb u - (32 : Int32)).toInt8.toInt32).toInt8.toInt32 = zsb (u - 32) := by decide +kernel
theorem zupc_lt {u : Nat} (h : u < 256) : zupc u < 256 := by unfold zupc; split <;> omega
section
variable {E : zE} {K n : Nat → Nat} {I : Nat → Nat → Int32} {F : Nat → Nat → Option Nat} {J : Nat → Nat → Int64} {cb sb : Nat} {Q : zO → zH → Prop}
/-- become(a') -/
theorem c_become {a a' : Nat} {r r' : List Nat} (hR : cR K n I F a r) (hR' : cR K n I F a' r') (hne : a ≠ a') (hG : HG E K F)
    (w : ∀ I', GR (fun c => c = a ∨ F a 0 = some c) (K, n, I, F, J) (K, n, I', F, J) → I' a 2 = I a 2 → I' a 3 = I a' 3 → I' a 4 = I a' 4 → cR K n I' F a r' → Q (.inl none) (K, n, I', F, J)) :
    AW E m_Row_become (K, n, I, F, J) cb sb Q 0 [some (.ref a), some (.ref a')] [] := by
  obtain ⟨h1, h2, h3, h4, b, h5, h6, h7, h8, h9⟩ := hR
  obtain ⟨k1, k2, k3, k4, b', k5, k6, k7, k8, k9⟩ := hR'
  have hbb : b ≠ b' := fun z => hne (hG.2.2.2.1 a a' b h1 k1 h5 (by rw [z]; exact k5))
  have hab : a ≠ b := fun z => by rw [z] at h1; omega
  have hab' : a ≠ b' := fun z => by rw [z] at h1; omega
  have ha'b : a' ≠ b := fun z => by rw [z] at k1; omega
  refine r_Row_become_0 ⟨k1, b', k5, h1, b, h5, k6, h6, 0, 0, 100, rfl, rfl, rfl, by omega, by omega, by omega, by omega, fun i hi => ?_, ?_⟩
  · obtain ⟨u, hu, e⟩ := k9 i hi
    rw [Nat.zero_add, e]
    exact zsb_fit u
  have e1 : ∀ j, (va_up I b (va_cpy (I b') (I b) 0 0 100)) a' j = I a' j := fun j => by rw [va_up_n _ _ ha'b]
  have hnt : a' ≠ a := fun z => hne z.symm
  rw [e1, zup_n _ _ _ hnt, e1, zup_n _ _ _ hnt, zup_n _ _ _ hnt, e1]
  refine w _ (fun c hc => ⟨rfl, rfl, fun hn => ⟨?_, rfl, rfl⟩⟩) ?_ ?_ ?_ ⟨h1, k2, k3, ?_, b, h5, h6, h7, fun k hk => ?_, fun k hk => ?_⟩
  · have ca : c ≠ a := fun z => hn (Or.inl z)
    have cbn : c ≠ b := fun z => hn (Or.inr (by rw [z]; exact h5))
    show zup _ _ _ _ c = I c
    rw [zup_n _ _ _ ca, zup_n _ _ _ ca, zup_n _ _ _ ca, va_up_n _ _ cbn]
  · rw [zup_k _ _ _ (by decide), zup_k _ _ _ (by decide), zup_k _ _ _ (by decide), va_up_n _ _ hab]
  · rw [zup_k _ _ _ (by decide), zup_s]
  · rw [zup_s]
  · rw [zup_k _ _ _ (by decide), zup_k _ _ _ (by decide), zup_s]; exact k4
  · rw [zup_n _ _ _ (fun z => hab z.symm), zup_n _ _ _ (fun z => hab z.symm), zup_n _ _ _ (fun z => hab z.symm), va_up_s, pk_cpy_in (by omega) (by omega)]
    have : 0 + (k - 0) = k := by omega
    rw [this]
    exact k8 k hk
  · rw [zup_n _ _ _ (fun z => hab z.symm), zup_n _ _ _ (fun z => hab z.symm), zup_n _ _ _ (fun z => hab z.symm), va_up_s, pk_cpy_in (by omega) (by omega)]
    have : 0 + (k - 0) = k := by omega
    rw [this]
    exact k9 k hk
/-- the loop of raiseLetters -/
theorem c_raiseL {a b : Nat} {r : List Nat} (h1 : K a = 4) (h2 : r.length ≤ 100) (h3 : ∀ x ∈ r, x < 256) (h5 : F a 0 = some b) (h6 : K b = 20) (h7 : n b = 100) : ∀ (d i : Nat) (I : Nat → Nat → Int32), i + d = r.length → I a 1 = nI r.length → (∀ k, i ≤ k → k < r.length → I b k = zsb (r.getD k 0)) →
    (∀ I', (∀ c, c ≠ b → I' c = I c) → (∀ k, k < i ∨ r.length ≤ k → I' b k = I b k) → (∀ k, i ≤ k → k < r.length → I' b k = zsb (zupc (r.getD k 0))) → Q (.inl none) (K, n, I', F, J)) →
    AW E m_Row_raiseLetters (K, n, I, F, J) cb sb Q 2 [some (.ref a), some (.int (nI i))] []
  | 0, i, I, hi, h4, h8, w => by
    refine r_Row_raiseLetters_2 ⟨h1, ?_⟩
    rw [h4]
    exact br_t (nI_le (by omega) (by omega)) (w I (fun _ _ => rfl) (fun _ _ => rfl) (fun k q1 q2 => by omega))
  | d + 1, i, I, hi, h4, h8, w => by
    have hab : a ≠ b := fun z => by rw [z] at h1; omega
    have hu := zgetD_lt h3 (i := i) (by omega)
    obtain ⟨z1, z2, z3⟩ := zraise (r.getD i 0) hu
    have same : zupc (r.getD i 0) = r.getD i 0 → AW E m_Row_raiseLetters (K, n, I, F, J) cb sb Q 2 [some (.ref a), some (.int (nI i + (1 : Int32)))] [] := fun e => by
      rw [nI_1]
      refine c_raiseL h1 h2 h3 h5 h6 h7 d (i + 1) I (by omega) h4 (fun k q1 q2 => h8 k (by omega) q2) (fun I' g1 g2 g3 => w I' g1 (fun k hk => g2 k (by omega)) (fun k q1 q2 => ?_))
      by_cases q : k = i
      · subst q
        rw [g2 k (by omega), h8 k (by omega) q2, e]
      · exact g3 k (by omega) q2
    refine r_Row_raiseLetters_2 ⟨h1, ?_⟩
    rw [h4]
    refine br_f (nI_ge (by omega) (by omega)) ⟨b, h5, h6, i, rfl, by omega, by omega, ?_⟩
    rw [h8 i (by omega) (by omega)]
    refine ⟨fun q => same (z1 q), fun q => ⟨fun q2 => same (z2 q2), fun q2 => ?_⟩⟩
    obtain ⟨y1, y2, y3⟩ := z3 q q2
    rw [zraise2 _ hu y2 y3, nI_1]
    refine c_raiseL h1 h2 h3 h5 h6 h7 d (i + 1) _ (by omega) (by rw [zup_n _ _ _ hab]; exact h4) (fun k q1 q2 => by rw [zup_k _ _ _ (by omega)]; exact h8 k (by omega) q2) (fun I' g1 g2 g3 => w I' (fun c hc => by rw [g1 c hc, zup_n _ _ _ hc]) (fun k hk => by rw [g2 k (by omega), zup_k _ _ _ (by omega)]) (fun k q1 q2 => ?_))
    by_cases q : k = i
    · subst q
      rw [g2 k (by omega), zup_s, y1]
    · exact g3 k (by omega) q2
theorem zmap_at {r : List Nat} {k : Nat} (hk : k < r.length) : (r.map zupc).getD k 0 = zupc (r.getD k 0) := by
  simp [List.getD_eq_getElem?_getD, List.getElem?_eq_getElem hk]
theorem c_raise {a : Nat} {r : List Nat} (hR : cR K n I F a r)
    (w : ∀ I', GR (fun c => F a 0 = some c) (K, n, I, F, J) (K, n, I', F, J) → cR K n I' F a (r.map zupc) → Q (.inl none) (K, n, I', F, J)) :
    AW E m_Row_raiseLetters (K, n, I, F, J) cb sb Q 0 [some (.ref a), none] [] := by
  obtain ⟨h1, h2, h3, h4, b, h5, h6, h7, h8, h9⟩ := hR
  have hab : a ≠ b := fun z => by rw [z] at h1; omega
  refine r_Row_raiseLetters_0 (c_raiseL h1 h2 h3 h5 h6 h7 r.length 0 I (by omega) h4 (fun k _ hk => h8 k hk) (fun I' g1 g2 g3 => w I' (fun c hc => ⟨rfl, rfl, fun hn => ⟨g1 c (fun z => hn (by rw [z]; exact h5)), rfl, rfl⟩⟩) ⟨h1, by simpa using h2, ?_, ?_, b, h5, h6, h7, fun k hk => ?_, fun k hk => ?_⟩))
  · intro x hx
    obtain ⟨y, hy, rfl⟩ := List.mem_map.mp hx
    exact zupc_lt (h3 y hy)
  · rw [g1 a hab, h4]; simp
  · have hk' : k < r.length := by simpa using hk
    rw [g3 k (by omega) hk', zmap_at hk']
  · by_cases q : k < r.length
    · exact ⟨_, zupc_lt (zgetD_lt h3 q), g3 k (by omega) q⟩
    · rw [g2 k (by omega)]; exact h9 k hk
/-- new Row(): its <init> -/
theorem c_rowInit {a : Nat} (ha : K a = 4) (hG : HG E K F) (hcb : 1 ≤ cb) (hsb : 100 ≤ sb)
    (w : ∀ q I', K q = 0 → GR (fun c => c = a) (K, n, I, F, J) (va_up K q 20, va_up n q 100, I', zup F a 0 (some q), J) → HG E (va_up K q 20) (zup F a 0 (some q)) → I' a 2 = 0 → I' a 3 = 0 → I' a 4 = 1 → cR (va_up K q 20) (va_up n q 100) I' (zup F a 0 (some q)) a [] → Q (.inl none) (va_up K q 20, va_up n q 100, I', zup F a 0 (some q), J)) :
    AW E m_Row_init (K, n, I, F, J) cb sb Q 0 [some (.ref a)] [] := by
  refine r_Row_init_0 ⟨0, 0, by omega, by omega, fun q hq => ?_⟩
  have haq : a ≠ q := fun z => by rw [z, hq] at ha; cases ha
  have hK : va_up K q 20 a = 4 := by rw [va_up_n _ _ haq]; exact ha
  refine r_Row_init_9 ⟨hK, hK, ?_⟩
  refine w q _ hq (fun c hc => ?_) ?_ ?_ ?_ ?_ ⟨hK, by simp, by simp, ?_, q, zup_s _ _ _ _, va_up_s _ _ _, va_up_s _ _ _, by simp, fun k hk => ⟨0, by omega, ?_⟩⟩
  · have hcq : c ≠ q := fun z => hc (by show K c = 0; rw [z]; exact hq)
    refine ⟨va_up_n _ _ hcq, va_up_n _ _ hcq, fun hn => ⟨?_, zup_n _ _ _ hn, rfl⟩⟩
    show zup _ _ _ _ c = I c
    rw [zup_n _ _ _ hn, zup_n _ _ _ hn, zup_n _ _ _ hn, zup_n _ _ _ hn, va_up_n _ _ hcq]
  · refine (hG.newA 20 (Or.inl rfl) hq).putB a q (Or.inl hK) (va_up_s _ _ _) (fun x hx hf => ?_)
    have hxq : x ≠ q := fun z => by rw [z, va_up_s] at hx; omega
    rw [va_up_n _ _ hxq] at hx
    rcases hx with hx | hx
    · have := hG.2.2.1 x q hx hf; omega
    · have := hG.2.2.2.2.1 x q hx hf; omega
  · rw [zup_k _ _ _ (by decide), zup_k _ _ _ (by decide), zup_s]
  · rw [zup_k _ _ _ (by decide), zup_s]
  · rw [zup_s]
  · rw [zup_k _ _ _ (by decide), zup_k _ _ _ (by decide), zup_k _ _ _ (by decide), zup_s]; rfl
  · rw [zup_n _ _ _ (fun z => haq z.symm), zup_n _ _ _ (fun z => haq z.symm), zup_n _ _ _ (fun z => haq z.symm), zup_n _ _ _ (fun z => haq z.symm), va_up_s]; rfl
end
