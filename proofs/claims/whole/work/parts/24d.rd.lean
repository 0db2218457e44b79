theorem zw_len : ∀ k : Nat, k < 7 → zslen.getD k 0 = (zwc k).length ∧ (zwc k).length < 10 ∧ ∀ i, i < (zwc k).length → (zsbyt.getD k []).getD i 0 = nI ((zwc k).getD i 0) ∧ 0 < (zwc k).getD i 0 ∧ (zwc k).getD i 0 < 200 := by decide +kernel
theorem zw_bit : ∀ m : Nat, m < 64 → ∀ k : Nat, k < 7 → (nI m &&& zwbit.getD k 0 = 0 ↔ m &&& zwb k = 0) ∧ nI m ||| zwbit.getD k 0 = nI (m ||| zwb k) ∧ m ||| zwb k < 64 := by decide +kernel
theorem isLt_iff {v : Int32} {u : Nat} (h : zc v u) : (¬ v < (97 : Int32) ∧ ¬ (122 : Int32) < v) ↔ isLt u = true := by
  unfold isLt
  rw [decide_eq_true_iff]
  have a := zc_lt h (c := 97) (by omega)
  have b := zc_gt h (c := 122) (by omega)
  constructor
  · intro ⟨p, q⟩
    have h1 : ¬ u < 97 := fun z => p (a.mpr z)
    have h2 : ¬ 122 < u := fun z => q (b.mpr z)
    omega
  · intro ⟨p, q⟩
    exact ⟨fun z => by have := a.mp z; omega, fun z => by have := b.mp z; omega⟩
section
variable {E : zE} {K n : Nat → Nat} {I : Nat → Nat → Int32} {F : Nat → Nat → Option Nat} {J : Nat → Nat → Int64} {cb sb : Nat} {Q : zO → zH → Prop} {rd sg L p : Nat} {x : zTx}
theorem c_isLetter {v : Int32} (w : Q (.inl (some (.int (if ¬ v < (97 : Int32) ∧ ¬ (122 : Int32) < v then 1 else 0)))) (K, n, I, F, J)) : AW E m_Reader_isLetter (K, n, I, F, J) cb sb Q 0 [some (.int v)] [] := by
  refine r_Reader_isLetter_0 ⟨fun h => ?_, fun h => ⟨fun h2 => ?_, fun h2 => ?_⟩⟩
  · rw [if_neg (fun z => z.1 h)] at w; exact w
  · rw [if_neg (fun z => z.2 h2)] at w; exact w
  · rw [if_pos ⟨h, h2⟩] at w; exact w
theorem c_text (hB : rB K n I F rd sg L x p) (hG : HG E K F) (h39 : sat x L (sk x L p) = some 39) (hcb : 3 ≤ cb) (hsb : 29 ≤ sb)
    (w1 : ∀ t q pt K' n' I' F', txtP x L (sk x L p + 1) = (some t, q) → K pt = 0 → rS E (K, n, I, F, J) (K', n', I', F', J) rd sg L x q → t.length ≤ 20 → cP K' n' I' F' pt (some t, 0, t.length) → Q (.inl (some (.ref pt))) (K', n', I', F', J))
    (w2 : ∀ q K' n' I' F', txtP x L (sk x L p + 1) = (none, q) → rS E (K, n, I, F, J) (K', n', I', F', J) rd sg L x q → Q (.inr "java/lang/IllegalArgumentException") (K', n', I', F', J)) :
    AW E m_Reader_readText (K, n, I, F, J) cb sb Q 0 [some (.ref rd), none, none, none] [] := by
  have hp := hB.2.2.2.2.2.2.2.1
  have htk : tkP x L [39] p = (some 39, sk x L p + 1) := by unfold tkP; rw [h39]; rfl
  refine r_Reader_readText_0 ⟨hB.1, 1, 6, cb - 1, sb - 6, by omega, by omega, ?_⟩
  refine c_take (si := 14) [39] (by omega) (by decide +kernel) (by decide +kernel) (by decide) (by decide) hB (by omega) (by omega) (fun u q hq => ?_) (fun q hq => by rw [htk] at hq; cases hq)
  rw [htk] at hq
  cases hq
  obtain ⟨l1, -, -⟩ := tk_le hp htk
  have hs := rS.move (E := E) (J := J) hB hG l1
  refine r_Reader_readText_6 ⟨hB.1, ?_⟩
  rw [zup_s]
  exact c_textL hG (by omega) (by omega) l1 20 _ _ hs.B rfl (Nat.le_refl _) rfl (fun t q pt K' n' I' F' a1 a2 a3 => w1 t q pt K' n' I' F' a1 a2 (hs.trans a3)) (fun q K' n' I' F' a1 a2 => w2 q K' n' I' F' a1 (hs.trans a2))
theorem c_blanks (hB : rB K n I F rd sg L x p) (hG : HG E K F) (h120 : sat x L (sk x L p) = some 120) (hcb : 4 ≤ cb) (hsb : 55 ≤ sb)
    (w1 : ∀ v q pt K' n' I' F', numP x L 1 40 (sk x L p + 1) = (some v, q) → K pt = 0 → rS E (K, n, I, F, J) (K', n', I', F', J) rd sg L x q → v ≤ 40 → cP K' n' I' F' pt (some (List.replicate v 32), 0, v) → Q (.inl (some (.ref pt))) (K', n', I', F', J))
    (w2 : ∀ q K' n' I' F', numP x L 1 40 (sk x L p + 1) = (none, q) → rS E (K, n, I, F, J) (K', n', I', F', J) rd sg L x q → Q (.inr "java/lang/IllegalArgumentException") (K', n', I', F', J)) :
    AW E m_Reader_readBlanks (K, n, I, F, J) cb sb Q 0 [some (.ref rd), none] [] := by
  have hp := hB.2.2.2.2.2.2.2.1
  have htk : tkP x L [120] p = (some 120, sk x L p + 1) := by unfold tkP; rw [h120]; rfl
  refine r_Reader_readBlanks_0 ⟨hB.1, 1, 6, cb - 1, sb - 6, by omega, by omega, ?_⟩
  refine c_take (si := 18) [120] (by omega) (by decide +kernel) (by decide +kernel) (by decide) (by decide) hB (by omega) (by omega) (fun u q hq => ?_) (fun q hq => by rw [htk] at hq; cases hq)
  rw [htk] at hq
  cases hq
  obtain ⟨l1, -, -⟩ := tk_le hp htk
  have hs := rS.move (E := E) (J := J) hB hG l1
  refine r_Reader_readBlanks_6 ⟨hB.1, 1, 6, cb - 2, sb - 12, by omega, by omega, ?_⟩
  refine c_numb (lo := 1) (hi := 40) (by omega) (by omega) (by omega) (by omega) hs.B (fun v q hq => ?_) (fun q hq => w2 q _ _ _ _ hq (hs.trans (rS.move hs.B hG (nm_leN l1 hq))))
  obtain ⟨m1, m2, m3, m4, m5⟩ := nm_le l1 hq
  have hs2 := hs.trans (rS.move hs.B hG m1)
  refine r_Reader_readBlanks_14 ⟨v, rfl, by omega, cb - 3, sb - 12 - v, by omega, by omega, fun b hb => r_Reader_readBlanks_16 ?_⟩
  have g1 : GR (fun _ => False) (K, n, zup (zup I rd 4 (nI (sk x L p + 1))) rd 4 (nI q), F, J) (va_up K b 20, va_up n b v, va_up (zup (zup I rd 4 (nI (sk x L p + 1))) rd 4 (nI q)) b (fun _ => 0), F, J) := GR.newB hb 20 v _
  have hG1 : HG E (va_up K b 20) F := hG.newA 20 (Or.inl rfl) hb
  refine c_fill (b := b) (va_up_s _ _ _) (by rw [va_up_s]; omega) (fun I' f1 f2 => r_Reader_readBlanks_23 ⟨1, 3, 0, 0, by omega, by omega, ?_⟩)
  rw [va_up_s] at f2
  have g2 : GR (fun a => a = b) (va_up K b 20, va_up n b v, va_up (zup (zup I rd 4 (nI (sk x L p + 1))) rd 4 (nI q)) b (fun _ => 0), F, J) (va_up K b 20, va_up n b v, I', F, J) := fun a _ => ⟨rfl, rfl, fun hn => ⟨f1 a hn, rfl, rfl⟩⟩
  have g3 : GR (fun _ => False) (K, n, zup (zup I rd 4 (nI (sk x L p + 1))) rd 4 (nI q), F, J) (va_up K b 20, va_up n b v, I', F, J) := fun a ha => by
    have hab : a ≠ b := fun z => ha (by show K a = 0; rw [z]; exact hb)
    obtain ⟨a1, a2, a3⟩ := g1 a ha
    exact ⟨a1, a2, fun _ => ⟨(f1 a hab).trans (a3 id).1, rfl, rfl⟩⟩
  have hs3 := hs2.trans (rS.made hs2.B g3 hG1)
  have hlen : (List.replicate v 32).length = v := by simp
  refine c_ofText (ts := List.replicate v 32) (va_up_s _ _ _) (by rw [va_up_s, hlen]) (by rw [hlen]; omega) (fun y hy => by have := List.eq_of_mem_replicate hy; omega) (fun j hj => ?_) (fun y hy hf => ?_) hG1 (by omega) (by omega) (fun pt K' I2 F' h0 g hG' hP => r_Reader_readBlanks_27 ?_)
  · rw [hlen] at hj
    rw [f2 j hj]
    have : (List.replicate v 32).getD j 0 = 32 := by simp [List.getD_eq_getElem?_getD, List.getElem?_replicate, hj]
    rw [this]; decide
  · have hyb : y ≠ b := fun q => by rw [q, va_up_s] at hy; omega
    rw [va_up_n _ _ hyb] at hy
    rcases hy with hy | hy
    · have := hG.2.2.1 y b hy hf; omega
    · have := hG.2.2.2.2.1 y b hy hf; omega
  · rw [hlen] at hP
    have hpt : K pt = 0 := by
      by_cases q : pt = b
      · rw [q]; exact hb
      · rwa [va_up_n _ _ q] at h0
    exact w1 v q pt K' _ I2 F' hq hpt (hs3.trans (rS.made hs3.B g hG')) m3 hP
theorem c_spellsL {k : Nat} (hk : k < 7) (hB : rB K n I F rd sg L x p) (hlen : p + (zwc k).length ≤ L) : ∀ (d i : Nat), i + d = (zwc k).length →
    ((∀ j, i ≤ j → j < (zwc k).length → x (p + j) = (zwc k).getD j 0) → Q (.inl (some (.int 1))) (K, n, I, F, J)) → (¬ (∀ j, i ≤ j → j < (zwc k).length → x (p + j) = (zwc k).getD j 0) → Q (.inl (some (.int 0))) (K, n, I, F, J)) →
    AW E m_Reader_spells (K, n, I, F, J) cb sb Q 25 [some (.ref rd), some (.ref (E.2.1 (100 + k))), none, some (.int (nI i))] []
  | 0, i, hi, w1, w2 => by
    obtain ⟨z1, z2, z3⟩ := zw_len k hk
    refine r_Reader_spells_25 ⟨k, by omega, rfl, ?_⟩
    rw [z1]
    exact br_t (nI_le (by omega) (by omega)) (w1 (fun j h1 h2 => by omega))
  | d + 1, i, hi, w1, w2 => by
    obtain ⟨z1, z2, z3⟩ := zw_len k hk
    obtain ⟨y1, y2, y3⟩ := z3 i (by omega)
    obtain ⟨h1, h2, h3, h4, h5, h6, h7, h8, h9⟩ := id hB
    refine r_Reader_spells_25 ⟨k, by omega, rfl, ?_⟩
    rw [z1]
    refine br_f (nI_ge (by omega) (by omega)) ⟨h1, sg, h2, h3, p + i, by rw [h7, nI_add], by omega, by omega, i, rfl, by omega, ?_⟩
    rw [y1]
    have e := zc_eq (h9 (p + i) (by omega)) (c := (zwc k).getD i 0) (by omega)
    refine ⟨fun q => ?_, fun q => w2 (fun z => q (e.mpr (z i (Nat.le_refl _) (by omega))))⟩
    rw [nI_1]
    refine c_spellsL hk hB hlen d (i + 1) (by omega) (fun z => w1 (fun j j1 j2 => ?_)) (fun z => w2 (fun y => z (fun j j1 j2 => y j (by omega) j2)))
    by_cases hj : j = i
    · rw [hj]; exact e.mp q
    · exact z j (by omega) j2
theorem c_spells {k q : Nat} (hk : k < 7) (hB : rB K n I F rd sg L x p) (hq : p ≤ q ∧ q ≤ L) (w : Q (.inl (some (.int (zB (spl x k p q))))) (K, n, I, F, J)) : AW E m_Reader_spells (K, n, I, F, J) cb sb Q 0 [some (.ref rd), some (.ref (E.2.1 (100 + k))), some (.int (nI q)), none] [] := by
  obtain ⟨z1, z2, z3⟩ := zw_len k hk
  obtain ⟨h1, h2, h3, h4, h5, h6, h7, h8, h9⟩ := id hB
  refine r_Reader_spells_0 ⟨h1, ?_⟩
  rw [h6, h7]
  refine br_f (nI_nlt hq.2 (by omega)) ⟨k, by omega, rfl, ?_⟩
  rw [z1, pk_sub hq.1]
  unfold spl at w
  refine ⟨fun z => ?_, fun z => ?_⟩
  · have e : q - p = (zwc k).length := (nI_eq (by omega) (by omega)).mp z
    refine c_spellsL hk hB (by omega) (zwc k).length 0 (by omega) (fun y => ?_) (fun y => ?_)
    · rw [decide_eq_true ⟨e, fun i hi => y i (by omega) hi⟩] at w; exact w
    · rw [decide_eq_false (fun u => y (fun j _ hj => u.2 j hj))] at w; exact w
  · have e : q - p ≠ (zwc k).length := fun u => z (by rw [u])
    rw [decide_eq_false (fun u => e u.1)] at w; exact w
theorem lwF_le : ∀ d p, p ≤ L → p ≤ lwF x L d p ∧ lwF x L d p ≤ L
  | 0, p, h => ⟨Nat.le_refl _, h⟩
  | d + 1, p, h => by
    unfold lwF
    split
    · rename_i q
      have := lwF_le d (p + 1) (by omega)
      omega
    · exact ⟨Nat.le_refl _, h⟩
theorem c_wordK {m q : Nat} (hB : rB K n I F rd sg L x p) (hm : I rd 3 = nI m) (hm2 : m < 64) (hq : p ≤ q ∧ q ≤ L) (hcb : 1 ≤ cb) (hsb : 6 ≤ sb) : ∀ (d k : Nat), k + d = 7 →
    (∀ j, wdF x m p q k d = some j → j < 7 → Q (.inl (some (.ref (E.2.1 (20 + j))))) (K, n, zup (zup I rd 3 (nI (m ||| zwb j))) rd 4 (nI q), F, J)) → (wdF x m p q k d = none → Q (.inr "java/lang/IllegalArgumentException") (K, n, I, F, J)) →
    AW E m_Reader_readWord (K, n, I, F, J) cb sb Q 33 [some (.ref rd), some (.int (nI q)), some (.int (nI k)), none] []
  | 0, k, hk, w1, w2 => r_Reader_readWord_33 (br_t (nI_le (by omega) (by omega)) ⟨hcb, hsb, w2 rfl⟩)
  | d + 1, k, hk, w1, w2 => by
    obtain ⟨b1, b2, b3⟩ := zw_bit m hm2 k (by omega)
    have next : ¬ (m &&& zwb k = 0 ∧ spl x k p q = true) → AW E m_Reader_readWord (K, n, I, F, J) cb sb Q 33 [some (.ref rd), some (.int (nI q)), some (.int (nI k + (1 : Int32))), none] [] := fun hno => by
      rw [nI_1]
      refine c_wordK hB hm hm2 hq hcb hsb d (k + 1) (by omega) (fun j hj hj7 => w1 j (by rw [wdF, if_neg hno]; exact hj) hj7) (fun hj => w2 (by rw [wdF, if_neg hno]; exact hj))
    refine r_Reader_readWord_33 (br_f (nI_ge (by omega) (by omega)) ⟨k, rfl, by omega, hB.1, ?_⟩)
    rw [hm]
    refine ⟨fun z => next (fun y => z (b1.mpr y.1)), fun z => ⟨0, 0, cb, sb, by omega, by omega, c_spells (by omega) hB hq (r_Reader_readWord_68 ⟨fun y => ?_, fun y => ⟨hB.1, k, by omega, rfl, ?_⟩⟩)⟩⟩
    · have hf := (zB_0 _).mp y
      exact next (fun u => by rw [u.2] at hf; cases hf)
    · have ht : spl x k p q = true := by cases hq : spl x k p q <;> simp_all [zB]
      rw [hm, b2]
      exact w1 k (by rw [wdF, if_pos ⟨b1.mp z, ht⟩]) (by omega)
theorem c_wordL {m : Nat} (hB : rB K n I F rd sg L x p) (hm : I rd 3 = nI m) (hm2 : m < 64) (hcb : 1 ≤ cb) (hsb : 6 ≤ sb) : ∀ (d q : Nat), L - q = d → p ≤ q → q ≤ L →
    (∀ j r, r = lwF x L d q → wdF x m p r 0 7 = some j → j < 7 → Q (.inl (some (.ref (E.2.1 (20 + j))))) (K, n, zup (zup I rd 3 (nI (m ||| zwb j))) rd 4 (nI r), F, J)) → (∀ r, r = lwF x L d q → wdF x m p r 0 7 = none → Q (.inr "java/lang/IllegalArgumentException") (K, n, I, F, J)) →
    AW E m_Reader_readWord (K, n, I, F, J) cb sb Q 5 [some (.ref rd), some (.int (nI q)), none, none] []
  | 0, q, hd, h1, h2, w1, w2 => by
    obtain ⟨k1, k2, k3, k4, k5, k6, k7, k8, k9⟩ := id hB
    refine r_Reader_readWord_5 ⟨k1, ?_⟩
    rw [k6]
    refine br_t (nI_le (by omega) (by omega)) (c_wordK hB hm hm2 ⟨h1, h2⟩ hcb hsb 7 0 rfl (fun j hj hj7 => w1 j q rfl hj hj7) (fun hj => w2 q rfl hj))
  | d + 1, q, hd, h1, h2, w1, w2 => by
    obtain ⟨k1, k2, k3, k4, k5, k6, k7, k8, k9⟩ := id hB
    have hz := isLt_iff (k9 q (by omega))
    refine r_Reader_readWord_5 ⟨k1, ?_⟩
    rw [k6]
    refine br_f (nI_ge (by omega) (by omega)) ⟨sg, k2, k3, q, rfl, by omega, by omega, c_isLetter ?_⟩
    by_cases hl : isLt (x q) = true
    · rw [if_pos (hz.mpr hl)]
      refine r_Reader_readWord_22 ⟨fun z => absurd z (by decide), fun _ => ?_⟩
      rw [nI_1]
      have e : lwF x L (d + 1) q = lwF x L d (q + 1) := by rw [lwF, if_pos ⟨by omega, hl⟩]
      exact c_wordL hB hm hm2 hcb hsb d (q + 1) (by omega) (by omega) (by omega) (fun j r hr => w1 j r (hr.trans e.symm)) (fun r hr => w2 r (hr.trans e.symm))
    · rw [if_neg (fun z => hl (hz.mp z))]
      have e : lwF x L (d + 1) q = q := by rw [lwF, if_neg (fun z => hl z.2)]
      refine r_Reader_readWord_22 ⟨fun _ => c_wordK hB hm hm2 ⟨h1, h2⟩ hcb hsb 7 0 rfl (fun j hj hj7 => w1 j q e.symm hj hj7) (fun hj => w2 q e.symm hj), fun z => absurd rfl z⟩
/-- readWord() -/
theorem c_word {m : Nat} (hB : rB K n I F rd sg L x p) (hm : I rd 3 = nI m) (hm2 : m < 64) (hcb : 1 ≤ cb) (hsb : 6 ≤ sb)
    (w1 : ∀ j q, wordP x L m p = (some j, q) → j < 7 → p ≤ q ∧ q ≤ L → Q (.inl (some (.ref (E.2.1 (20 + j))))) (K, n, zup (zup I rd 3 (nI (m ||| zwb j))) rd 4 (nI q), F, J)) (w2 : wordP x L m p = (none, p) → Q (.inr "java/lang/IllegalArgumentException") (K, n, I, F, J)) :
    AW E m_Reader_readWord (K, n, I, F, J) cb sb Q 0 [some (.ref rd), none, none, none] [] := by
  have hp := hB.2.2.2.2.2.2.2.1
  refine r_Reader_readWord_0 ⟨hB.1, ?_⟩
  rw [hB.2.2.2.2.2.2.1]
  refine c_wordL hB hm hm2 hcb hsb (L - p) p rfl (Nat.le_refl _) hp (fun j r hr hj hj7 => ?_) (fun r hr hj => w2 ?_)
  · refine w1 j r ?_ hj7 (by rw [hr]; exact lwF_le _ _ hp)
    unfold wordP
    dsimp only
    rw [← hr, hj]
  · unfold wordP
    dsimp only
    rw [← hr, hj]
end
