-- ===== the reader's small steps =====
/-- a sign as the class keeps it, and as a number -/
def zc (v : Int32) (u : Nat) : Prop := u < 2 ^ 31 ∧ (v = nI u ∨ (v < 0 ∧ u = 0))
theorem zc_eq {v : Int32} {u c : Nat} (h : zc v u) (hc : 0 < c ∧ c < 2 ^ 31) : v = nI c ↔ u = c := by
  rcases h with ⟨h0, rfl | ⟨h1, rfl⟩⟩
  · exact nI_eq h0 hc.2
  · refine ⟨fun z => absurd h1 (by rw [z]; exact nI_pos hc.2), fun z => by omega⟩
theorem zc_lt {v : Int32} {u c : Nat} (h : zc v u) (hc : 0 < c ∧ c < 2 ^ 31) : v < nI c ↔ u < c := by
  rcases h with ⟨h0, rfl | ⟨h1, rfl⟩⟩
  · exact nI_ltI h0 hc.2
  · refine ⟨fun _ => hc.1, fun _ => ?_⟩
    have h2 := Int32.lt_iff_toInt_lt.mp h1
    have e0 : (0 : Int32).toInt = 0 := by decide
    apply Int32.lt_iff_toInt_lt.mpr
    rw [nI_toInt hc.2]
    omega
theorem zc_gt {v : Int32} {u c : Nat} (h : zc v u) (hc : 0 < c ∧ c < 2 ^ 31) : nI c < v ↔ c < u := by
  rcases h with ⟨h0, rfl | ⟨h1, rfl⟩⟩
  · exact nI_ltI hc.2 h0
  · refine ⟨fun z => ?_, fun z => by omega⟩
    have h2 := Int32.lt_iff_toInt_lt.mp h1
    have h3 := Int32.lt_iff_toInt_lt.mp z
    have e0 : (0 : Int32).toInt = 0 := by decide
    rw [nI_toInt hc.2] at h3
    omega
/-- what nextSign answers -/
def zv (v : Int32) (o : Option Nat) : Prop := (o = none ∧ v = -1) ∨ ∃ u, o = some u ∧ zc v u
theorem zv_eq {v : Int32} {o : Option Nat} {c : Nat} (h : zv v o) (hc : 0 < c ∧ c < 2 ^ 31) : v = nI c ↔ o = some c := by
  rcases h with ⟨rfl, rfl⟩ | ⟨u, rfl, h⟩
  · refine ⟨fun z => absurd (show (-1 : Int32) < 0 by decide) (by rw [z]; exact nI_pos hc.2), fun z => by cases z⟩
  · rw [zc_eq h hc]; simp
/-- the reader rd stands at p of its text -/
def rB (K n : Nat → Nat) (I : Nat → Nat → Int32) (F : Nat → Nat → Option Nat) (rd sg L : Nat) (x : zTx) (p : Nat) : Prop :=
  K rd = 3 ∧ F rd 0 = some sg ∧ K sg = 21 ∧ n sg = 500 ∧ L ≤ 500 ∧ I rd 1 = nI L ∧ I rd 4 = nI p ∧ p ≤ L ∧ ∀ i, i < L → zc (I sg i) (x i)
theorem zup_id {α : Type} (f : Nat → Nat → α) (a k : Nat) {v : α} (h : f a k = v) : zup f a k v = f := by
  funext b j
  rw [zup_at]
  split
  · rename_i q; rw [q.1, q.2, h]
  · rfl
section
variable {E : zE} {K n : Nat → Nat} {I : Nat → Nat → Int32} {F : Nat → Nat → Option Nat} {J : Nat → Nat → Int64} {cb sb : Nat} {Q : zO → zH → Prop} {rd sg L p : Nat} {x : zTx}
theorem rB.move (h : rB K n I F rd sg L x p) {q : Nat} (hq : q ≤ L) : rB K n (zup I rd 4 (nI q)) F rd sg L x q := by
  obtain ⟨h1, h2, h3, h4, h5, h6, h7, h8, h9⟩ := h
  have hne : sg ≠ rd := fun z => by rw [z] at h3; omega
  exact ⟨h1, h2, h3, h4, h5, by rw [zup_k _ _ _ (by decide)]; exact h6, zup_s _ _ _ _, hq, fun i hi => by rw [zup_n _ _ _ hne]; exact h9 i hi⟩
theorem zup4 (I : Nat → Nat → Int32) (a : Nat) (u v : Int32) : zup (zup I a 4 u) a 4 v = zup I a 4 v := zup2 I a 4 u v
/-- nextSign() -/
theorem c_next : ∀ (d : Nat) {p : Nat} {I : Nat → Nat → Int32}, rB K n I F rd sg L x p → L - p = d → (∀ v, zv v (sat x L (sk x L p)) → Q (.inl (some (.int v))) (K, n, zup I rd 4 (nI (sk x L p)), F, J)) → AW E m_Reader_nextSign (K, n, I, F, J) cb sb Q 0 [some (.ref rd)] []
  | 0, p, I, hB, hd, w => by
    obtain ⟨h1, h2, h3, h4, h5, h6, h7, h8, h9⟩ := id hB
    refine r_Reader_nextSign_0 ⟨h1, ?_⟩
    rw [h6, h7]
    have hle : nI L ≤ nI p := nI_le (by omega) (by omega)
    refine br_t hle (br_t hle ?_)
    rw [sk_stop (by omega), zup_id I rd 4 h7] at w
    refine w (-1) (Or.inl ⟨?_, rfl⟩)
    unfold sat
    rw [if_neg (by omega)]
  | d + 1, p, I, hB, hd, w => by
    obtain ⟨h1, h2, h3, h4, h5, h6, h7, h8, h9⟩ := id hB
    have hz := h9 p (by omega)
    refine r_Reader_nextSign_0 ⟨h1, ?_⟩
    rw [h6, h7]
    have hnle : ¬ nI L ≤ nI p := nI_ge (by omega) (by omega)
    refine br_f hnle ⟨sg, h2, h3, p, rfl, by omega, by omega, ?_⟩
    have step : x p = 32 ∨ x p = 10 → AW E m_Reader_nextSign (K, n, zup I rd 4 (nI p + (1 : Int32)), F, J) cb sb Q 0 [some (.ref rd)] [] := fun hb => by
      rw [nI_1]
      refine c_next d (hB.move (q := p + 1) (by omega)) (by omega) (fun v hv => ?_)
      rw [zup4]
      rw [← sk_step (by omega) hb] at hv ⊢
      exact w v hv
    have e32 := zc_eq hz (c := 32) (by omega)
    have e10 := zc_eq hz (c := 10) (by omega)
    refine ⟨fun z => step (Or.inl (e32.mp z)), fun z => ⟨fun z2 => br_f hnle ?_, fun z2 => step (Or.inr (e10.mp z2))⟩⟩
    have hns : ¬ (p < L ∧ (x p = 32 ∨ x p = 10)) := fun q => q.2.elim (fun y => z (e32.mpr y)) (fun y => z2 (e10.mpr y))
    rw [sk_stop hns, zup_id I rd 4 h7] at w
    refine w _ (Or.inr ⟨x p, ?_, hz⟩)
    unfold sat
    rw [if_pos (by omega)]
theorem c_nextS (hB : rB K n I F rd sg L x p) (w : ∀ v, zv v (sat x L (sk x L p)) → Q (.inl (some (.int v))) (K, n, zup I rd 4 (nI (sk x L p)), F, J)) : AW E m_Reader_nextSign (K, n, I, F, J) cb sb Q 0 [some (.ref rd)] [] := c_next _ hB rfl w
/-- hasMore() -/
theorem c_hasMore (hB : rB K n I F rd sg L x p) (w : Q (.inl (some (.int (if sk x L p < L then 1 else 0)))) (K, n, zup I rd 4 (nI (sk x L p)), F, J)) : AW E m_Reader_hasMore (K, n, I, F, J) cb sb Q 0 [some (.ref rd)] [] := by
  have hs := sk_le (x := x) hB.2.2.2.2.2.2.2.1
  refine r_Reader_hasMore_0 ⟨hB.1, c_nextS hB (fun v hv => r_Reader_hasMore_4 ?_)⟩
  have hB2 := hB.move hs.2
  obtain ⟨h1, h2, h3, h4, h5, h6, h7, h8, h9⟩ := hB2
  refine ⟨h1, ?_⟩
  rw [h6, h7]
  refine pk_le L (sk x L p) (fun h => ?_) (fun h => ?_) rfl rfl (by omega) (by omega)
  · rw [if_neg (by omega)] at w; exact w
  · rw [if_pos h] at w; exact w
/-- the loop of take -/
theorem c_takeL {si : Nat} {cs : List Nat} {v : Int32} {o : Option Nat} (hsi : si < 21) (hcs : zsbyt.getD si [] = cs.map nI) (hlen : zslen.getD si 0 = cs.length) (hpos : ∀ c ∈ cs, 0 < c ∧ c < 200) (hv : zv v o) (hB : rB K n I F rd sg L x p) (hcb : 1 ≤ cb) (hsb : 6 ≤ sb) (hc9 : cs.length < 100) : ∀ (d k : Nat), k + d = cs.length →
    (∀ u, o = some u → u ∈ cs.drop k → Q (.inl (some (.int (nI u)))) (K, n, zup I rd 4 (nI (p + 1)), F, J)) → ((∀ u, o = some u → u ∉ cs.drop k) → Q (.inr "java/lang/IllegalArgumentException") (K, n, I, F, J)) →
    AW E m_Reader_take (K, n, I, F, J) cb sb Q 7 [some (.ref rd), some (.ref (E.2.1 (100 + si))), some (.int v), some (.int (nI k))] []
  | 0, k, hk, w1, w2 => by
    refine r_Reader_take_7 ⟨si, hsi, rfl, ?_⟩
    rw [hlen]
    refine br_t (nI_le (by omega) (by omega)) ⟨hcb, hsb, w2 (fun u _ => ?_)⟩
    rw [List.drop_eq_nil_of_le (by omega)]
    simp
  | d + 1, k, hk, w1, w2 => by
    have hkl : k < cs.length := by omega
    have hdr : cs.drop k = cs.getD k 0 :: cs.drop (k + 1) := by
      rw [List.drop_eq_getElem_cons hkl]
      congr 1
      simp [List.getD_eq_getElem?_getD, List.getElem?_eq_getElem hkl]
    have hc := hpos (cs.getD k 0) (zgetD_mem hkl)
    have hch : (zsbyt.getD si []).getD k 0 = nI (cs.getD k 0) := by
      rw [hcs]
      simp [List.getD_eq_getElem?_getD, List.getElem?_eq_getElem hkl]
    refine r_Reader_take_7 ⟨si, hsi, rfl, ?_⟩
    rw [hlen]
    refine br_f (nI_ge (by omega) (by omega)) ⟨k, rfl, hkl, ?_⟩
    rw [hch]
    have e := zv_eq hv (c := cs.getD k 0) (by omega)
    refine ⟨fun z => ?_, fun z => ⟨hB.1, ?_⟩⟩
    · rw [nI_1]
      refine c_takeL hsi hcs hlen hpos hv hB hcb hsb hc9 d (k + 1) (by omega) (fun u hu hm => w1 u hu (by rw [hdr]; exact List.mem_cons_of_mem _ hm)) (fun hno => w2 (fun u hu hm => ?_))
      rw [hdr] at hm
      rcases List.mem_cons.mp hm with q | q
      · exact z (e.mpr (by rw [hu, q]))
      · exact hno u hu q
    · rw [z, hB.2.2.2.2.2.2.1, nI_1]
      exact w1 _ (e.mp z) (by rw [hdr]; exact List.mem_cons_self)
/-- take(choices) -/
theorem c_take {si : Nat} (cs : List Nat) (hsi : si < 21) (hcs : zsbyt.getD si [] = cs.map nI) (hlen : zslen.getD si 0 = cs.length) (hpos : ∀ c ∈ cs, 0 < c ∧ c < 200) (hc9 : cs.length < 100) (hB : rB K n I F rd sg L x p) (hcb : 1 ≤ cb) (hsb : 6 ≤ sb)
    (w1 : ∀ u q, tkP x L cs p = (some u, q) → Q (.inl (some (.int (nI u)))) (K, n, zup I rd 4 (nI q), F, J)) (w2 : ∀ q, tkP x L cs p = (none, q) → Q (.inr "java/lang/IllegalArgumentException") (K, n, zup I rd 4 (nI q), F, J)) :
    AW E m_Reader_take (K, n, I, F, J) cb sb Q 0 [some (.ref rd), some (.ref (E.2.1 (100 + si))), none, none] [] := by
  have hs := sk_le (x := x) hB.2.2.2.2.2.2.2.1
  refine r_Reader_take_0 ⟨hB.1, c_nextS hB (fun v hv => r_Reader_take_4 (c_takeL hsi hcs hlen hpos hv (hB.move hs.2) hcb hsb hc9 cs.length 0 (by omega) (fun u hu hm => ?_) (fun hno => ?_)))⟩
  · rw [zup4]
    refine w1 u _ ?_
    rw [List.drop_zero] at hm
    unfold tkP
    rw [hu]
    exact if_pos hm
  · refine w2 _ ?_
    unfold tkP
    cases ho : sat x L (sk x L p) with
    | none => rfl
    | some u => exact if_neg (by have := hno u ho; rwa [List.drop_zero] at this)
theorem isDg_iff {v : Int32} {u : Nat} (h : zc v u) : (¬ v < (48 : Int32) ∧ ¬ (57 : Int32) < v) ↔ isDg u = true := by
  unfold isDg
  rw [decide_eq_true_iff]
  have a := zc_lt h (c := 48) (by omega)
  have b := zc_gt h (c := 57) (by omega)
  constructor
  · intro ⟨p, q⟩
    have h1 : ¬ u < 48 := fun z => p (a.mpr z)
    have h2 : ¬ 57 < u := fun z => q (b.mpr z)
    omega
  · intro ⟨p, q⟩
    exact ⟨fun z => by have := a.mp z; omega, fun z => by have := b.mp z; omega⟩
/-- the loop of readNumber -/
theorem c_numbL {lo hi s : Nat} (hlo : lo < 2 ^ 31) (hhi : hi < 2 ^ 31) (hcb : 1 ≤ cb) (hsb : 6 ≤ sb) : ∀ (d p acc : Nat) (I : Nat → Nat → Int32), rB K n I F rd sg L x p → p + d = s + 4 → s ≤ p → acc < 10 ^ (4 - d) →
    (∀ v q, ndF x L d acc p = (v, q) → ¬ (q = s ∨ (q < L ∧ isDg (x q) = true) ∨ v < lo ∨ hi < v) → Q (.inl (some (.int (nI v)))) (K, n, zup I rd 4 (nI q), F, J)) →
    (∀ v q, ndF x L d acc p = (v, q) → (q = s ∨ (q < L ∧ isDg (x q) = true) ∨ v < lo ∨ hi < v) → Q (.inr "java/lang/IllegalArgumentException") (K, n, zup I rd 4 (nI q), F, J)) →
    AW E m_Reader_readNumber (K, n, I, F, J) cb sb Q 13 [some (.ref rd), some (.int (nI lo)), some (.int (nI hi)), some (.int (nI s)), some (.int (nI acc)), none] [] := by
  intro d
  induction d with
  | zero =>
    intro p acc I hB hp hs ha w1 w2
    obtain ⟨h1, h2, h3, h4, h5, h6, h7, h8, h9⟩ := id hB
    have hac : acc < 10000 := by simpa using ha
    have w1 := w1 acc p rfl
    have w2 := w2 acc p rfl
    rw [zup_id I rd 4 h7] at w1 w2
    have tail : ¬ (p < L ∧ isDg (x p) = true) → ((nI p = nI s → (1 ≤ cb ∧ 6 ≤ sb ∧ Q (.inr "java/lang/IllegalArgumentException") (K, n, I, F, J))) ∧ (¬ nI p = nI s → ((nI acc < nI lo → (1 ≤ cb ∧ 6 ≤ sb ∧ Q (.inr "java/lang/IllegalArgumentException") (K, n, I, F, J))) ∧ (¬ nI acc < nI lo → ((nI acc ≤ nI hi → Q (.inl (some (.int (nI acc)))) (K, n, I, F, J)) ∧ (¬ nI acc ≤ nI hi → (1 ≤ cb ∧ 6 ≤ sb ∧ Q (.inr "java/lang/IllegalArgumentException") (K, n, I, F, J)))))))) := fun hd => by
      refine pk_eq p s (fun z => ⟨hcb, hsb, w2 (Or.inl z)⟩) (fun z => pk_lt acc lo (fun z2 => ⟨hcb, hsb, w2 (Or.inr (Or.inr (Or.inl z2)))⟩) (fun z2 => pk_le acc hi (fun z3 => w1 ?_) (fun z3 => ⟨hcb, hsb, w2 (Or.inr (Or.inr (Or.inr z3)))⟩) rfl rfl (by omega) hhi) rfl rfl (by omega) hlo) rfl rfl (by omega) (by omega)
      rintro (q | q | q | q)
      · exact z q
      · exact hd q
      · omega
      · omega
    refine r_Reader_readNumber_13 ⟨h1, ?_⟩
    rw [h6, h7]
    have e4 : nI p - nI s = nI 4 := by rw [pk_sub hs]; congr 1; omega
    refine pk_le L p (fun hle => br_t (nI_le hle (by omega)) (tail (by omega))) (fun hlt => ?_) rfl rfl (by omega) (by omega)
    rw [e4]
    refine br_t (by decide) (br_f (nI_ge hlt (by omega)) ⟨sg, h2, h3, p, rfl, by omega, by omega, c_isDigit (r_Reader_readNumber_105 ?_)⟩)
    have hz := isDg_iff (h9 p hlt)
    rw [h7]
    by_cases hdg : isDg (x p) = true
    · rw [if_pos (hz.mpr hdg)]
      exact ⟨fun z => absurd z (by decide), fun _ => ⟨h1, fun _ => ⟨hcb, hsb, w2 (Or.inr (Or.inl ⟨hlt, hdg⟩))⟩, fun _ => ⟨hcb, hsb, w2 (Or.inr (Or.inl ⟨hlt, hdg⟩))⟩⟩⟩
    · rw [if_neg (fun z => hdg (hz.mp z))]
      exact ⟨fun _ => ⟨h1, tail (fun z => hdg z.2)⟩, fun z => absurd rfl z⟩
  | succ d ih =>
    intro p acc I hB hp hs ha w1 w2
    obtain ⟨h1, h2, h3, h4, h5, h6, h7, h8, h9⟩ := id hB
    have hac : acc < 10000 := by
      have : 10 ^ (4 - (d + 1)) ≤ 10 ^ 4 := Nat.pow_le_pow_right (by omega) (by omega)
      omega
    by_cases hg : p < L ∧ isDg (x p) = true
    · refine r_Reader_readNumber_13 ⟨h1, ?_⟩
      rw [h6, h7]
      refine br_f (nI_ge hg.1 (by omega)) (br_f ?_ ⟨sg, h2, h3, p, rfl, by omega, by omega, c_isDigit ?_⟩)
      · rw [pk_sub hs]
        exact nI_ge (b := 4) (by omega) (by omega)
      have hz := isDg_iff (h9 p hg.1)
      rw [if_pos (hz.mpr hg.2)]
      refine r_Reader_readNumber_46 ⟨fun z => absurd z (by decide), fun _ => ⟨h1, sg, h2, h3, p, h7, by omega, by omega, ?_⟩⟩
      have hd2 := of_decide_eq_true hg.2
      have hv : I sg p = nI (x p) := by
        rcases h9 p hg.1 with ⟨-, q | ⟨-, q⟩⟩
        · exact q
        · omega
      have e1 : nI acc * (10 : Int32) + (I sg p - (48 : Int32)) = nI (acc * 10 + (x p - 48)) := by
        rw [hv, show (10 : Int32) = nI 10 from rfl, show (48 : Int32) = nI 48 from rfl, pk_mul, pk_sub hd2.1, nI_add]
      rw [e1, h7, nI_1]
      refine ih (p + 1) _ _ (hB.move (by omega)) (by omega) (by omega) ?_ (fun v q hq hn => ?_) (fun v q hq hn => ?_)
      · have e : 4 - d = (4 - (d + 1)) + 1 := by omega
        rw [e, Nat.pow_succ]
        omega
      · rw [zup4]
        exact w1 v q (by rw [ndF, if_pos hg]; exact hq) hn
      · rw [zup4]
        exact w2 v q (by rw [ndF, if_pos hg]; exact hq) hn
    · have w1 := w1 acc p (by rw [ndF, if_neg hg])
      have w2 := w2 acc p (by rw [ndF, if_neg hg])
      rw [zup_id I rd 4 h7] at w1 w2
      have tail : ((nI p = nI s → (1 ≤ cb ∧ 6 ≤ sb ∧ Q (.inr "java/lang/IllegalArgumentException") (K, n, I, F, J))) ∧ (¬ nI p = nI s → ((nI acc < nI lo → (1 ≤ cb ∧ 6 ≤ sb ∧ Q (.inr "java/lang/IllegalArgumentException") (K, n, I, F, J))) ∧ (¬ nI acc < nI lo → ((nI acc ≤ nI hi → Q (.inl (some (.int (nI acc)))) (K, n, I, F, J)) ∧ (¬ nI acc ≤ nI hi → (1 ≤ cb ∧ 6 ≤ sb ∧ Q (.inr "java/lang/IllegalArgumentException") (K, n, I, F, J)))))))) := by
        refine pk_eq p s (fun z => ⟨hcb, hsb, w2 (Or.inl z)⟩) (fun z => pk_lt acc lo (fun z2 => ⟨hcb, hsb, w2 (Or.inr (Or.inr (Or.inl z2)))⟩) (fun z2 => pk_le acc hi (fun z3 => w1 ?_) (fun z3 => ⟨hcb, hsb, w2 (Or.inr (Or.inr (Or.inr z3)))⟩) rfl rfl (by omega) hhi) rfl rfl (by omega) hlo) rfl rfl (by omega) (by omega)
        rintro (q | q | q | q)
        · exact z q
        · exact hg q
        · omega
        · omega
      have again : ∀ hlt : p < L, isDg (x p) = false → AW E m_Su_isDigit (K, n, I, F, J) 0 0 (zAft E m_Reader_readNumber cb sb Q 102 [some (.ref rd), some (.int (nI lo)), some (.int (nI hi)), some (.int (nI s)), some (.int (nI acc)), none] []) 0 [some (.int (I sg p))] [] := fun hlt hdg => by
        refine c_isDigit (r_Reader_readNumber_105 ?_)
        have hz := isDg_iff (h9 p hlt)
        rw [h7, if_neg (fun z => by rw [hz.mp z] at hdg; cases hdg)]
        exact ⟨fun _ => ⟨h1, tail⟩, fun z => absurd rfl z⟩
      refine r_Reader_readNumber_13 ⟨h1, ?_⟩
      rw [h6, h7]
      refine pk_le L p (fun hle => br_t (nI_le hle (by omega)) tail) (fun hlt => br_f ?_ ⟨sg, h2, h3, p, rfl, by omega, by omega, c_isDigit ?_⟩) rfl rfl (by omega) (by omega)
      · rw [pk_sub hs]
        exact nI_ge (b := 4) (by omega) (by omega)
      have hdg : isDg (x p) = false := by
        cases hq : isDg (x p)
        · rfl
        · exact absurd ⟨hlt, hq⟩ hg
      have hz := isDg_iff (h9 p hlt)
      rw [if_neg (fun z => by rw [hz.mp z] at hdg; cases hdg)]
      refine r_Reader_readNumber_46 ⟨fun _ => ⟨h1, ?_⟩, fun z => absurd rfl z⟩
      rw [h6, h7]
      exact br_f (nI_ge hlt (by omega)) ⟨sg, h2, h3, p, rfl, by omega, by omega, again hlt hdg⟩
/-- readNumber(lo, hi) -/
theorem c_numb {lo hi : Nat} (hlo : lo < 2 ^ 31) (hhi : hi < 2 ^ 31) (hcb : 1 ≤ cb) (hsb : 6 ≤ sb) (hB : rB K n I F rd sg L x p)
    (w1 : ∀ v q, numP x L lo hi p = (some v, q) → Q (.inl (some (.int (nI v)))) (K, n, zup I rd 4 (nI q), F, J)) (w2 : ∀ q, numP x L lo hi p = (none, q) → Q (.inr "java/lang/IllegalArgumentException") (K, n, zup I rd 4 (nI q), F, J)) :
    AW E m_Reader_readNumber (K, n, I, F, J) cb sb Q 0 [some (.ref rd), some (.int (nI lo)), some (.int (nI hi)), none, none, none] [] := by
  have hs := sk_le (x := x) hB.2.2.2.2.2.2.2.1
  refine r_Reader_readNumber_0 ⟨hB.1, c_nextS hB (fun v hv => r_Reader_readNumber_4 ⟨hB.1, ?_⟩)⟩
  rw [zup_s]
  refine c_numbL (s := sk x L p) hlo hhi hcb hsb 4 (sk x L p) 0 _ (hB.move hs.2) (by omega) (by omega) (by decide) (fun v q hq hn => ?_) (fun v q hq hn => ?_)
  · rw [zup4]
    refine w1 v q ?_
    unfold numP
    dsimp only
    rw [hq, if_neg hn]
  · rw [zup4]
    refine w2 q ?_
    unfold numP
    dsimp only
    rw [hq, if_pos hn]
end
