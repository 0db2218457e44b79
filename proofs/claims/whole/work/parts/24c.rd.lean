/-- a step of the reader: from h to h', now at q -/
def rS (E : zE) (h h' : zH) (rd sg L : Nat) (x : zTx) (q : Nat) : Prop :=
  GR (fun a => a = rd) h h' ∧ rB h'.1 h'.2.1 h'.2.2.1 h'.2.2.2.1 rd sg L x q ∧ h'.2.2.1 rd 3 = h.2.2.1 rd 3 ∧ h'.2.2.2.1 rd = h.2.2.2.1 rd ∧ HG E h'.1 h'.2.2.2.1
theorem rS.trans {E : zE} {h h' h'' : zH} {rd sg L p q : Nat} {x : zTx} (a : rS E h h' rd sg L x p) (b : rS E h' h'' rd sg L x q) : rS E h h'' rd sg L x q :=
  ⟨a.1.trans b.1 (fun _ _ z => z), b.2.1, b.2.2.1.trans a.2.2.1, b.2.2.2.1.trans a.2.2.2.1, b.2.2.2.2⟩
section
variable {E : zE} {K n : Nat → Nat} {I : Nat → Nat → Int32} {F : Nat → Nat → Option Nat} {J : Nat → Nat → Int64} {cb sb : Nat} {Q : zO → zH → Prop} {rd sg L p : Nat} {x : zTx}
theorem rS.move (hB : rB K n I F rd sg L x p) (hG : HG E K F) {q : Nat} (hq : q ≤ L) : rS E (K, n, I, F, J) (K, n, zup I rd 4 (nI q), F, J) rd sg L x q :=
  ⟨fun a _ => ⟨rfl, rfl, fun hn => ⟨zup_n _ _ _ hn, rfl, rfl⟩⟩, hB.move hq, zup_k _ _ _ (by decide) _, rfl, hG⟩
theorem rB.fr {K' n' : Nat → Nat} {I' : Nat → Nat → Int32} {F' : Nat → Nat → Option Nat} {J' : Nat → Nat → Int64} {S : Nat → Prop} (h : rB K n I F rd sg L x p) (g : GR S (K, n, I, F, J) (K', n', I', F', J')) (h1 : ¬ S rd) (h2 : ¬ S sg) : rB K' n' I' F' rd sg L x p := by
  obtain ⟨k1, k2, k3, k4, k5, k6, k7, k8, k9⟩ := h
  obtain ⟨g1, g2, g3⟩ := g rd (by show K rd ≠ 0; omega)
  obtain ⟨g3, g4, -⟩ := g3 h1
  obtain ⟨f1, f2, f3⟩ := g sg (by show K sg ≠ 0; omega)
  obtain ⟨f3, -, -⟩ := f3 h2
  dsimp only at g1 g2 g3 g4 f1 f2 f3
  exact ⟨by rw [g1]; exact k1, by rw [g4]; exact k2, by rw [f1]; exact k3, by rw [f2]; exact k4, k5, by rw [g3]; exact k6, by rw [g3]; exact k7, k8, by rw [f3]; exact k9⟩
/-- something new is made, nothing else changes -/
theorem rS.made {K' n' : Nat → Nat} {I' : Nat → Nat → Int32} {F' : Nat → Nat → Option Nat} (hB : rB K n I F rd sg L x p) (g : GR (fun _ => False) (K, n, I, F, J) (K', n', I', F', J)) (hG' : HG E K' F') : rS E (K, n, I, F, J) (K', n', I', F', J) rd sg L x p := by
  obtain ⟨-, -, g3⟩ := g rd (by show K rd ≠ 0; have := hB.1; omega)
  obtain ⟨g3, g4, -⟩ := g3 id
  exact ⟨g.mono (fun _ _ z => z.elim), hB.fr g id id, congrFun g3 3, g4, hG'⟩
theorem rS.B {h h' : zH} {q : Nat} (a : rS E h h' rd sg L x q) : rB h'.1 h'.2.1 h'.2.2.1 h'.2.2.2.1 rd sg L x q := a.2.1
theorem zb_some {α β : Type} {a : Option α × Nat} {f : α → Nat → Option β × Nat} {u : α} {q : Nat} (h : a = (some u, q)) : zbind a f = f u q := by rw [h]; rfl
theorem zb_none {α β : Type} {a : Option α × Nat} {f : α → Nat → Option β × Nat} {q : Nat} (h : a = (none, q)) : zbind a f = (none, q) := by rw [h]; rfl
theorem tk_le {cs : List Nat} {u q : Nat} (hp : p ≤ L) (h : tkP x L cs p = (some u, q)) : q ≤ L ∧ u ∈ cs ∧ p < q := by
  have := tkP_le (x := x) (cs := cs) hp
  rw [h] at this
  have z := this.2 u rfl
  exact ⟨this.1, z.1, z.2⟩
theorem tk_leN {cs : List Nat} {q : Nat} (hp : p ≤ L) (h : tkP x L cs p = (none, q)) : q ≤ L := by
  have := tkP_le (x := x) (cs := cs) hp
  rw [h] at this
  exact this.1
theorem nm_le {lo hi v q : Nat} (hp : p ≤ L) (h : numP x L lo hi p = (some v, q)) : q ≤ L ∧ lo ≤ v ∧ v ≤ hi ∧ v < 10000 ∧ p < q := by
  have := numP_le (x := x) (lo := lo) (hi := hi) hp
  rw [h] at this
  have z := this.2 v rfl
  exact ⟨this.1, z.1, z.2.1, z.2.2.1, z.2.2.2⟩
theorem nm_leN {lo hi q : Nat} (hp : p ≤ L) (h : numP x L lo hi p = (none, q)) : q ≤ L := by
  have := numP_le (x := x) (lo := lo) (hi := hi) hp
  rw [h] at this
  exact this.1
/-- readField(most) -/
theorem c_field {most : Nat} (hm : most ≤ 100) (hB : rB K n I F rd sg L x p) (hG : HG E K F) (hcb : 4 ≤ cb) (hsb : 21 ≤ sb)
    (w1 : ∀ f q pt K' n' I' F', fldP x L most p = (some f, q) → K pt = 0 → rS E (K, n, I, F, J) (K', n', I', F', J) rd sg L x q → f.1 + f.2 ≤ 100 ∧ f.2 ≤ most → p < q → cP K' n' I' F' pt (none, f.1, f.2) → Q (.inl (some (.ref pt))) (K', n', I', F', J))
    (w2 : ∀ q K' n' I' F', fldP x L most p = (none, q) → rS E (K, n, I, F, J) (K', n', I', F', J) rd sg L x q → Q (.inr "java/lang/IllegalArgumentException") (K', n', I', F', J)) :
    AW E m_Reader_readField (K, n, I, F, J) cb sb Q 0 [some (.ref rd), some (.int (nI most)), none, none] [] := by
  have hp := hB.2.2.2.2.2.2.2.1
  refine r_Reader_readField_0 ⟨hB.1, 1, 6, cb - 1, sb - 6, by omega, by omega, ?_⟩
  refine c_numb (lo := 1) (hi := 100) (by omega) (by omega) (by omega) (by omega) hB (fun a q hq => ?_) (fun q hq => w2 q _ _ _ _ (by unfold fldP; exact zb_none hq) (rS.move hB hG (nm_leN hp hq)))
  obtain ⟨l1, l2, l3, l4, l5⟩ := nm_le hp hq
  have hB1 := hB.move l1
  refine r_Reader_readField_7 ⟨hB.1, 1, 6, cb - 2, sb - 12, by omega, by omega, ?_⟩
  refine c_take (si := 9) [44] (by omega) (by decide +kernel) (by decide +kernel) (by decide) (by decide) hB1 (by omega) (by omega) (fun u q2 hq2 => ?_) (fun q2 hq2 => ?_)
  rotate_left
  · rw [zup4]
    exact w2 q2 _ _ _ _ (by unfold fldP; rw [zb_some hq, zb_none hq2]) (rS.move hB hG (tk_leN l1 hq2))
  obtain ⟨m1, m2, m3⟩ := tk_le l1 hq2
  rw [zup4]
  have hB2 := hB.move m1
  refine r_Reader_readField_14 ?_
  have e1 : (101 : Int32) - nI a = nI (101 - a) := pk_sub (a := 101) (by omega)
  rw [e1]
  refine c_min (by omega) (by omega) (r_Reader_readField_25 ⟨hB.1, 1, 6, cb - 3, sb - 18, by omega, by omega, ?_⟩)
  refine c_numb (lo := 1) (hi := min most (101 - a)) (by omega) (by omega) (by omega) (by omega) hB2 (fun b q3 hq3 => ?_) (fun q3 hq3 => ?_)
  rotate_left
  · rw [zup4]
    exact w2 q3 _ _ _ _ (by unfold fldP; rw [zb_some hq, zb_some hq2, zb_none hq3]) (rS.move hB hG (nm_leN m1 hq3))
  obtain ⟨r1, r2, r3, r4, r5⟩ := nm_le m1 hq3
  rw [zup4]
  have hs := rS.move (J := J) hB hG r1
  refine r_Reader_readField_28 ⟨1, 3, cb - 4, sb - 21, by omega, by omega, ?_⟩
  refine c_ofField ⟨l2, l3⟩ (by omega) hG (by omega) (by omega) (fun pt K' I' F' h0 g hG' hP => r_Reader_readField_34 ?_)
  exact w1 (a - 1, b) q3 pt K' n I' F' (by unfold fldP; rw [zb_some hq, zb_some hq2, zb_some hq3]) h0 (hs.trans (rS.made hs.B g hG')) ⟨by show a - 1 + b ≤ 100; omega, by show b ≤ most; omega⟩ (by omega) hP
theorem isTx_iff {v : Int32} {u : Nat} (h : zc v u) : (¬ v < (32 : Int32) ∧ ¬ (126 : Int32) < v ∧ ¬ v = (39 : Int32)) ↔ isTx u = true := by
  unfold isTx
  rw [decide_eq_true_iff]
  have a := zc_lt h (c := 32) (by omega)
  have b := zc_gt h (c := 126) (by omega)
  have c := zc_eq h (c := 39) (by omega)
  constructor
  · intro ⟨p, q, r⟩
    have h1 : ¬ u < 32 := fun z => p (a.mpr z)
    have h2 : ¬ 126 < u := fun z => q (b.mpr z)
    have h3 : ¬ u = 39 := fun z => r (c.mpr z)
    omega
  · intro ⟨p, q, r⟩
    exact ⟨fun z => by have := a.mp z; omega, fun z => by have := b.mp z; omega, fun z => by have := c.mp z; omega⟩
theorem c_isText {v : Int32} (w : Q (.inl (some (.int (if ¬ v < (32 : Int32) ∧ ¬ (126 : Int32) < v ∧ ¬ v = (39 : Int32) then 1 else 0)))) (K, n, I, F, J)) : AW E m_Reader_isTextSign (K, n, I, F, J) cb sb Q 0 [some (.int v)] [] := by
  refine r_Reader_isTextSign_0 ⟨fun h => ?_, fun h => ⟨fun h2 => ?_, fun h2 => ⟨fun h3 => ?_, fun h3 => ?_⟩⟩⟩
  · rw [if_neg (fun z => z.1 h)] at w; exact w
  · rw [if_neg (fun z => z.2.1 h2)] at w; exact w
  · rw [if_neg (fun z => z.2.2 h3)] at w; exact w
  · rw [if_pos ⟨h, h2, h3⟩] at w; exact w
theorem scF_le : ∀ d p, p ≤ L → p ≤ scF x L d p ∧ scF x L d p ≤ L ∧ scF x L d p ≤ p + d ∧ ∀ k, k < scF x L d p - p → isTx (x (p + k)) = true
  | 0, p, h => ⟨Nat.le_refl _, h, by unfold scF; omega, fun k hk => by unfold scF at hk; omega⟩
  | d + 1, p, h => by
    unfold scF
    split
    · rename_i q
      have := scF_le d (p + 1) (by omega)
      refine ⟨by omega, by omega, by omega, fun k hk => ?_⟩
      cases k with
      | zero => exact q.2
      | succ k =>
        have := this.2.2.2 k (by omega)
        rwa [show p + 1 + k = p + (k + 1) by omega] at this
    · exact ⟨Nat.le_refl _, h, by omega, fun k hk => by omega⟩
/-- the loop that copies a text -/
theorem c_textC {s b : Nat} {v : Nat} (hb : K b = 20) (hn : n b = v) (hv : v ≤ 100) (hs : s + v ≤ L) (hcb : 1 ≤ cb) (hsb : 3 ≤ sb) (htx : ∀ k, k < v → isTx (x (s + k)) = true) (hpl : p < L) (hf : ∀ x, K x = 4 ∨ K x = 2 → F x 0 ≠ some b) (hG : HG E K F) : ∀ (d k : Nat) (I : Nat → Nat → Int32), rB K n I F rd sg L x p → k + d = v → (∀ j, j < k → I b j = nI (x (s + j))) →
    (∀ pt K' n' I' F', K pt = 0 → GR (fun a => a = rd ∨ a = b) (K, n, I, F, J) (K', n', I', F', J) → rB K' n' I' F' rd sg L x (p + 1) → I' rd 3 = I rd 3 → F' rd = F rd → HG E K' F' → cP K' n' I' F' pt (some ((List.range v).map fun k => x (s + k)), 0, v) → Q (.inl (some (.ref pt))) (K', n', I', F', J)) →
    AW E m_Reader_readText (K, n, I, F, J) cb sb Q 116 [some (.ref rd), some (.int (nI s)), some (.ref b), some (.int (nI k))] []
  | 0, k, I, hB, hk, hI, w => by
    obtain ⟨h1, h2, h3, h4, h5, h6, h7, h8, h9⟩ := id hB
    have hrb : b ≠ rd := fun z => by rw [z] at hb; omega
    refine r_Reader_readText_116 ⟨by omega, ?_⟩
    rw [hn]
    refine br_t (nI_le (by omega) (by omega)) ⟨h1, cb, sb, 0, 0, by omega, by omega, ?_⟩
    rw [h7, nI_1]
    have hlen : ((List.range v).map fun k => x (s + k)).length = v := by simp
    have hget : ∀ j, j < v → ((List.range v).map fun k => x (s + k)).getD j 0 = x (s + j) := fun j hj => by
      simp [List.getD_eq_getElem?_getD, hj]
    have hs2 := rS.move (E := E) (J := J) hB hG (q := p + 1) (by omega)
    refine c_ofText (ts := (List.range v).map fun k => x (s + k)) hb (by rw [hn, hlen]) (by rw [hlen]; omega) ?_ (fun j hj => ?_) hf hG (by omega) (by omega) (fun pt K' I' F' h0 g hG' hP => r_Reader_readText_154 ?_)
    · intro y hy
      obtain ⟨j, hj, rfl⟩ := List.mem_map.mp hy
      have := of_decide_eq_true (htx j (List.mem_range.mp hj))
      omega
    · rw [hlen] at hj
      rw [zup_n _ _ _ hrb, hget j hj]
      exact hI j (by omega)
    · rw [hlen] at hP
      have hs3 := hs2.trans (rS.made hs2.B g hG')
      exact w pt K' n I' F' h0 (hs3.1.mono (fun _ _ z => Or.inl z)) hs3.2.1 hs3.2.2.1 hs3.2.2.2.1 hG' hP
  | d + 1, k, I, hB, hk, hI, w => by
    obtain ⟨h1, h2, h3, h4, h5, h6, h7, h8, h9⟩ := id hB
    have hrb : rd ≠ b := fun z => by rw [← z] at hb; omega
    have hsb2 : sg ≠ b := fun z => by rw [← z] at hb; omega
    refine r_Reader_readText_116 ⟨by omega, ?_⟩
    rw [hn]
    refine br_f (nI_ge (by omega) (by omega)) ⟨h1, sg, h2, h3, s + k, nI_add s k, by omega, by omega, hb, k, rfl, by omega, by omega, ?_⟩
    have ht := of_decide_eq_true (htx k (by omega))
    have hv9 : I sg (s + k) = nI (x (s + k)) := by
      rcases h9 (s + k) (by omega) with ⟨-, q | ⟨-, q⟩⟩
      · exact q
      · omega
    have e : ((I sg (s + k)).toInt8.toInt32).toInt8.toInt32 = nI (x (s + k)) := by
      rw [zsb_twice, hv9]
      have : ∀ u : Nat, u < 128 → (nI u).toInt8.toInt32 = nI u := by decide +kernel
      exact this _ (by omega)
    rw [e, nI_1]
    have g : GR (fun a => a = b) (K, n, I, F, J) (K, n, zup I b k (nI (x (s + k))), F, J) := fun a _ => ⟨rfl, rfl, fun hn => ⟨zup_n _ _ _ hn, rfl, rfl⟩⟩
    refine c_textC hb hn hv hs hcb hsb htx hpl hf hG d (k + 1) _ (hB.fr g hrb hsb2) (by omega) (fun j hj => ?_) (fun pt K' n' I' F' h0 g' r' i3 f3 hG' hP => w pt K' n' I' F' h0 (GR.trans (g.mono (fun _ _ z => Or.inr z)) g' (fun _ _ z => z)) r' (i3.trans (by rw [zup_n _ _ _ hrb])) f3 hG' hP)
    by_cases q : j = k
    · subst q; exact zup_s _ _ _ _
    · rw [zup_k _ _ _ q]; exact hI j (by omega)
/-- the scanning loop of readText, and what comes of it -/
theorem c_textL {s : Nat} (hG : HG E K F) (hcb : 2 ≤ cb) (hsb : 23 ≤ sb) (hsL : s ≤ L) : ∀ (d p : Nat) (I : Nat → Nat → Int32), rB K n I F rd sg L x p → p + d = s + 20 → s ≤ p → scF x L 20 s = scF x L d p →
    (∀ t q pt K' n' I' F', txtP x L s = (some t, q) → K pt = 0 → rS E (K, n, I, F, J) (K', n', I', F', J) rd sg L x q → t.length ≤ 20 → cP K' n' I' F' pt (some t, 0, t.length) → Q (.inl (some (.ref pt))) (K', n', I', F', J)) →
    (∀ q K' n' I' F', txtP x L s = (none, q) → rS E (K, n, I, F, J) (K', n', I', F', J) rd sg L x q → Q (.inr "java/lang/IllegalArgumentException") (K', n', I', F', J)) →
    AW E m_Reader_readText (K, n, I, F, J) cb sb Q 12 [some (.ref rd), some (.int (nI s)), none, none] [] := by
  intro d
  have fin : ∀ (p : Nat) (I : Nat → Nat → Int32), rB K n I F rd sg L x p → s ≤ p → p ≤ s + 20 → scF x L 20 s = p →
    (∀ t q pt K' n' I' F', txtP x L s = (some t, q) → K pt = 0 → rS E (K, n, I, F, J) (K', n', I', F', J) rd sg L x q → t.length ≤ 20 → cP K' n' I' F' pt (some t, 0, t.length) → Q (.inl (some (.ref pt))) (K', n', I', F', J)) →
    (∀ q K' n' I' F', txtP x L s = (none, q) → rS E (K, n, I, F, J) (K', n', I', F', J) rd sg L x q → Q (.inr "java/lang/IllegalArgumentException") (K', n', I', F', J)) →
    (((I rd 4) = nI s → (1 ≤ cb ∧ 6 ≤ sb ∧ Q (.inr "java/lang/IllegalArgumentException") (K, n, I, F, J))) ∧ (¬ (I rd 4) = nI s → (((I rd 1) ≤ (I rd 4) → (1 ≤ cb ∧ 6 ≤ sb ∧ Q (.inr "java/lang/IllegalArgumentException") (K, n, I, F, J))) ∧ (¬ (I rd 1) ≤ (I rd 4) → (∃ b5 : Nat, F rd 0 = some b5 ∧ K b5 = 21 ∧ (∃ j7 : Nat, (I rd 4) = nI j7 ∧ j7 < n b5 ∧ j7 < 2147483648 ∧ (((I b5 j7) = (39 : Int32) → (∃ NN : Nat, ((I rd 4) - nI s) = nI NN ∧ NN ≤ 100000 ∧ (∃ cb9 sb9 : Nat, cb9 + 1 ≤ cb ∧ sb9 + NN ≤ sb ∧ ∀ q : Nat, K q = 0 → AW E m_Reader_readText ((va_up K q 20), (va_up n q NN), (va_up I q (fun _ => 0)), F, J) cb9 sb9 Q 113 [some (.ref rd), some (.int (nI s)), none, none] [.ref q]))) ∧ (¬ (I b5 j7) = (39 : Int32) → (1 ≤ cb ∧ 6 ≤ sb ∧ Q (.inr "java/lang/IllegalArgumentException") (K, n, I, F, J)))))))))) := by
    intro p I hB hs1 hs2 hsc w1 w2
    obtain ⟨h1, h2, h3, h4, h5, h6, h7, h8, h9⟩ := id hB
    have self : rS E (K, n, I, F, J) (K, n, I, F, J) rd sg L x p := ⟨GR.refl _, hB, rfl, rfl, hG⟩
    have bad : (p = s ∨ ¬ (p < L ∧ x p = 39)) → Q (.inr "java/lang/IllegalArgumentException") (K, n, I, F, J) := fun z => by
      refine w2 p K n I F ?_ self
      unfold txtP
      dsimp only
      rw [hsc, if_pos z]
    rw [h6, h7]
    refine pk_eq p s (fun z => ⟨by omega, by omega, bad (Or.inl z)⟩) (fun z => pk_le L p (fun z2 => ⟨by omega, by omega, bad (Or.inr (by omega))⟩) (fun z2 => ⟨sg, h2, h3, p, rfl, by omega, by omega, ?_⟩) rfl rfl (by omega) (by omega)) rfl rfl (by omega) (by omega)
    have e39 := zc_eq (h9 p z2) (c := 39) (by omega)
    refine ⟨fun z3 => ⟨p - s, pk_sub hs1, by omega, cb - 1, sb - (p - s), by omega, by omega, fun b hb => r_Reader_readText_113 ?_⟩, fun z3 => ⟨by omega, by omega, bad (Or.inr (fun q => z3 (e39.mpr q.2)))⟩⟩
    have hx39 := e39.mp z3
    have g : GR (fun _ => False) (K, n, I, F, J) (va_up K b 20, va_up n b (p - s), va_up I b (fun _ => 0), F, J) := GR.newB hb 20 (p - s) _
    have hB1 := hB.fr g id id
    have hG1 := hG.newA 20 (Or.inl rfl) hb
    have hsp := scF_le (x := x) 20 s hsL
    rw [hsc] at hsp
    refine c_textC (v := p - s) (va_up_s _ _ _) (va_up_s _ _ _) (by omega) (by omega) (by omega) (by omega) (fun k hk => hsp.2.2.2 k hk) z2 (fun y hy hf => ?_) hG1 (p - s) 0 _ hB1 (by omega) (fun j hj => by omega) (fun pt K' n' I' F' h0 g' r' i3 f3 hG' hP => ?_)
    · have hyb : y ≠ b := fun q => by rw [q, va_up_s] at hy; omega
      rw [va_up_n _ _ hyb] at hy
      rcases hy with hy | hy
      · have := hG.2.2.1 y b hy hf; omega
      · have := hG.2.2.2.2.1 y b hy hf; omega
    · have hrb : rd ≠ b := fun q => by rw [q, hb] at h1; cases h1
      have hpt : K pt = 0 := by
        by_cases q : pt = b
        · rw [q]; exact hb
        · rwa [va_up_n _ _ q] at h0
      have hlen : ((List.range (p - s)).map fun k => x (s + k)).length = p - s := by simp
      refine w1 ((List.range (p - s)).map fun k => x (s + k)) (p + 1) pt K' n' I' F' ?_ hpt ⟨?_, r', ?_, f3, hG'⟩ (by rw [hlen]; omega) (by rw [hlen]; exact hP)
      · unfold txtP
        dsimp only
        rw [hsc, if_neg (fun q => q.elim z (fun q => q ⟨z2, hx39⟩))]
      · exact GR.trans (g.mono (fun _ _ q => q.elim)) (g'.mono (S' := fun a => a = rd ∨ a = b) (fun _ _ q => q)) (fun a ha q => q.elim id (fun q => absurd (by show K a = 0; rw [q]; exact hb) ha))
      · show I' rd 3 = I rd 3
        rw [i3, va_up_n _ _ hrb]
  induction d with
  | zero =>
    intro p I hB hp hs hsc w1 w2
    obtain ⟨h1, h2, h3, h4, h5, h6, h7, h8, h9⟩ := id hB
    have F9 := fin p I hB hs (by omega) (by rw [hsc]; rfl) w1 w2
    refine r_Reader_readText_12 ⟨h1, ?_⟩
    have e20 : (20 : Int32) ≤ I rd 4 - nI s := by
      rw [h7, pk_sub hs, show p - s = 20 by omega]; decide
    exact ⟨fun _ => F9, fun _ => ⟨fun _ => F9, fun q => absurd e20 q⟩⟩
  | succ d ih =>
    intro p I hB hp hs hsc w1 w2
    obtain ⟨h1, h2, h3, h4, h5, h6, h7, h8, h9⟩ := id hB
    by_cases hg : p < L ∧ isTx (x p) = true
    · refine r_Reader_readText_12 ⟨h1, ?_⟩
      have hz := isTx_iff (h9 p hg.1)
      refine br_f (by rw [h6, h7]; exact nI_ge hg.1 (by omega)) (br_f (by rw [h7, pk_sub hs]; exact nI_ge (b := 20) (by omega) (by omega)) ⟨sg, h2, h3, p, h7, by omega, by omega, c_isText ?_⟩)
      rw [if_pos (hz.mpr hg.2)]
      refine r_Reader_readText_46 ⟨fun q => absurd q (by decide), fun _ => ⟨h1, ?_⟩⟩
      rw [h7, nI_1]
      have hm := rS.move (E := E) (J := J) hB hG (q := p + 1) (by omega)
      refine ih (p + 1) _ hm.B (by omega) (by omega) (by rw [hsc, scF, if_pos hg]) (fun t q pt K' n' I' F' a1 a2 a3 => w1 t q pt K' n' I' F' a1 a2 (hm.trans a3)) (fun q K' n' I' F' a1 a2 => w2 q K' n' I' F' a1 (hm.trans a2))
    · have F9 := fin p I hB hs (by omega) (by rw [hsc, scF, if_neg hg]) w1 w2
      refine r_Reader_readText_12 ⟨h1, ?_⟩
      refine ⟨fun _ => F9, fun q => ⟨fun _ => F9, fun q2 => ⟨sg, h2, h3, p, h7, ?_, by omega, c_isText ?_⟩⟩⟩
      · rw [h6, h7] at q
        have : p < L := Nat.lt_of_not_le (fun z => q (nI_le z (by omega)))
        omega
      have hpL : p < L := by
        rw [h6, h7] at q
        exact Nat.lt_of_not_le (fun z => q (nI_le z (by omega)))
      have hz := isTx_iff (h9 p hpL)
      rw [if_neg (fun z => hg ⟨hpL, hz.mp z⟩)]
      exact r_Reader_readText_46 ⟨fun _ => ⟨h1, F9⟩, fun z => absurd rfl z⟩
end
