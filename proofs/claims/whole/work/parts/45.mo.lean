-- ===== the reference: words =====
/-- a word as a number -/
def vv (x : zTx) (p : Nat) : Nat → Nat
  | 0 => 0
  | i + 1 => if i < 6 then 27 * vv x p i + (x (p + i) - 96) else 0
theorem vv_lt (x : zTx) (p : Nat) : ∀ i, (∀ j, j < i → isLt (x (p + j)) = true) → vv x p i < 27 ^ i
  | 0, _ => by unfold vv; omega
  | i + 1, h => by
    have ih := vv_lt x p i (fun j hj => h j (by omega))
    have hl := h i (by omega)
    unfold isLt at hl
    have hl := of_decide_eq_true hl
    unfold vv
    rw [Nat.pow_succ]
    split <;> omega
theorem spl_iff (x : zTx) (k p q : Nat) : spl x k p q = true ↔ q - p = (zwc k).length ∧ ∀ i, i < (zwc k).length → x (p + i) = (zwc k).getD i 0 := by unfold spl; rw [decide_eq_true_iff]
def mWI (x1 x2 : Int32) : Int32 := if x2 = 14431 ∧ x1 = 3 then 3 else if x2 = 11522 ∧ x1 = 3 then 4 else if x2 = 382255 ∧ x1 = 4 then 5 else if x2 = 388978 ∧ x1 = 4 then 6 else -1
def mWJ (x1 x2 : Int32) : Int32 := if x2 = 385418 ∧ x1 = 4 then 0 else if x2 = 304985 ∧ x1 = 4 then 2 else mWI x1 x2
section
variable {E : zE} {B : (Nat → Nat → Int32) × (Nat → Nat → Int64)} {K n : Nat → Nat} {I : Nat → Nat → Int32} {F : Nat → Nat → Option Nat} {J : Nat → Nat → Int64} {m : Nat} {A : Nat → Nat} {V : Nat → Nat → Int32} {T : Nat → Int64} {cb sb : Nat} {Q : zO → zH → Prop} {x : zTx} {L p : Nat}
theorem mo_w126 {x1 x2 : Int32} (w : Q (.inl (some (.int (mWI x1 x2)))) (K, n, I, F, J)) : AW E m_Mo_word (K, n, I, F, J) cb sb Q 126 [none, some (.int x1), some (.int x2)] [] := by
  refine r_Mo_word_126 ?_
  have f1 : x2 = 14431 → x1 = 3 → mWI x1 x2 = 3 := fun a b => by unfold mWI; rw [if_pos ⟨a, b⟩]
  have f2 : x2 = 11522 → x1 = 3 → mWI x1 x2 = 4 := fun a b => by subst a; subst b; decide
  have f3 : x2 = 382255 → x1 = 4 → mWI x1 x2 = 5 := fun a b => by subst a; subst b; decide
  have f4 : x2 = 388978 → x1 = 4 → mWI x1 x2 = 6 := fun a b => by subst a; subst b; decide
  have f5 : ¬ (x2 = 14431 ∧ x1 = 3) → ¬ (x2 = 11522 ∧ x1 = 3) → ¬ (x2 = 382255 ∧ x1 = 4) → ¬ (x2 = 388978 ∧ x1 = 4) → mWI x1 x2 = -1 := fun a b c d => by unfold mWI; rw [if_neg a, if_neg b, if_neg c, if_neg d]
  have g1 : x2 = 14431 → ¬ x2 = 11522 ∧ ¬ x2 = 382255 ∧ ¬ x2 = 388978 := fun a => by subst a; decide
  have g2 : x2 = 11522 → ¬ x2 = 14431 ∧ ¬ x2 = 382255 ∧ ¬ x2 = 388978 := fun a => by subst a; decide
  have g3 : x2 = 382255 → ¬ x2 = 14431 ∧ ¬ x2 = 11522 ∧ ¬ x2 = 388978 := fun a => by subst a; decide
  have tl : ¬ (x2 = 14431 ∧ x1 = 3) → ¬ (x2 = 11522 ∧ x1 = 3) → ((¬ x2 = (382255 : Int32) → ((¬ x2 = (388978 : Int32) → Q (.inl (some (.int ((-1) : Int32)))) (K, n, I, F, J)) ∧ (x2 = (388978 : Int32) → ((¬ x1 = (4 : Int32) → Q (.inl (some (.int ((-1) : Int32)))) (K, n, I, F, J)) ∧ (x1 = (4 : Int32) → Q (.inl (some (.int (6 : Int32)))) (K, n, I, F, J)))))) ∧ (x2 = (382255 : Int32) → ((¬ x1 = (4 : Int32) → ((¬ x2 = (388978 : Int32) → Q (.inl (some (.int ((-1) : Int32)))) (K, n, I, F, J)) ∧ (x2 = (388978 : Int32) → ((¬ x1 = (4 : Int32) → Q (.inl (some (.int ((-1) : Int32)))) (K, n, I, F, J)) ∧ (x1 = (4 : Int32) → Q (.inl (some (.int (6 : Int32)))) (K, n, I, F, J)))))) ∧ (x1 = (4 : Int32) → Q (.inl (some (.int (5 : Int32)))) (K, n, I, F, J))))) := fun a b => by
    refine ⟨fun c => ⟨fun d => ?_, fun d => ⟨fun e => ?_, fun e => ?_⟩⟩, fun c => ⟨fun d => ⟨fun e => ?_, fun e => absurd e (g3 c).2.2⟩, fun d => ?_⟩⟩
    · rw [f5 a b (fun z => c z.1) (fun z => d z.1)] at w; exact w
    · rw [f5 a b (fun z => c z.1) (fun z => e z.2)] at w; exact w
    · rw [f4 d e] at w; exact w
    · rw [f5 a b (fun z => d z.2) (fun z => e z.1)] at w; exact w
    · rw [f3 c d] at w; exact w
  have tm : ¬ (x2 = 14431 ∧ x1 = 3) → ((¬ x2 = (11522 : Int32) → _) ∧ (x2 = (11522 : Int32) → ((¬ x1 = (3 : Int32) → _) ∧ (x1 = (3 : Int32) → Q (.inl (some (.int (4 : Int32)))) (K, n, I, F, J))))) := fun a => ⟨fun b => tl a (fun z => b z.1), fun b => ⟨fun c => tl a (fun z => c z.2), fun c => by rw [f2 b c] at w; exact w⟩⟩
  exact ⟨fun a => tm (fun z => a z.1), fun a => ⟨fun b => tm (fun z => b z.2), fun b => by rw [f1 a b] at w; exact w⟩⟩
theorem mo_isInc (h : MS B K n I F J m A V T) (ht : mT V x L) (hp : p + 7 ≤ L) (w : Q (.inl (some (.int (zB (spl x 1 p (p + 7)))))) (K, n, I, F, J)) : AW E m_Mo_isInclude (K, n, I, F, J) cb sb Q 0 [some (.ref m), some (.int (nI p))] [] := by
  have h5 := ht.2.1
  have es : ∀ i, i < 7 → sat x L (p + i) = some (x (p + i)) := fun i hi => if_pos (by omega)
  have hb : ∀ i, i < 7 → x (p + i) < 2 ^ 31 := fun i hi => (ht.2.2 (p + i) (by omega)).2
  have no : ∀ i, i < 7 → ¬ nI (x (p + i)) = nI ((zwc 1).getD i 0) → Q (.inl (some (.int (0 : Int32)))) (K, n, I, F, J) := fun i hi hn => by
    have : spl x 1 p (p + 7) = false := by
      cases e : spl x 1 p (p + 7) with
      | false => rfl
      | true => exact absurd (by rw [((spl_iff x 1 p (p + 7)).mp e).2 i hi]) hn
    rw [this] at w; exact w
  have at' : ∀ {Q' : zO → zH → Prop} {c s : Nat} (i : Nat), i < 7 → Q' (.inl (some (.int (nI (x (p + i)))))) (K, n, I, F, J) → AW E m_Mo_at (K, n, I, F, J) c s Q' 0 [some (.ref m), some (.int (nI p + nI i))] [] := fun i hi q => by
    rw [nI_add]
    refine mo_at h ht (by omega) ?_
    rw [es i hi]; exact q
  have yes : ∀ i, i < 7 → ∀ c, c < 2 ^ 31 → nI (x (p + i)) = nI c → x (p + i) = c := fun i hi c hc e => (nI_eq (hb i hi) hc).mp e
  refine r_Mo_isInclude_0 ⟨h.K9, ?_⟩
  have a0 := @at' (zAft E m_Mo_isInclude cb sb Q 2 [some (.ref m), some (.int (nI p))] []) 0 0 0 (by decide)
  have z0 : nI p + nI 0 = nI p := by rw [nI_add]; rfl
  rw [z0] at a0
  refine a0 (r_Mo_isInclude_5 ⟨fun z => no 0 (by decide) z, fun y0 => ⟨h.K9, at' 1 (by decide) (r_Mo_isInclude_17 ⟨fun z => no 1 (by decide) z, fun y1 => ⟨h.K9, at' 2 (by decide) (r_Mo_isInclude_29 ⟨fun z => no 2 (by decide) z, fun y2 => ⟨h.K9, at' 3 (by decide) (r_Mo_isInclude_41 ⟨fun z => no 3 (by decide) z, fun y3 => ⟨h.K9, at' 4 (by decide) (r_Mo_isInclude_53 ⟨fun z => no 4 (by decide) z, fun y4 => ⟨h.K9, at' 5 (by decide) (r_Mo_isInclude_65 ⟨fun z => no 5 (by decide) z, fun y5 => ⟨h.K9, at' 6 (by decide) (r_Mo_isInclude_78 ⟨fun z => no 6 (by decide) z, fun y6 => ?_⟩)⟩⟩)⟩⟩)⟩⟩)⟩⟩)⟩⟩)⟩⟩)
  have : spl x 1 p (p + 7) = true := by
    rw [spl_iff]
    refine ⟨by show p + 7 - p = 7; omega, fun i hi => ?_⟩
    replace hi : i < 7 := hi
    have : i = 0 ∨ i = 1 ∨ i = 2 ∨ i = 3 ∨ i = 4 ∨ i = 5 ∨ i = 6 := by omega
    rcases this with e | e | e | e | e | e | e <;> subst e
    · exact yes 0 (by decide) 105 (by decide) y0
    · exact yes 1 (by decide) 110 (by decide) y1
    · exact yes 2 (by decide) 99 (by decide) y2
    · exact yes 3 (by decide) 108 (by decide) y3
    · exact yes 4 (by decide) 117 (by decide) y4
    · exact yes 5 (by decide) 100 (by decide) y5
    · exact yes 6 (by decide) 101 (by decide) y6
  rw [this] at w
  exact w
end
/-- which word is spelt from p to q: its number -/
def wdN (x : zTx) (p q : Nat) : Option Nat := if spl x 0 p q then some 0 else if spl x 1 p q then some 1 else if spl x 2 p q then some 2 else if spl x 3 p q then some 3 else if spl x 4 p q then some 4 else if spl x 5 p q then some 5 else if spl x 6 p q then some 6 else none
theorem wdN_spl {x : zTx} {p q k : Nat} (h : wdN x p q = some k) : spl x k p q = true ∧ k < 7 := by
  unfold wdN at h
  repeat' split at h
  all_goals first | (have e := Option.some.inj h; subst e; exact ⟨by assumption, by decide⟩) | cases h
/-- words differ -/
theorem spl_one {x : zTx} {p q j k : Nat} (hj : j < 7) (hk : k < 7) (h1 : spl x j p q = true) (h2 : spl x k p q = true) : j = k := by
  rw [spl_iff] at h1 h2
  have hl : (zwc j).length = (zwc k).length := h1.1.symm.trans h2.1
  have hz : zwc j = zwc k := by
    apply List.ext_getElem? 
    intro i
    by_cases hi : i < (zwc j).length
    · have a1 := h1.2 i hi
      have a2 := h2.2 i (by omega)
      rw [List.getD_eq_getElem?_getD, List.getElem?_eq_getElem hi] at a1
      rw [List.getD_eq_getElem?_getD, List.getElem?_eq_getElem (by omega)] at a2
      rw [List.getElem?_eq_getElem hi, List.getElem?_eq_getElem (by omega)]
      exact congrArg some (a1.symm.trans a2)
    · rw [List.getElem?_eq_none (by omega), List.getElem?_eq_none (by omega)]
  have key : ∀ j, j < 7 → ∀ k, k < 7 → zwc j = zwc k → j = k := by decide +kernel
  exact key j hj k hk hz
theorem wdN_none {x : zTx} {p q : Nat} (h : wdN x p q = none) : ∀ k, k < 7 → spl x k p q = false := by
  intro k hk
  cases e : spl x k p q with
  | false => rfl
  | true =>
    exfalso
    have : k = 0 ∨ k = 1 ∨ k = 2 ∨ k = 3 ∨ k = 4 ∨ k = 5 ∨ k = 6 := by omega
    unfold wdN at h
    rcases this with y | y | y | y | y | y | y <;> subst y <;> simp only [e, if_true] at h <;> (repeat' split at h) <;> cases h
theorem wdF_eq (x : zTx) (mk p q : Nat) : ∀ (d k : Nat), k + d = 7 → wdF x mk p q k d = (match wdN x p q with | some w => if k ≤ w ∧ mk &&& zwb w = 0 then some w else none | none => none)
  | 0, k, hk => by
    unfold wdF
    cases e : wdN x p q with
    | none => rfl
    | some w =>
      have := (wdN_spl e).2
      dsimp only
      rw [if_neg (fun z => by omega)]
  | d + 1, k, hk => by
    unfold wdF
    rw [wdF_eq x mk p q d (k + 1) (by omega)]
    cases e : wdN x p q with
    | none =>
      dsimp only
      rw [if_neg (fun z => by have := wdN_none e k (by omega); rw [this] at z; cases z.2)]
    | some w =>
      obtain ⟨s1, s2⟩ := wdN_spl e
      dsimp only
      by_cases hkw : k = w
      · subst hkw
        by_cases hm : mk &&& zwb k = 0
        · rw [if_pos ⟨hm, s1⟩, if_pos ⟨Nat.le_refl _, hm⟩]
        · rw [if_neg (fun z => hm z.1), if_neg (fun z => by omega), if_neg (fun z => hm z.2)]
      · rw [if_neg (fun z => hkw (spl_one (by omega) s2 z.2 s1))]
        by_cases hm : k ≤ w ∧ mk &&& zwb w = 0
        · rw [if_pos hm, if_pos ⟨by omega, hm.2⟩]
        · rw [if_neg hm, if_neg (fun z => hm ⟨by omega, z.2⟩)]
theorem wordP_eq (x : zTx) (L mk p : Nat) : wordP x L mk p = (match wdN x p (lwF x L (L - p) p) with | some w => if mk &&& zwb w = 0 then (some w, lwF x L (L - p) p) else (none, p) | none => (none, p)) := by
  unfold wordP
  dsimp only
  rw [wdF_eq x mk p _ 7 0 rfl]
  cases wdN x p (lwF x L (L - p) p) with
  | none => rfl
  | some w =>
    dsimp only
    by_cases hm : mk &&& zwb w = 0
    · rw [if_pos ⟨Nat.zero_le _, hm⟩, if_pos hm]
    · rw [if_neg (fun z => hm z.2), if_neg hm]
