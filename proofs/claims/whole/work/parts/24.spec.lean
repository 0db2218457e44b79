-- ===== what a text says =====
abbrev zTx : Type := Nat → Nat
def sat (x : zTx) (L p : Nat) : Option Nat := if p < L then some (x p) else none
def skF (x : zTx) (L : Nat) : Nat → Nat → Nat
  | 0, p => p
  | d + 1, p => if p < L ∧ (x p = 32 ∨ x p = 10) then skF x L d (p + 1) else p
/-- the next place that is no blank -/
def sk (x : zTx) (L p : Nat) : Nat := skF x L (L - p) p
def isDg (u : Nat) : Bool := decide (48 ≤ u ∧ u ≤ 57)
def isLt (u : Nat) : Bool := decide (97 ≤ u ∧ u ≤ 122)
def isTx (u : Nat) : Bool := decide (32 ≤ u ∧ u ≤ 126 ∧ u ≠ 39)
/-- digits, at most d more -/
def ndF (x : zTx) (L : Nat) : Nat → Nat → Nat → Nat × Nat
  | 0, acc, p => (acc, p)
  | d + 1, acc, p => if p < L ∧ isDg (x p) = true then ndF x L d (acc * 10 + (x p - 48)) (p + 1) else (acc, p)
def numP (x : zTx) (L lo hi p : Nat) : Option Nat × Nat :=
  let s := sk x L p
  let v := ndF x L 4 0 s
  if v.2 = s ∨ (v.2 < L ∧ isDg (x v.2) = true) ∨ v.1 < lo ∨ hi < v.1 then (none, v.2) else (some v.1, v.2)
def tkP (x : zTx) (L : Nat) (cs : List Nat) (p : Nat) : Option Nat × Nat := match sat x L (sk x L p) with
  | some u => if u ∈ cs then (some u, sk x L p + 1) else (none, sk x L p)
  | none => (none, sk x L p)
/-- one after the other -/
def zbind {α β : Type} (a : Option α × Nat) (f : α → Nat → Option β × Nat) : Option β × Nat := match a with
  | (some u, q) => f u q
  | (none, q) => (none, q)
def fldP (x : zTx) (L most p : Nat) : Option (Nat × Nat) × Nat :=
  zbind (numP x L 1 100 p) fun a q => zbind (tkP x L [44] q) fun _ q => zbind (numP x L 1 (min most (101 - a)) q) fun b q => (some (a - 1, b), q)
def scF (x : zTx) (L : Nat) : Nat → Nat → Nat
  | 0, p => p
  | d + 1, p => if p < L ∧ isTx (x p) = true then scF x L d (p + 1) else p
/-- a text, from behind its first quote on -/
def txtP (x : zTx) (L p : Nat) : Option (List Nat) × Nat :=
  let q := scF x L 20 p
  if q = p ∨ ¬ (q < L ∧ x q = 39) then (none, q) else (some ((List.range (q - p)).map fun k => x (p + k)), q + 1)
def keyP (x : zTx) (L p : Nat) : Option zKey × Nat :=
  zbind (fldP x L 40 p) fun f q => zbind (tkP x L [44] q) fun _ q => zbind (tkP x L [97, 100] q) fun w q =>
    if sat x L (sk x L q) = some 44 then zbind (tkP x L [44] q) fun _ q => zbind (tkP x L [98, 110] q) fun s q => (some (f.1, f.2, w == 100, s == 110), q)
    else (some (f.1, f.2, w == 100, false), sk x L q)
def keysF (x : zTx) (L : Nat) : Nat → Nat → Option (List zKey) × Nat
  | 0, p => (none, p)
  | d + 1, p => zbind (keyP x L p) fun k q => if d = 0 then (some [k], q) else if sat x L (sk x L q) = some 59 then (some [k], sk x L q) else zbind (keysF x L d (sk x L q)) fun ks q => (some (k :: ks), q)
def sumsF (x : zTx) (L : Nat) : Nat → Nat → Option (List zPart) × Nat
  | 0, p => (none, p)
  | d + 1, p => zbind (fldP x L 9 p) fun f q => if d = 0 then (some [(none, f.1, f.2)], q) else if sat x L (sk x L q) = some 59 then (some [(none, f.1, f.2)], sk x L q) else zbind (sumsF x L d (sk x L q)) fun ks q => (some ((none, f.1, f.2) :: ks), q)
def pieceP (x : zTx) (L p : Nat) : Option zPart × Nat :=
  if sat x L (sk x L p) = some 39 then zbind (txtP x L (sk x L p + 1)) fun t q => (some (some t, 0, t.length), q)
  else if sat x L (sk x L p) = some 120 then zbind (numP x L 1 40 (sk x L p + 1)) fun v q => (some (some (List.replicate v 32), 0, v), q)
  else zbind (fldP x L 40 (sk x L p)) fun f q => (some (none, f.1, f.2), q)
def piecesF (x : zTx) (L : Nat) : Nat → Nat → Option (List zPart) × Nat
  | 0, p => (none, p)
  | d + 1, p => zbind (pieceP x L p) fun f q => if d = 0 then (some [f], q) else if sat x L (sk x L q) = some 59 then (some [f], sk x L q) else zbind (piecesF x L d (sk x L q)) fun ks q => (some (f :: ks), q)
/-- the right side of a test -/
def rightP (x : zTx) (L p : Nat) : Option zPart × Nat :=
  if sat x L (sk x L p) = some 39 then zbind (txtP x L (sk x L p + 1)) fun t q => (some (some t, 0, t.length), q)
  else zbind (fldP x L 40 (sk x L p)) fun f q => (some (none, f.1, f.2), q)
def testP (x : zTx) (L : Nat) (b : Bool) (p : Nat) : Option zTest × Nat :=
  zbind (fldP x L 40 p) fun f q => zbind (tkP x L [61, 35, 60, 62] q) fun r q => zbind (rightP x L q) fun g q => (some (b, (none, f.1, f.2), r, g), q)
def testsF (x : zTx) (L : Nat) : Nat → Bool → Nat → Option (List zTest) × Nat
  | 0, _, p => (none, sk x L p)
  | d + 1, b, p => zbind (testP x L b p) fun t q =>
      if sat x L (sk x L q) = some 38 ∨ sat x L (sk x L q) = some 124 then zbind (testsF x L d (sat x L (sk x L q) == some 124) (sk x L q + 1)) fun ts q => (some (t :: ts), q)
      else (some [t], sk x L q)
/-- the end of a word -/
def lwF (x : zTx) (L : Nat) : Nat → Nat → Nat
  | 0, p => p
  | d + 1, p => if p < L ∧ isLt (x p) = true then lwF x L d (p + 1) else p
def zwb (k : Nat) : Nat := [1, 2, 2, 4, 8, 16, 32].getD k 0
def zwc (k : Nat) : List Nat := [[115, 111, 114, 116], [105, 110, 99, 108, 117, 100, 101], [111, 109, 105, 116], [115, 117, 109], [111, 117, 116], [115, 107, 105, 112], [115, 116, 111, 112]].getD k []
def spl (x : zTx) (k p q : Nat) : Bool := decide (q - p = (zwc k).length ∧ ∀ i, i < (zwc k).length → x (p + i) = (zwc k).getD i 0)
/-- the first word from k on that is spelt there and that is free -/
def wdF (x : zTx) (m p q : Nat) : Nat → Nat → Option Nat
  | _, 0 => none
  | k, d + 1 => if m &&& zwb k = 0 ∧ spl x k p q = true then some k else wdF x m p q (k + 1) d
def wordP (x : zTx) (L m p : Nat) : Option Nat × Nat :=
  let q := lwF x L (L - p) p
  match wdF x m p q 0 7 with
  | some k => (some k, q)
  | none => (none, p)
/-- what a word's statement says, behind the word -/
def sayP (x : zTx) (L k : Nat) (st : zStm) (p : Nat) : Option zStm × Nat :=
  if k = 0 then zbind (keysF x L 6 p) fun v q => (some (v, st.2), q)
  else if k = 1 then zbind (testsF x L 10 false p) fun v q => (some (st.1, v, st.2.2), q)
  else if k = 2 then zbind (testsF x L 10 false p) fun v q => (some (st.1, v, st.2.2.1, st.2.2.2.1, true, st.2.2.2.2.2), q)
  else if k = 3 then zbind (sumsF x L 4 p) fun v q => (some (st.1, st.2.1, v, st.2.2.2), q)
  else if k = 4 then zbind (piecesF x L 12 p) fun v q => (some (st.1, st.2.1, st.2.2.1, v, st.2.2.2.2), q)
  else if k = 5 then zbind (numP x L 0 9999 p) fun v q => (some (st.1, st.2.1, st.2.2.1, st.2.2.2.1, st.2.2.2.2.1, v, st.2.2.2.2.2.2), q)
  else zbind (numP x L 0 9999 p) fun v q => (some (st.1, st.2.1, st.2.2.1, st.2.2.2.1, st.2.2.2.2.1, st.2.2.2.2.2.1, v, st.2.2.2.2.2.2.2), q)
def stm1 (st : zStm) : zStm := (st.1, st.2.1, st.2.2.1, st.2.2.2.1, st.2.2.2.2.1, st.2.2.2.2.2.1, st.2.2.2.2.2.2.1, st.2.2.2.2.2.2.2 + 1)
def stm0 : zStm := ([], [], [], [], false, 0, 9999, 0)
def allF (x : zTx) (L : Nat) : Nat → Nat → zStm → Nat → Option zStm × Nat
  | 0, _, st, p => (some st, p)
  | d + 1, m, st, p => if sk x L p < L then zbind (wordP x L m (sk x L p)) fun k q => zbind (sayP x L k st q) fun s q => zbind (tkP x L [59] q) fun _ q => allF x L d (m ||| zwb k) (stm1 s) q else (some st, sk x L p)
/-- the whole text -/
def readP (x : zTx) (L : Nat) : Option zStm × Nat := allF x L (L + 1) 0 stm0 0
theorem skF_le {x : zTx} {L : Nat} : ∀ d p, p ≤ L → p ≤ skF x L d p ∧ skF x L d p ≤ L
  | 0, p, h => ⟨Nat.le_refl _, h⟩
  | d + 1, p, h => by
    unfold skF
    split
    · rename_i q
      have := skF_le (x := x) (L := L) d (p + 1) (by omega)
      omega
    · exact ⟨Nat.le_refl _, h⟩
theorem sk_le {x : zTx} {L p : Nat} (h : p ≤ L) : p ≤ sk x L p ∧ sk x L p ≤ L := skF_le _ _ h
theorem sk_step {x : zTx} {L p : Nat} (h : p < L) (hb : x p = 32 ∨ x p = 10) : sk x L p = sk x L (p + 1) := by
  unfold sk
  obtain ⟨d, hd⟩ : ∃ d, L - p = d + 1 := ⟨L - p - 1, by omega⟩
  have : L - (p + 1) = d := by omega
  rw [hd, this, skF, if_pos ⟨h, hb⟩]
theorem sk_stop {x : zTx} {L p : Nat} (h : ¬ (p < L ∧ (x p = 32 ∨ x p = 10))) : sk x L p = p := by
  unfold sk
  cases L - p with
  | zero => rfl
  | succ d => rw [skF, if_neg h]
theorem skF_done {x : zTx} {L : Nat} : ∀ d p, L - p ≤ d → ¬ (skF x L d p < L ∧ (x (skF x L d p) = 32 ∨ x (skF x L d p) = 10))
  | 0, p, h => by unfold skF; omega
  | d + 1, p, h => by
    unfold skF
    split
    · exact skF_done d (p + 1) (by omega)
    · assumption
theorem sk_done {x : zTx} {L p : Nat} : ¬ (sk x L p < L ∧ (x (sk x L p) = 32 ∨ x (sk x L p) = 10)) := skF_done _ _ (Nat.le_refl _)
theorem sk_sk {x : zTx} {L p : Nat} : sk x L (sk x L p) = sk x L p := sk_stop sk_done
theorem ndF_le {x : zTx} {L : Nat} : ∀ d acc p, p ≤ L → p ≤ (ndF x L d acc p).2 ∧ (ndF x L d acc p).2 ≤ L ∧ (acc < 10 ^ (4 - d) → d ≤ 4 → (ndF x L d acc p).1 < 10000)
  | 0, acc, p, h => ⟨Nat.le_refl _, h, fun h1 _ => h1⟩
  | d + 1, acc, p, h => by
    unfold ndF
    split
    · rename_i q
      have := ndF_le (x := x) (L := L) d (acc * 10 + (x p - 48)) (p + 1) (by omega)
      refine ⟨by omega, this.2.1, fun h1 h2 => this.2.2 ?_ (by omega)⟩
      have q2 := q.2
      unfold isDg at q2
      have q3 := of_decide_eq_true q2
      have e : 4 - d = (4 - (d + 1)) + 1 := by omega
      rw [e, Nat.pow_succ]
      omega
    · refine ⟨Nat.le_refl _, h, fun h1 h2 => ?_⟩
      have : 10 ^ (4 - (d + 1)) ≤ 10 ^ 4 := Nat.pow_le_pow_right (by omega) (by omega)
      omega
theorem numP_le {x : zTx} {L lo hi p : Nat} (h : p ≤ L) : (numP x L lo hi p).2 ≤ L ∧ ∀ v, (numP x L lo hi p).1 = some v → lo ≤ v ∧ v ≤ hi ∧ v < 10000 ∧ p < (numP x L lo hi p).2 := by
  have h1 := sk_le (x := x) h
  have h2 := ndF_le (x := x) 4 0 (sk x L p) h1.2
  unfold numP
  dsimp only
  split
  · exact ⟨h2.2.1, fun v hv => by cases hv⟩
  · rename_i q
    refine ⟨h2.2.1, fun v hv => ?_⟩
    have := Option.some.inj hv
    have := h2.2.2 (by decide) (by omega)
    have q1 : (ndF x L 4 0 (sk x L p)).2 ≠ sk x L p := fun z => q (Or.inl z)
    have q2 : ¬ (ndF x L 4 0 (sk x L p)).1 < lo := fun z => q (Or.inr (Or.inr (Or.inl z)))
    have q3 : ¬ hi < (ndF x L 4 0 (sk x L p)).1 := fun z => q (Or.inr (Or.inr (Or.inr z)))
    refine ⟨by omega, by omega, by omega, ?_⟩
    show p < (ndF x L 4 0 (sk x L p)).2
    omega
theorem tkP_le {x : zTx} {L p : Nat} {cs : List Nat} (h : p ≤ L) : (tkP x L cs p).2 ≤ L ∧ ∀ v, (tkP x L cs p).1 = some v → v ∈ cs ∧ p < (tkP x L cs p).2 := by
  have h1 := sk_le (x := x) h
  unfold tkP
  cases hs : sat x L (sk x L p) with
  | none => exact ⟨h1.2, fun v hv => by cases hv⟩
  | some u =>
    dsimp only
    have hlt : sk x L p < L := by
      unfold sat at hs
      split at hs
      · assumption
      · cases hs
    split
    · rename_i q
      exact ⟨hlt, fun v hv => by rw [← Option.some.inj hv]; exact ⟨q, by show p < sk x L p + 1; omega⟩⟩
    · exact ⟨h1.2, fun v hv => by cases hv⟩
