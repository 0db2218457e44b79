-- ===== what a run does =====
abbrev zRec : Type := Nat → Nat × List Nat
def insI (ks : List zKey) (rc : zRec) (p : List Nat) (i : Nat) : List Nat := zins p (p.takeWhile (fun j => decide (cmpR ks (rc j).2 (rc i).2 ≤ 0))).length i
/-- the records from i on: those picked in their order, those refused -/
def pickF (st : zStm) (rc : zRec) : Nat → Nat → Nat → List Nat → List (List Nat) → List Nat × List (List Nat)
  | 0, _, _, p, f => (p, f)
  | d + 1, i, s, p, f => if (rc i).1 = 0 then
      (if st.2.2.2.2.2.1 ≤ s ∧ s - st.2.2.2.2.2.1 < st.2.2.2.2.2.2.1 then
        (if keepsB st (rc i).2 then pickF st rc d (i + 1) (s + 1) (insI st.1 rc p i) f else pickF st rc d (i + 1) (s + 1) p (f ++ [(rc i).2]))
      else pickF st rc d (i + 1) (s + 1) p f)
    else pickF st rc d (i + 1) s p f
def sumN (f : zPart) (h r : List Nat) : Nat := numIn f h 0 f.2.2 0 + numIn f r 0 f.2.2 0
def fitF (h r : List Nat) : List zPart → Bool
  | [] => true
  | f :: fs => if sumN f h r < 10 ^ f.2.2 then fitF h r fs else false
def wsF : List zPart → List Nat → List Nat → List Nat
  | f :: fs, v :: vs, r => wsF fs vs (wnum f.2.1 f.2.2 r v)
  | _, _, r => r
/-- 0: another; 1: the same, but a sum has no place; 2: taken up -/
def tkS (st : zStm) (h r : List Nat) : Nat := if st.1 = [] ∨ st.2.2.1 = [] ∨ cmpR st.1 h r ≠ 0 then 0 else if fitF h r st.2.2.1 then 2 else 1
def takF (st : zStm) (h r : List Nat) : List Nat := wsF st.2.2.1 (st.2.2.1.map (fun f => sumN f h r)) h
def appP (p : zPart) (h : List Nat) : Nat → Nat → List Nat → List Nat
  | _, 0, acc => acc
  | k, d + 1, acc => appP p h (k + 1) d (zapp acc (poct p h k))
def layP (h : List Nat) : List zPart → List Nat → List Nat
  | [], acc => acc
  | p :: ps, acc => layP h ps (appP p h 0 p.2.2 acc)
def layF (st : zStm) (h : List Nat) : List Nat := if st.2.2.2.1 = [] then h else layP h st.2.2.2.1 []
abbrev zHel : Type := List Nat × Nat × Nat
/-- what is delivered of one row -/
def delF (st : zStm) (does : Nat) (stops : Bool) (arr : Nat) (h : zHel) (L : List zHel) : List zHel :=
  if stops = true ∧ 3 ≤ arr + 1 then L else if does = 1 ∧ oct h.1 0 % 2 = 1 then L else L ++ [(layF st (if does = 2 then h.1.map zupc else h.1), h.2)]
def delC (stops : Bool) (arr : Nat) (c : Nat) : Nat := if stops = true ∧ 3 ≤ arr + 1 then 16 else c
/-- the picked rows one by one: the row held, how many arrived, what is laid out, the code -/
def sdF (st : zStm) (rc : zRec) (does : Nat) (stops : Bool) : List Nat → zHel → Nat → List zHel → Nat → List zHel × Nat
  | [], h, arr, L, c => (delF st does stops arr h L, delC stops arr c)
  | i :: is, h, arr, L, c => if tkS st h.1 (rc i).2 = 2 then sdF st rc does stops is (takF st h.1 (rc i).2, h.2.1, h.2.2 + 1) arr L c
    else sdF st rc does stops is ((rc i).2, i, 1) (arr + 1) (delF st does stops arr h L) (delC stops arr (if tkS st h.1 (rc i).2 = 1 then max c 4 else c))
def delivF (st : zStm) (rc : zRec) (does : Nat) (stops : Bool) : List Nat → List zHel × Nat
  | [] => ([], 0)
  | i :: is => sdF st rc does stops is ((rc i).2, i, 1) 0 [] 0
/-- run(): laid out, refused, the code -/
def runF (st : zStm) (rc : zRec) (m does : Nat) (stops : Bool) : List zHel × List (List Nat) × Nat :=
  ((delivF st rc does stops (pickF st rc m 0 0 [] []).1).1, (pickF st rc m 0 0 [] []).2, (delivF st rc does stops (pickF st rc m 0 0 [] []).1).2)
-- ===== orders =====
theorem fdif_anti (x y : Nat → Nat) : ∀ d k, fdif y x k d = - fdif x y k d
  | 0, k => rfl
  | d + 1, k => by
    unfold fdif
    by_cases h : x k = y k
    · rw [if_pos h, if_pos h.symm]; exact fdif_anti x y d (k + 1)
    · rw [if_neg h, if_neg (fun z => h z.symm)]; omega
theorem fdif_eqL (x y z : Nat → Nat) : ∀ d k, fdif x y k d = 0 → fdif x z k d = fdif y z k d
  | 0, k, _ => rfl
  | d + 1, k, h => by
    unfold fdif at h ⊢
    by_cases e : x k = y k
    · rw [if_pos e] at h
      rw [e]
      by_cases e2 : y k = z k
      · rw [if_pos e2, if_pos e2]; exact fdif_eqL x y z d (k + 1) h
      · rw [if_neg e2, if_neg e2]
    · rw [if_neg e] at h; omega
theorem fdif_eqR (x y z : Nat → Nat) (d k : Nat) (h : fdif y z k d = 0) : fdif x y k d = fdif x z k d := by
  have h2 : fdif z y k d = 0 := by rw [fdif_anti y z]; omega
  have := fdif_eqL y z x d k h
  rw [fdif_anti x y, fdif_anti x z] at this
  omega
theorem fdif_tr (x y z : Nat → Nat) : ∀ d k, fdif x y k d < 0 → fdif y z k d < 0 → fdif x z k d < 0
  | 0, k, h, _ => by unfold fdif at h; omega
  | d + 1, k, h, h2 => by
    unfold fdif at h h2 ⊢
    by_cases e : x k = y k
    · rw [if_pos e] at h
      by_cases e2 : y k = z k
      · rw [if_pos e2] at h2
        rw [if_pos (e.trans e2)]
        exact fdif_tr x y z d (k + 1) h h2
      · rw [if_neg e2] at h2
        rw [if_neg (fun q => e2 (e.symm.trans q)), e]; exact h2
    · rw [if_neg e] at h
      by_cases e2 : y k = z k
      · rw [if_neg (fun q => e (q.trans e2.symm)), ← e2]; exact h
      · rw [if_neg e2] at h2
        rw [if_neg (fun q => by rw [q] at h; omega)]; omega
theorem cmpK_anti (k : zKey) (a b : List Nat) : cmpK k b a = - cmpK k a b := fdif_anti _ _ _ _
theorem cmpK_eqL (k : zKey) (a b c : List Nat) (h : cmpK k a b = 0) : cmpK k a c = cmpK k b c := fdif_eqL _ _ _ _ _ h
theorem cmpK_eqR (k : zKey) (a b c : List Nat) (h : cmpK k b c = 0) : cmpK k a b = cmpK k a c := fdif_eqR _ _ _ _ _ h
theorem cmpK_tr (k : zKey) (a b c : List Nat) (h : cmpK k a b < 0) (h2 : cmpK k b c < 0) : cmpK k a c < 0 := fdif_tr _ _ _ _ _ h h2
theorem cmpR_anti : ∀ (ks : List zKey) (a b : List Nat), cmpR ks b a = - cmpR ks a b
  | [], a, b => rfl
  | k :: ks, a, b => by
    have e := cmpK_anti k a b
    unfold cmpR
    by_cases h : cmpK k a b = 0
    · rw [if_pos h, if_pos (by omega)]; exact cmpR_anti ks a b
    · rw [if_neg h, if_neg (by omega), e]
      split <;> omega
theorem cmpR_eqL : ∀ (ks : List zKey) (a b c : List Nat), cmpR ks a b = 0 → cmpR ks a c = cmpR ks b c
  | [], a, b, c, _ => rfl
  | k :: ks, a, b, c, h => by
    unfold cmpR at h ⊢
    by_cases e : cmpK k a b = 0
    · rw [if_pos e] at h
      rw [cmpK_eqL k a b c e, cmpR_eqL ks a b c h]
    · rw [if_neg e] at h
      split at h <;> omega
theorem cmpR_tr : ∀ (ks : List zKey) (a b c : List Nat), cmpR ks a b ≤ 0 → cmpR ks b c ≤ 0 → cmpR ks a c ≤ 0
  | [], a, b, c, _, _ => by unfold cmpR; omega
  | k :: ks, a, b, c, h, h2 => by
    unfold cmpR at h h2 ⊢
    by_cases e : cmpK k a b = 0
    · rw [if_pos e] at h
      rw [cmpK_eqL k a b c e]
      by_cases e2 : cmpK k b c = 0
      · rw [if_pos e2] at h2 ⊢; exact cmpR_tr ks a b c h h2
      · rw [if_neg e2] at h2 ⊢; exact h2
    · rw [if_neg e] at h
      by_cases e2 : cmpK k b c = 0
      · rw [← cmpK_eqR k a b c e2, if_neg e]; exact h
      · rw [if_neg e2] at h2
        by_cases hd : k.2.2.1 = true
        · rw [if_pos hd] at h h2
          have a1 := cmpK_anti k a b
          have a2 := cmpK_anti k b c
          have a3 := cmpK_anti k a c
          have := cmpK_tr k c b a (by omega) (by omega)
          rw [if_neg (by omega), if_pos hd]; omega
        · rw [if_neg hd] at h h2
          have := cmpK_tr k a b c (by omega) (by omega)
          rw [if_neg (by omega), if_neg hd]; omega
/-- the picked rows are in order -/
def srt (ks : List zKey) (rc : zRec) (p : List Nat) : Prop := ∀ i j, i < j → j < p.length → cmpR ks (rc (p.getD i 0)).2 (rc (p.getD j 0)).2 ≤ 0
theorem tw_len (c : Nat → Bool) : ∀ (p : List Nat) (lo : Nat), lo ≤ p.length → (∀ j, j < lo → c (p.getD j 0) = true) → (lo < p.length → c (p.getD lo 0) = false) → (p.takeWhile c).length = lo
  | [], lo, h, _, _ => by simp at h; simp [h]
  | x :: p, 0, h, _, h3 => by
    have := h3 (by simp)
    simp at this
    simp [List.takeWhile, this]
  | x :: p, lo + 1, h, h2, h3 => by
    have e := h2 0 (by omega)
    simp at e
    have := tw_len c p lo (by simpa using h) (fun j hj => by have := h2 (j + 1) (by omega); simpa using this) (fun hl => by have := h3 (by simpa using hl); simpa using this)
    simp [List.takeWhile, e, this]
theorem tw_spec (c : Nat → Bool) (p : List Nat) : (p.takeWhile c).length ≤ p.length ∧ (∀ j, j < (p.takeWhile c).length → c (p.getD j 0) = true) ∧ ((p.takeWhile c).length < p.length → c (p.getD (p.takeWhile c).length 0) = false) := by
  induction p with
  | nil => simp
  | cons x p ih =>
    by_cases e : c x = true
    · simp only [List.takeWhile, e, List.length_cons]
      refine ⟨by omega, fun j hj => ?_, fun h => ?_⟩
      · cases j with
        | zero => simpa using e
        | succ j => have := ih.2.1 j (by omega); simpa using this
      · have := ih.2.2 (by omega); simpa using this
    · simp at e
      simp [List.takeWhile, e]
theorem srt_ins {ks : List zKey} {rc : zRec} {p : List Nat} {i : Nat} (h : srt ks rc p) : srt ks rc (insI ks rc p i) := by
  unfold insI
  obtain ⟨t1, t2, t3⟩ := tw_spec (fun j => decide (cmpR ks (rc j).2 (rc i).2 ≤ 0)) p
  generalize (p.takeWhile (fun j => decide (cmpR ks (rc j).2 (rc i).2 ≤ 0))).length = q at t1 t2 t3
  intro a b hab hb
  rw [zins_len t1] at hb
  rw [zins_at t1, zins_at t1]
  have up : ∀ b', q ≤ b' → b' < p.length → cmpR ks (rc i).2 (rc (p.getD b' 0)).2 ≤ 0 := fun b' h1 h2 => by
    have g0 := t3 (by omega)
    simp at g0
    have g1 : cmpR ks (rc i).2 (rc (p.getD q 0)).2 ≤ 0 := by
      rw [cmpR_anti]
      simp only [List.getD_eq_getElem?_getD]
      omega
    by_cases e : q = b'
    · rw [← e]; exact g1
    · exact cmpR_tr ks _ _ _ g1 (h q b' (by omega) h2)
  by_cases hbq : b < q
  · rw [if_pos (by omega), if_pos hbq]; exact h a b hab (by omega)
  · rw [if_neg hbq]
    by_cases e : b = q
    · rw [if_pos e, if_pos (by omega)]
      have := t2 a (by omega)
      simpa using this
    · rw [if_neg e]
      by_cases haq : a < q
      · rw [if_pos haq]; exact h a (b - 1) (by omega) (by omega)
      · rw [if_neg haq]
        by_cases ea : a = q
        · rw [if_pos ea]; exact up (b - 1) (by omega) (by omega)
        · rw [if_neg ea]; exact h (a - 1) (b - 1) (by omega) (by omega)
theorem insI_len {ks : List zKey} {rc : zRec} {p : List Nat} {i : Nat} : (insI ks rc p i).length = p.length + 1 := zins_len (tw_spec _ p).1
theorem insI_mem {ks : List zKey} {rc : zRec} {p : List Nat} {i x : Nat} (h : x ∈ insI ks rc p i) : x = i ∨ x ∈ p := zins_mem h
