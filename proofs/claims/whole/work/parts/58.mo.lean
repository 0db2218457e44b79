-- ===== the reference: run, summing and delivering =====
def mgF (st : zStm) (rc : zRec) : List Nat → List zHel → zHel → Nat → List zHel × Nat
  | [], G, h, c => (G ++ [h], c)
  | i :: is, G, h, c => if tkS st h.1 (rc i).2 = 2 then mgF st rc is G (takF st h.1 (rc i).2, h.2.1, h.2.2 + 1) c else mgF st rc is (G ++ [h]) ((rc i).2, i, 1) (if tkS st h.1 (rc i).2 = 1 then max c 4 else c)
def dlL (st : zStm) (does : Nat) (stops : Bool) : List zHel → Nat → List zHel → List zHel
  | [], _, L => L
  | h :: G, k, L => dlL st does stops G (k + 1) (delF st does stops k h L)
theorem mgF_acc (st : zStm) (rc : zRec) : ∀ (is : List Nat) (G : List zHel) (h : zHel) (c c' : Nat), (mgF st rc is G h c).1 = G ++ (mgF st rc is [] h c').1 ∧ (mgF st rc is G h c).2 = (mgF st rc is [] h c).2
  | [], G, h, c, c' => ⟨rfl, rfl⟩
  | i :: is, G, h, c, c' => by
    unfold mgF
    split
    · exact mgF_acc st rc is G _ c c'
    · have a1 := mgF_acc st rc is (G ++ [h]) ((rc i).2, i, 1) (if tkS st h.1 (rc i).2 = 1 then max c 4 else c) 0
      have a2 := mgF_acc st rc is ([] ++ [h]) ((rc i).2, i, 1) (if tkS st h.1 (rc i).2 = 1 then max c' 4 else c') 0
      have a3 := mgF_acc st rc is ([] ++ [h]) ((rc i).2, i, 1) (if tkS st h.1 (rc i).2 = 1 then max c 4 else c) 0
      refine ⟨?_, ?_⟩
      · rw [a1.1, a2.1]; simp
      · rw [a1.2, a3.2]
theorem mgF_len (st : zStm) (rc : zRec) : ∀ (is : List Nat) (G : List zHel) (h : zHel) (c : Nat), (mgF st rc is G h c).1.length ≤ G.length + is.length + 1 ∧ 1 ≤ (mgF st rc is G h c).1.length
  | [], G, h, c => by unfold mgF; simp
  | i :: is, G, h, c => by
    unfold mgF
    split
    · have := mgF_len st rc is G (takF st h.1 (rc i).2, h.2.1, h.2.2 + 1) c
      simp; omega
    · have := mgF_len st rc is (G ++ [h]) ((rc i).2, i, 1) (if tkS st h.1 (rc i).2 = 1 then max c 4 else c)
      simp at this ⊢; omega
/-- one after the other, or all sums first: it is the same -/
theorem sd_mg (st : zStm) (rc : zRec) (does : Nat) (stops : Bool) : ∀ (is : List Nat) (h : zHel) (arr : Nat) (L : List zHel) (c : Nat), sdF st rc does stops is h arr L c = (dlL st does stops (mgF st rc is [] h c).1 arr L, if stops = true ∧ 3 ≤ arr + (mgF st rc is [] h c).1.length then 16 else (mgF st rc is [] h c).2)
  | [], h, arr, L, c => by
    unfold sdF mgF dlL
    rfl
  | i :: is, h, arr, L, c => by
    unfold sdF mgF
    split
    · exact sd_mg st rc does stops is _ arr L c
    · rw [sd_mg st rc does stops is ((rc i).2, i, 1) (arr + 1) (delF st does stops arr h L) (delC stops arr (if tkS st h.1 (rc i).2 = 1 then max c 4 else c))]
      have a1 := mgF_acc st rc is ([] ++ [h]) ((rc i).2, i, 1) (if tkS st h.1 (rc i).2 = 1 then max c 4 else c) (delC stops arr (if tkS st h.1 (rc i).2 = 1 then max c 4 else c))
      have a2 := mgF_len st rc is [] ((rc i).2, i, 1) (delC stops arr (if tkS st h.1 (rc i).2 = 1 then max c 4 else c))
      generalize (if tkS st h.1 (rc i).2 = 1 then max c 4 else c) = c1 at a1 a2 ⊢
      rw [a1.1]
      refine Prod.ext ?_ ?_
      · show _ = dlL st does stops (([] ++ [h]) ++ (mgF st rc is [] ((rc i).2, i, 1) (delC stops arr c1)).1) arr L
        rfl
      · show (if _ then 16 else _) = (if _ then 16 else _)
        have el : (([] ++ [h]) ++ (mgF st rc is [] ((rc i).2, i, 1) (delC stops arr c1)).1).length = 1 + (mgF st rc is [] ((rc i).2, i, 1) (delC stops arr c1)).1.length := by simp; omega
        rw [el]
        by_cases q : stops = true ∧ 3 ≤ arr + 1 + (mgF st rc is [] ((rc i).2, i, 1) (delC stops arr c1)).1.length
        · rw [if_pos q, if_pos ⟨q.1, by omega⟩]
        · rw [if_neg q, if_neg (fun z => q ⟨z.1, by omega⟩)]
          have hd : delC stops arr c1 = c1 := by
            unfold delC
            rw [if_neg (fun z => q ⟨z.1, by omega⟩)]
          rw [hd, a1.2]
theorem dlL_stop (st : zStm) (does : Nat) (stops : Bool) : ∀ (G : List zHel) (k : Nat) (L : List zHel), stops = true → 3 ≤ k + 1 → dlL st does stops G k L = L
  | [], k, L, _, _ => rfl
  | h :: G, k, L, h1, h2 => by
    unfold dlL
    have e : delF st does stops k h L = L := by unfold delF; rw [if_pos ⟨h1, h2⟩]
    rw [e]
    exact dlL_stop st does stops G (k + 1) L h1 (by omega)
/-- the groups of copies: oc their places, Gs what they hold -/
def mGr (V : Nat → Nat → Int32) (oc : List Nat) (Gs : List zHel) : Prop := oc.length = Gs.length ∧ oc.Nodup ∧ ∀ g, g < Gs.length → V 23 g = nI (oc.getD g 0) ∧ oc.getD g 0 < 150 ∧ mRT V 19 20 (oc.getD g 0) (Gs.getD g ([], 0, 0)).1 ∧ V 21 (oc.getD g 0) = nI (Gs.getD g ([], 0, 0)).2.2 ∧ V 22 (oc.getD g 0) = nI (Gs.getD g ([], 0, 0)).2.1
theorem getD_app {α : Type} {xs : List α} {v d : α} {g : Nat} (h : g < xs.length) : (xs ++ [v]).getD g d = xs.getD g d := by
  simp [List.getD_eq_getElem?_getD, List.getElem?_append_left h]
theorem getD_lst {α : Type} (xs : List α) (v d : α) : (xs ++ [v]).getD xs.length d = v := by simp [List.getD_eq_getElem?_getD]
section
variable {E : zE} {B : (Nat → Nat → Int32) × (Nat → Nat → Int64)} {K n : Nat → Nat} {F : Nat → Nat → Option Nat} {m : Nat} {A : Nat → Nat} {cb sb : Nat} {Q : zO → zH → Prop} {rc : zRec} {st : zStm} {b : Nat → Bool} {M : Nat}
/-- run: equal rows are taken up -/
theorem mo_mgL {nn : Nat} {cps ord : List Nat} (hnn : nn = ord.length) (hn150 : nn ≤ 150) (hnd : ord.Nodup) : ∀ (cs : List Nat) (k c : Nat) (G : List zHel) (h9 : zHel) (oc : List Nat) (I : Nat → Nat → Int32) (J : Nat → Nat → Int64) (V : Nat → Nat → Int32) (T : Nat → Int64), ord.drop k = cs → k ≤ nn → MS B K n I F J m A V T → mB V b st → mGr V oc (G ++ [h9]) → (∀ x ∈ oc, ∀ q, k ≤ q → q < nn → x ≠ ord.getD q 0) → G.length + 1 ≤ k → (∀ q, k ≤ q → q < nn → V 23 q = nI (ord.getD q 0) ∧ ord.getD q 0 < 150 ∧ mRT V 19 20 (ord.getD q 0) (rc (cps.getD (ord.getD q 0) 0)).2 ∧ V 21 (ord.getD q 0) = nI 1 ∧ V 22 (ord.getD q 0) = nI (cps.getD (ord.getD q 0) 0)) → V 0 17 = nI c → c ≤ 4 →
    (∀ I' J' V' T' oc', MS B K n I' F J' m A V' T' → mGr V' oc' (mgF st rc (cs.map fun x => cps.getD x 0) G h9 c).1 → V' 0 17 = nI (mgF st rc (cs.map fun x => cps.getD x 0) G h9 c).2 → (∀ g j, ¬ (19 ≤ g ∧ g ≤ 23) → ¬ (g = 0 ∧ j = 17) → V' g j = V g j) → AW E m_Mo_run (K, n, I', F, J') cb sb Q 384 [some (.ref m), none, none, some (.int (nI (mgF st rc (cs.map fun x => cps.getD x 0) G h9 c).1.length)), some (.int (0 : Int32)), none, none, none] []) →
    AW E m_Mo_run (K, n, I, F, J) cb sb Q 324 [some (.ref m), some (.int (nI nn)), none, some (.int (nI (G.length + 1))), some (.int (nI k)), none, none, none] []
  | [], k, c, G, h9, oc, I, J, V, T, hd, hk, h, hS, hG, hoc, hGk, hrest, hc, hc4, w => by
    have e : ord.length ≤ k := List.drop_eq_nil_iff.mp hd
    have w' := w I J V T oc h hG hc (fun _ _ _ _ => rfl)
    have el : (mgF st rc (List.map (fun x => cps.getD x 0) []) G h9 c).1.length = G.length + 1 := by show (G ++ [h9]).length = _; simp
    rw [el] at w'
    exact r_Mo_run_324 (br_t ((nI_leI (by omega) (by omega)).mpr (by omega)) w')
  | c0 :: cs, k, c, G, h9, oc, I, J, V, T, hd, hk, h, hS, hG, hoc, hGk, hrest, hc, hc4, w => by
    obtain ⟨ef, ed, el⟩ := zdrop_at hd
    have e0 : ord.getD k 0 = c0 := by rw [List.getD_eq_getElem?_getD, ef]; rfl
    obtain ⟨q1, q2, q3, q4, q5⟩ := hrest k (Nat.le_refl _) (by omega)
    rw [e0] at q1 q2 q3 q4 q5
    obtain ⟨g1, g2, g3⟩ := id hG
    have hGl : (G ++ [h9]).length = G.length + 1 := by simp
    obtain ⟨a1, a2, a3, a4, a5⟩ := g3 G.length (by omega)
    rw [getD_lst] at a3 a4 a5
    have hne : oc.getD G.length 0 ≠ c0 := fun z => hoc _ (zgetD_mem (xs := oc) (i := G.length) (by omega)) k (Nat.le_refl _) (by omega) (by rw [z, e0])
    have e1 : nI (G.length + 1) - (1 : Int32) = nI G.length := nI_pred G.length
    have bd : ∀ j, j < 150 → j < n (A 23) := fun j hj => by rw [h.sz (by decide)]; exact hj
    refine r_Mo_run_324 (br_f (nI_ge (by omega) (by omega)) (br_f (nI_nle (by omega) (by omega)) ⟨h.K9, _, h.f (f := 23) (by decide), h.k (by decide), G.length, e1, bd _ (by omega), by omega, k, rfl, bd _ (by omega), by omega, ?_⟩))
    rw [h.a (by decide), a1, q1]
    rw [List.map_cons] at w
    unfold mgF at w
    have hord : ∀ q, q < nn → ord.getD q 0 = c0 → q = k := fun q hq z => nodup_getD hnd (by omega) (by omega) (by rw [z, e0])
    -- not taken up
    have other : tkS st h9.1 (rc (cps.getD c0 0)).2 ≠ 2 → ∀ I1 J1 V1 T1 c1, c1 = (if tkS st h9.1 (rc (cps.getD c0 0)).2 = 1 then max c 4 else c) → MS B K n I1 F J1 m A V1 T1 → V1 0 17 = nI c1 → (∀ g j, ¬ (g = 0 ∧ j = 17) → V1 g j = V g j) → AW E m_Mo_run (K, n, I1, F, J1) cb sb Q 353 [some (.ref m), some (.int (nI nn)), none, some (.int (nI (G.length + 1))), some (.int (nI k)), none, none, none] [.int 0] := fun hn2 I1 J1 V1 T1 c1 hc1 h1 h17 hf1 => by
      rw [if_neg hn2, ← hc1] at w
      refine r_Mo_run_353 ⟨fun _ => ⟨h1.K9, _, h1.f (f := 23) (by decide), h1.k (by decide), k, rfl, by rw [h1.sz (by decide)]; show k < 150; omega, by omega, G.length + 1, rfl, by rw [h1.sz (by decide)]; show G.length + 1 < 150; omega, by omega, ?_⟩, fun z => absurd rfl z⟩
      rw [h1.a (by decide), hf1 23 k (by omega), q1, nI_1, nI_1]
      have h2 := h1.up (f := 23) (by decide) (G.length + 1) (nI c0)
      have fr : ∀ g j, ¬ (g = 0 ∧ j = 17) → ¬ (g = 23 ∧ j = G.length + 1) → zup V1 23 (G.length + 1) (nI c0) g j = V g j := fun g j b1 b2 => by rw [zup_at, if_neg b2, hf1 g j b1]
      have hl2 : G.length + 1 = (G ++ [h9]).length := by simp
      have hcc : c1 ≤ 4 := by rw [hc1]; split <;> omega
      have key := mo_mgL hnn hn150 hnd cs (k + 1) c1 (G ++ [h9]) ((rc (cps.getD c0 0)).2, cps.getD c0 0, 1) (oc ++ [c0]) _ J1 _ T1 ed (by omega) h2 (hS.oF (fun f j b1 b2 => fr f j (by omega) (by omega))) ?_ ?_ (by simp; omega) ?_ (by rw [zup_n _ _ _ (by decide)]; exact h17) hcc (fun I' J' V' T' oc' h' gr' k' f' => w I' J' V' T' oc' h' gr' k' (fun g j b1 b2 => by rw [f' g j b1 b2]; exact fr g j b2 (by omega)))
      · rw [show (G ++ [h9]).length + 1 = G.length + 1 + 1 by simp] at key
        exact key
      · refine ⟨by rw [List.length_append, List.length_append, g1]; rfl, List.nodup_append.mpr ⟨g2, by simp, fun x hx y hy => ?_⟩, fun g hg => ?_⟩
        · rw [List.mem_singleton.mp hy, ← e0]
          exact hoc x hx k (Nat.le_refl _) (by omega)
        · simp at hg
          by_cases e : g = G.length + 1
          · subst e
            have ex1 : (oc ++ [c0]).getD (G.length + 1) 0 = c0 := by rw [show G.length + 1 = oc.length by omega]; exact getD_lst _ _ _
            have ex2 : (G ++ [h9] ++ [((rc (cps.getD c0 0)).2, cps.getD c0 0, 1)]).getD (G.length + 1) ([], 0, 0) = ((rc (cps.getD c0 0)).2, cps.getD c0 0, 1) := by rw [hl2]; exact getD_lst _ _ _
            rw [ex1, ex2]
            exact ⟨zup_s _ _ _ _, q2, q3.fr (fr 20 _ (by omega) (by omega)) (fun j _ _ => fr 19 j (by omega) (by omega)), by rw [fr 21 _ (by omega) (by omega)]; exact q4, by rw [fr 22 _ (by omega) (by omega)]; exact q5⟩
          · obtain ⟨b1, b2, b3, b4, b5⟩ := g3 g (by omega)
            rw [getD_app (by omega), getD_app (by omega)]
            exact ⟨by rw [fr 23 _ (by omega) (by omega)]; exact b1, b2, b3.fr (fr 20 _ (by omega) (by omega)) (fun j _ _ => fr 19 j (by omega) (by omega)), by rw [fr 21 _ (by omega) (by omega)]; exact b4, by rw [fr 22 _ (by omega) (by omega)]; exact b5⟩
      · intro x hx q hq1 hq2 z
        rcases List.mem_append.mp hx with y | y
        · exact hoc x y q (by omega) hq2 z
        · rw [List.mem_singleton.mp y] at z
          have := hord q hq2 z.symm
          omega
      · intro q hq1 hq2
        obtain ⟨b1, b2, b3, b4, b5⟩ := hrest q (by omega) hq2
        exact ⟨by rw [fr 23 _ (by omega) (by omega)]; exact b1, b2, b3.fr (fr 20 _ (by omega) (by omega)) (fun j _ _ => fr 19 j (by omega) (by omega)), by rw [fr 21 _ (by omega) (by omega)]; exact b4, by rw [fr 22 _ (by omega) (by omega)]; exact b5⟩
    refine mo_takes h hS.1 a3 q3 a2 q2 a4 q4 (fun hz => ?_) (fun I1 J1 T1 hz h1 => ?_) (fun I1 J1 T1 V1 hz h1 r1 m1 f1 => ?_)
    · exact other (by omega) I J V T c (by rw [if_neg (by omega)]) h hc (fun _ _ _ => rfl)
    · refine other (by omega) I1 J1 _ T1 4 (by rw [if_pos hz]; omega) h1 (zup_s _ _ _ _) (fun g j b1 => by rw [zup_at, if_neg b1])
    · rw [if_pos hz] at w
      refine r_Mo_run_353 ⟨fun z => absurd z (by decide), fun _ => ?_⟩
      rw [nI_1]
      have ocne : ∀ g, g < G.length → oc.getD g 0 ≠ oc.getD G.length 0 := fun g hg z => by
        have := nodup_getD g2 (by omega) (by omega) z
        omega
      refine mo_mgL hnn hn150 hnd cs (k + 1) c G (takF st h9.1 (rc (cps.getD c0 0)).2, h9.2.1, h9.2.2 + 1) oc I1 J1 V1 T1 ed (by omega) h1 (hS.oF (fun f j b1 b2 => f1 f j (by omega) (by omega) (by omega))) ⟨by simp; omega, g2, fun g hg => ?_⟩ (fun x hx q hq1 hq2 => hoc x hx q (by omega) hq2) (by omega) (fun q hq1 hq2 => ?_) (by rw [f1 0 17 (by omega) (by omega) (by omega)]; exact hc) hc4 (fun I' J' V' T' oc' h' gr' k' f' => w I' J' V' T' oc' h' gr' k' (fun g j b1 b2 => by rw [f' g j b1 b2]; exact f1 g j (by omega) (by omega) (by omega)))
      · simp at hg
        by_cases e : g = G.length
        · subst e
          rw [getD_lst]
          exact ⟨by rw [f1 23 _ (by omega) (by omega) (by omega)]; exact a1, a2, r1, m1, by rw [f1 22 _ (by omega) (by omega) (by omega)]; exact a5⟩
        · obtain ⟨b1, b2, b3, b4, b5⟩ := g3 g (by omega)
          rw [getD_app (by omega)] at b3 b4 b5
          rw [getD_app (by omega)]
          have hn := ocne g (by omega)
          exact ⟨by rw [f1 23 _ (by omega) (by omega) (by omega)]; exact b1, b2, b3.fr (f1 20 _ (by omega) (fun z => hn z.2) (by omega)) (fun j j1 j2 => f1 19 j (by omega) (by omega) (by omega)), by rw [f1 21 _ (by omega) (by omega) (fun z => hn z.2)]; exact b4, by rw [f1 22 _ (by omega) (by omega) (by omega)]; exact b5⟩
      · obtain ⟨b1, b2, b3, b4, b5⟩ := hrest q (by omega) hq2
        have hn : ord.getD q 0 ≠ oc.getD G.length 0 := fun z => hoc _ (zgetD_mem (xs := oc) (i := G.length) (by omega)) q (by omega) hq2 z.symm
        exact ⟨by rw [f1 23 _ (by omega) (by omega) (by omega)]; exact b1, b2, b3.fr (f1 20 _ (by omega) (fun z => hn z.2) (by omega)) (fun j j1 j2 => f1 19 j (by omega) (by omega) (by omega)), by rw [f1 21 _ (by omega) (by omega) (fun z => hn z.2)]; exact b4, by rw [f1 22 _ (by omega) (by omega) (by omega)]; exact b5⟩
/-- the rows laid out, in the reference -/
def mLd (V : Nat → Nat → Int32) (L : List zHel) : Prop := V 26 0 = nI L.length ∧ ∀ t, t < L.length → oR V 0 t (L.getD t ([], 0, 0)).1 ∧ V 27 t = nI (L.getD t ([], 0, 0)).2.2 ∧ V 28 t = nI (L.getD t ([], 0, 0)).2.1
theorem mLd.fr {V V' : Nat → Nat → Int32} {L : List zHel} (h : mLd V L) (h26 : V' 26 0 = V 26 0) (hf : ∀ f j, 24 ≤ f → f ≤ 28 → f ≠ 26 → V' f j = V f j) : mLd V' L :=
  ⟨by rw [h26]; exact h.1, fun t ht => ⟨mR.fr (h.2 t ht).1 (hf 25 _ (by omega) (by omega) (by omega)) (fun j _ _ => hf 24 j (by omega) (by omega) (by omega)), by rw [hf 27 t (by omega) (by omega) (by omega)]; exact (h.2 t ht).2.1, by rw [hf 28 t (by omega) (by omega) (by omega)]; exact (h.2 t ht).2.2⟩⟩
theorem zupc_nI {u : Nat} (hu : u < 256) : (nI u ≤ (96 : Int32) → zupc u = u) ∧ ((123 : Int32) ≤ nI u → zupc u = u) ∧ (¬ nI u ≤ (96 : Int32) → ¬ (123 : Int32) ≤ nI u → nI u - (32 : Int32) = nI (zupc u)) := by
  have e1 : nI u ≤ (96 : Int32) ↔ u ≤ 96 := nI_leI (b := 96) (by omega) (by omega)
  have e2 : (123 : Int32) ≤ nI u ↔ 123 ≤ u := nI_leI (a := 123) (by omega) (by omega)
  unfold zupc
  refine ⟨fun h => if_neg (by have := e1.mp h; omega), fun h => if_neg (by have := e2.mp h; omega), fun h1 h2 => ?_⟩
  have a1 : ¬ u ≤ 96 := fun z => h1 (e1.mpr z)
  have a2 : ¬ 123 ≤ u := fun z => h2 (e2.mpr z)
  rw [if_pos (by omega)]
  exact pk_sub (b := 32) (by omega)
variable {J : Nat → Nat → Int64} {T : Nat → Int64}
/-- letters are raised, then the row is laid out -/
theorem mo_rsL {k c does many num mo : Nat} {hh : List Nat} (hc : c < 150) (hd3 : does < 3) {L : List zHel} (hL150 : L.length < 150) : ∀ (d i : Nat) (I : Nat → Nat → Int32) (V : Nat → Nat → Int32), i + d = hh.length → MS B K n I F J m A V T → mB V b st → mRT V 19 20 c ((if does = 2 then (hh.take i).map zupc else hh.take i) ++ hh.drop i) → V 0 16 = nI does → V 21 c = nI mo → V 22 c = nI num → mLd V L →
    (∀ I' V', MS B K n I' F J m A V' T → mLd V' (L ++ [(layF st (if does = 2 then hh.map zupc else hh), num, mo)]) → (∀ f j, ¬ (f = 19 ∧ 100 * c ≤ j ∧ j < 100 * c + 100) → ¬ (f = 24 ∧ j < 15000) → ¬ (f = 25 ∧ j < 150) → ¬ (f = 26 ∧ j = 0) → ¬ (27 ≤ f ∧ f ≤ 28) → V' f j = V f j) → AW E m_Mo_run (K, n, I', F, J) cb sb Q 384 [some (.ref m), none, none, some (.int (nI many)), some (.int (nI (k + 1))), none, none, none] []) →
    AW E m_Mo_run (K, n, I, F, J) cb sb Q 459 [some (.ref m), none, none, some (.int (nI many)), some (.int (nI k)), some (.int (nI c)), some (.int (nI i)), none] []
  | d, i, I, V, hi, h, hS, hr, h16, h21, h22, hLd, w => by
    have hl : ((if does = 2 then (hh.take i).map zupc else hh.take i) ++ hh.drop i).length = hh.length := by split <;> simp <;> omega
    have h100 := hr.1.2.1
    rw [hl] at h100
    have e2 : I m 16 = (2 : Int32) ↔ does = 2 := by rw [h.o, h16]; exact nI_eq (b := 2) (by omega) (by omega)
    -- lay it out
    have lay : (i = hh.length ∨ does ≠ 2) → AW E m_Mo_lay (K, n, I, F, J) 0 0 (zAft E m_Mo_run cb sb Q 540 [some (.ref m), none, none, some (.int (nI many)), some (.int (nI k)), none, none, none] []) 0 [some (.ref m), some (.int (nI c)), none, none, none] [] := fun hor => by
      have er : (if does = 2 then (hh.take i).map zupc else hh.take i) ++ hh.drop i = (if does = 2 then hh.map zupc else hh) := by
        by_cases q : does = 2
        · rw [if_pos q, if_pos q]
          rcases hor with e | e
          · rw [List.take_of_length_le (by omega), List.drop_of_length_le (by omega), List.append_nil]
          · exact absurd q e
        · rw [if_neg q, if_neg q, List.take_append_drop]
      rw [er] at hr
      refine mo_lay hL150 hc h hS hr hLd.1 h21 h22 (fun I' V' h' o' k1 k2 k3 f' => r_Mo_run_543 ?_)
      rw [nI_1]
      refine w I' V' h' ⟨by rw [k1]; simp, fun t ht => ?_⟩ (fun f j b1 b2 b3 b4 b5 => f' f j (by omega) (by omega) (by omega) (by omega) (by omega))
      simp at ht
      by_cases e : t = L.length
      · subst e; rw [getD_lst]; exact ⟨o', k2, k3⟩
      · rw [getD_app (by omega)]
        obtain ⟨b1, b2, b3⟩ := hLd.2 t (by omega)
        exact ⟨mR.fr b1 (f' 25 _ (by omega) (by omega) (by omega) (by omega) (by omega)) (fun j j1 j2 => f' 24 j (by omega) (by omega) (by omega) (by omega) (by omega)), by rw [f' 27 t (by omega) (by omega) (by omega) (by omega) (by omega)]; exact b2, by rw [f' 28 t (by omega) (by omega) (by omega) (by omega) (by omega)]; exact b3⟩
    refine r_Mo_run_459 ⟨h.K9, _, h.f (f := 20) (by decide), h.k (by decide), c, rfl, by rw [h.sz (by decide)]; exact hc, by omega, ?_⟩
    rw [h.a (f := 20) (by decide), hr.1.1, hl]
    cases d with
    | zero => exact br_t ((nI_leI (by omega) (by omega)).mpr (by omega)) (lay (Or.inl (by omega)))
    | succ d =>
      refine br_f (nI_ge (by omega) (by omega)) ⟨fun z => lay (Or.inr (fun y => z (e2.mpr y))), fun z => ?_⟩
      have hd2 := e2.mp z
      have ex : (100 : Int32) * nI c + nI i = nI (100 * c + i) := by
        show nI 100 * nI c + _ = _
        rw [pk_mul, nI_add]
      refine ⟨_, h.f (f := 19) (by decide), h.k (by decide), 100 * c + i, ex, by rw [h.sz (by decide)]; show 100 * c + i < 15000; omega, by omega, ?_⟩
      have hri := hr.1.2.2.2 i (by rw [hl]; omega)
      have hgi : ((if does = 2 then (hh.take i).map zupc else hh.take i) ++ hh.drop i).getD i 0 = hh.getD i 0 := by
        rw [if_pos hd2, List.getD_eq_getElem?_getD, List.getElem?_append_right (by simp; omega)]
        simp
        rw [Nat.min_eq_left (by omega), Nat.sub_self, Nat.add_zero]
      rw [hgi] at hri
      have hmem : hh.getD i 0 < 256 := by
        rw [← hgi]; exact zgetD_lt hr.1.2.2.1 (by rw [hl]; omega)
      rw [h.a (f := 19) (by decide), hri]
      obtain ⟨u1, u2, u3⟩ := zupc_nI hmem
      have nx : ∀ v : Int32, v = nI (zupc (hh.getD i 0)) → AW E m_Mo_run (K, n, zup I (A 19) (100 * c + i) v, F, J) cb sb Q 459 [some (.ref m), none, none, some (.int (nI many)), some (.int (nI k)), some (.int (nI c)), some (.int (nI i + (1 : Int32))), none] [] := fun v hv => by
        subst hv
        rw [nI_1]
        have fr : ∀ f j, ¬ (f = 19 ∧ 100 * c ≤ j ∧ j < 100 * c + 100) → zup V 19 (100 * c + i) (nI (zupc (hh.getD i 0))) f j = V f j := fun f j b1 => by rw [zup_at, if_neg (fun z => b1 ⟨z.1, by omega, by omega⟩)]
        refine mo_rsL hc hd3 hL150 d (i + 1) _ _ (by omega) (h.up (f := 19) (by decide) (100 * c + i) _) (hS.oF (fun f j b1 b2 => fr f j (by omega))) ?_ (by rw [fr 0 16 (by omega)]; exact h16) (by rw [fr 21 c (by omega)]; exact h21) (by rw [fr 22 c (by omega)]; exact h22) (hLd.fr (fr 26 0 (by omega)) (fun f j b1 b2 b3 => fr f j (by omega))) (fun I' V' h' l' f' => w I' V' h' l' (fun f j b1 b2 b3 b4 b5 => by rw [f' f j b1 b2 b3 b4 b5, fr f j b1]))
        obtain ⟨⟨r1, r2, r3, r4⟩, r5⟩ := hr
        rw [if_pos hd2] at r1 r2 r3 r4 ⊢
        have hl2 : ((hh.take (i + 1)).map zupc ++ hh.drop (i + 1)).length = ((hh.take i).map zupc ++ hh.drop i).length := by simp; omega
        have at' : ∀ j, j < hh.length → ((hh.take (i + 1)).map zupc ++ hh.drop (i + 1)).getD j 0 = if j = i then zupc (hh.getD i 0) else ((hh.take i).map zupc ++ hh.drop i).getD j 0 := fun j hj => by
          have gen : ∀ q, q ≤ hh.length → ((hh.take q).map zupc ++ hh.drop q).getD j 0 = if j < q then zupc (hh.getD j 0) else hh.getD j 0 := fun q hq => by
            have hlt : ((hh.take q).map zupc).length = q := by simp; omega
            rw [List.getD_eq_getElem?_getD, List.getD_eq_getElem?_getD]
            by_cases e : j < q
            · rw [if_pos e, List.getElem?_append_left (by omega), List.getElem?_map, List.getElem?_take, if_pos e, List.getElem?_eq_getElem hj]; rfl
            · rw [if_neg e, List.getElem?_append_right (by omega), hlt, List.getElem?_drop, show q + (j - q) = j by omega]
          rw [gen (i + 1) (by omega), gen i (by omega)]
          by_cases e : j = i
          · subst e; rw [if_pos (by omega), if_pos rfl]
          · rw [if_neg e]
            by_cases e2 : j < i
            · rw [if_pos (by omega), if_pos e2]
            · rw [if_neg (by omega), if_neg e2]
        have hl3 : ((hh.take i).map zupc ++ hh.drop i).length = hh.length := by simp; omega
        refine ⟨⟨by rw [zup_n _ _ _ (by decide), hl2]; exact r1, by rw [hl2]; exact r2, fun y hy => ?_, fun j hj => ?_⟩, r5⟩
        · obtain ⟨j, hj, ey⟩ := List.mem_iff_getElem.mp hy
          have hj' : j < hh.length := by rw [hl2, hl3] at hj; exact hj
          have : ((hh.take (i + 1)).map zupc ++ hh.drop (i + 1)).getD j 0 = y := by rw [List.getD_eq_getElem?_getD, List.getElem?_eq_getElem hj]; exact ey
          rw [← this, at' j hj']
          split
          · unfold zupc; split <;> omega
          · exact zgetD_lt r3 (by rw [hl3]; exact hj')
        · have hj' : j < hh.length := by rw [hl2, hl3] at hj; exact hj
          rw [zup_at, at' j hj']
          by_cases e : j = i
          · rw [if_pos ⟨rfl, by omega⟩, if_pos e]
          · rw [if_neg (fun z => e (by omega)), if_neg e]; exact r4 j (by rw [hl3]; exact hj')
      refine br_c (fun y => nx _ (by rw [u1 y])) (fun y => br_c (fun y2 => nx _ (by rw [u2 y2])) (fun y2 => nx _ (u3 y y2)))
/-- run: delivering -/
theorem mo_dvL {does many : Nat} {stops : Bool} {Gs : List zHel} {oc : List Nat} (hd3 : does < 3) (hmany : many = Gs.length) (hm150 : many ≤ 150) : ∀ (G : List zHel) (k : Nat) (L : List zHel) (I : Nat → Nat → Int32) (V : Nat → Nat → Int32), Gs.drop k = G → k ≤ many → L.length ≤ k → MS B K n I F J m A V T → mB V b st → oc.length = Gs.length → oc.Nodup → (∀ g, k ≤ g → g < many → V 23 g = nI (oc.getD g 0) ∧ oc.getD g 0 < 150 ∧ mRT V 19 20 (oc.getD g 0) (Gs.getD g ([], 0, 0)).1 ∧ V 21 (oc.getD g 0) = nI (Gs.getD g ([], 0, 0)).2.2 ∧ V 22 (oc.getD g 0) = nI (Gs.getD g ([], 0, 0)).2.1) → V 0 16 = nI does → V 0 18 = zB stops → mLd V L → (stops = true → k < 3) →
    (∀ I' V', MS B K n I' F J m A V' T → mLd V' (dlL st does stops G k L) → V' 0 17 = (if stops = true ∧ 3 ≤ many then 16 else V 0 17) → (∀ f j, f ≠ 19 → ¬ (f = 24 ∧ j < 15000) → ¬ (f = 25 ∧ j < 150) → ¬ (f = 26 ∧ j = 0) → ¬ (27 ≤ f ∧ f ≤ 28) → ¬ (f = 0 ∧ j = 17) → V' f j = V f j) → Q (.inl (some (.int (nI (dlL st does stops G k L).length)))) (K, n, I', F, J)) →
    AW E m_Mo_run (K, n, I, F, J) cb sb Q 384 [some (.ref m), none, none, some (.int (nI many)), some (.int (nI k)), none, none, none] []
  | [], k, L, I, V, hG, hk, hLk, h, hS, ho1, ho2, hrest, h16, h18, hLd, hsk, w => by
    have e : Gs.length ≤ k := List.drop_eq_nil_iff.mp hG
    refine r_Mo_run_384 (br_t ((nI_leI (by omega) (by omega)).mpr (by omega)) ⟨h.K9, _, h.f (f := 26) (by decide), h.k (by decide), 0, rfl, by rw [h.sz (by decide)]; decide, by decide, ?_⟩)
    rw [h.a (by decide), hLd.1]
    refine w I V h hLd ?_ (fun _ _ _ _ _ _ _ _ => rfl)
    rw [if_neg (fun z => by have := hsk z.1; omega)]
  | h9 :: G, k, L, I, V, hG, hk, hLk, h, hS, ho1, ho2, hrest, h16, h18, hLd, hsk, w => by
    obtain ⟨ef, ed, el⟩ := zdrop_at hG
    have eg : Gs.getD k ([], 0, 0) = h9 := by rw [List.getD_eq_getElem?_getD, ef]; rfl
    obtain ⟨a1, a2, a3, a4, a5⟩ := hrest k (Nat.le_refl _) (by omega)
    rw [eg] at a3 a4 a5
    have e8 : I m 18 = zB stops := by rw [h.o]; exact h18
    have e6 : I m 16 = (1 : Int32) ↔ does = 1 := by rw [h.o, h16]; exact nI_eq (b := 1) (by omega) (by omega)
    have ocne : ∀ g, k + 1 ≤ g → g < many → oc.getD g 0 ≠ oc.getD k 0 := fun g hg1 hg2 z => by
      have := nodup_getD ho2 (by omega) (by omega) z
      omega
    unfold dlL at w
    -- the next one
    have nx : ∀ I1 V1 L1, MS B K n I1 F J m A V1 T → L1 = delF st does stops k h9 L → mLd V1 L1 → (stops = true → k < 2) → (∀ f j, ¬ (f = 19 ∧ 100 * oc.getD k 0 ≤ j ∧ j < 100 * oc.getD k 0 + 100) → ¬ (f = 24 ∧ j < 15000) → ¬ (f = 25 ∧ j < 150) → ¬ (f = 26 ∧ j = 0) → ¬ (27 ≤ f ∧ f ≤ 28) → V1 f j = V f j) → AW E m_Mo_run (K, n, I1, F, J) cb sb Q 384 [some (.ref m), none, none, some (.int (nI many)), some (.int (nI (k + 1))), none, none, none] [] := fun I1 V1 L1 h1 eL hLd1 hs2 f1 => by
      subst eL
      have := delF_ge st does stops k h9 L
      refine mo_dvL hd3 hmany hm150 G (k + 1) _ I1 V1 ed (by omega) (by omega) h1 (hS.oF (fun f j b1 b2 => f1 f j (by omega) (by omega) (by omega) (by omega) (by omega))) ho1 ho2 (fun g hg1 hg2 => ?_) (by rw [f1 0 16 (by omega) (by omega) (by omega) (by omega) (by omega)]; exact h16) (by rw [f1 0 18 (by omega) (by omega) (by omega) (by omega) (by omega)]; exact h18) hLd1 (fun z => by have := hs2 z; omega) (fun I' V' h' l' c' f' => w I' V' h' l' (by rw [c', f1 0 17 (by omega) (by omega) (by omega) (by omega) (by omega)]) (fun f j b1 b2 b3 b4 b5 b6 => by rw [f' f j b1 b2 b3 b4 b5 b6]; exact f1 f j (by omega) b2 b3 b4 b5))
      obtain ⟨b1, b2, b3, b4, b5⟩ := hrest g (by omega) hg2
      have hn := ocne g hg1 hg2
      exact ⟨by rw [f1 23 g (by omega) (by omega) (by omega) (by omega) (by omega)]; exact b1, b2, b3.fr (f1 20 _ (by omega) (by omega) (by omega) (by omega) (by omega)) (fun j j1 j2 => f1 19 j (by omega) (by omega) (by omega) (by omega) (by omega)), by rw [f1 21 _ (by omega) (by omega) (by omega) (by omega) (by omega)]; exact b4, by rw [f1 22 _ (by omega) (by omega) (by omega) (by omega) (by omega)]; exact b5⟩
    -- it is not stopped here
    have go : (stops = true → k < 2) → ((¬ (I m 16) = (1 : Int32) → AW E m_Mo_run (K, n, I, F, J) cb sb Q 459 [some (.ref m), none, none, some (.int (nI many)), some (.int (nI k)), some (.int (nI (oc.getD k 0))), some (.int (0 : Int32)), none] []) ∧ ((I m 16) = (1 : Int32) → (∃ b12 : Nat, F m 19 = some b12 ∧ (∃ b13 : Nat, F m 20 = some b13 ∧ AW E m_Mo_byteOf (K, n, I, F, J) 0 0 (zAft E m_Mo_run cb sb Q 444 [some (.ref m), none, none, some (.int (nI many)), some (.int (nI k)), some (.int (nI (oc.getD k 0))), none, none] []) 0 [some (.ref b12), some (.ref b13), some (.int (nI (oc.getD k 0))), some (.int (0 : Int32))] [])))) := fun hs2 => by
      have hns : ¬ (stops = true ∧ 3 ≤ k + 1) := fun z => by have := hs2 z.1; omega
      have wl : ¬ (does = 1 ∧ oct h9.1 0 % 2 = 1) → AW E m_Mo_run (K, n, I, F, J) cb sb Q 459 [some (.ref m), none, none, some (.int (nI many)), some (.int (nI k)), some (.int (nI (oc.getD k 0))), some (.int (nI 0)), none] [] := fun q => by
        refine mo_rsL (hh := h9.1) a2 hd3 (L := L) (by omega) h9.1.length 0 I V (by omega) h hS ?_ h16 a4 a5 hLd (fun I' V' h' l' f' => nx I' V' _ h' ?_ l' hs2 f')
        · have : (if does = 2 then (h9.1.take 0).map zupc else h9.1.take 0) ++ h9.1.drop 0 = h9.1 := by split <;> simp
          rw [this]; exact a3
        · unfold delF; rw [if_neg hns, if_neg q]
      refine ⟨fun z => wl (fun y => z (e6.mpr y.1)), fun z => ⟨_, h.f (f := 19) (by decide), _, h.f (f := 20) (by decide), mo_byteOf (k := 0) h a3 (by omega) (r_Mo_run_447 ?_)⟩⟩
      have hlt := oct_lt a3.1.2.2.1 0
      have em : nI (oct h9.1 0) - nI (oct h9.1 0) / (2 : Int32) * (2 : Int32) = nI (oct h9.1 0 % 2) := pk_rem (d := 2) (by omega) (by omega) (by omega)
      rw [em]
      have e3 : nI (oct h9.1 0 % 2) = (1 : Int32) ↔ oct h9.1 0 % 2 = 1 := nI_eq (b := 1) (by omega) (by omega)
      refine ⟨fun y => wl (fun q => y (e3.mpr q.2)), fun y => r_Mo_run_543 ?_⟩
      rw [nI_1]
      refine nx I V L h ?_ hLd hs2 (fun _ _ _ _ _ _ _ => rfl)
      unfold delF
      rw [if_neg hns, if_pos ⟨e6.mp z, e3.mp y⟩]
    refine r_Mo_run_384 (br_f (nI_ge (by omega) (by omega)) ⟨h.K9, _, h.f (f := 23) (by decide), h.k (by decide), k, rfl, by rw [h.sz (by decide)]; show k < 150; omega, by omega, ?_⟩)
    rw [h.a (by decide), a1]
    refine ⟨fun z => go (fun y => ?_), fun z => ⟨fun z2 => go (fun y => ?_), fun z2 => ⟨_, h.f (f := 26) (by decide), h.k (by decide), 0, rfl, by rw [h.sz (by decide)]; decide, by decide, ?_⟩⟩⟩
    · rw [e8, y] at z; exact absurd z (by decide)
    · have := hsk y
      have : k ≠ 2 := fun q => z2 (by rw [q]; rfl)
      omega
    · have hk2 : k = 2 := (nI_eq (a := k) (b := 2) (by omega) (by omega)).mp z2
      have hst : stops = true := by
        cases stops
        · rw [e8] at z; exact absurd rfl z
        · rfl
      have h2 := h.up0 17 (16 : Int32)
      have eD : dlL st does stops G (k + 1) (delF st does stops k h9 L) = L := by
        have : delF st does stops k h9 L = L := by unfold delF; rw [if_pos ⟨hst, by omega⟩]
        rw [this]
        exact dlL_stop st does stops G (k + 1) L hst (by omega)
      rw [h2.a (by decide), zup_n _ _ _ (by decide), hLd.1]
      rw [eD] at w
      refine w _ _ h2 (hLd.fr (by rw [zup_n _ _ _ (by decide)]) (fun f j b1 b2 b3 => by rw [zup_n _ _ _ (by omega)])) ?_ (fun f j b1 b2 b3 b4 b5 b6 => by rw [zup_at, if_neg b6])
      rw [zup_s, if_pos ⟨hst, by omega⟩]
end
section
variable {E : zE} {B : (Nat → Nat → Int32) × (Nat → Nat → Int64)} {K n : Nat → Nat} {I : Nat → Nat → Int32} {F : Nat → Nat → Option Nat} {J : Nat → Nat → Int64} {m : Nat} {A : Nat → Nat} {V : Nat → Nat → Int32} {T : Nat → Int64} {cb sb : Nat} {Q : zO → zH → Prop} {rc : zRec} {st : zStm} {b : Nat → Bool} {M : Nat}
/-- run() -/
theorem mo_run {does : Nat} {stops : Bool} (h : MS B K n I F J m A V T) (hS : mB V b st) (hR : mRec V rc M) (hd3 : does < 3) (h16 : V 0 16 = nI does) (h18 : V 0 18 = zB stops)
    (w : ∀ I' J' V' T', MS B K n I' F J' m A V' T' → mLd V' (runF st rc M does stops).1 → mRef V' 1 (runF st rc M does stops).2.1 → V' 0 17 = nI (runF st rc M does stops).2.2 → (∀ f j, ¬ (f = 0 ∧ (j = 0 ∨ j = 17)) → ¬ (19 ≤ f ∧ f ≤ 23) → ¬ (f = 24 ∧ j < 30000) → ¬ (f = 25 ∧ j < 300) → ¬ (f = 26 ∧ j < 2) → ¬ (27 ≤ f ∧ f ≤ 28) → V' f j = V f j) → Q (.inl (some (.int (nI (runF st rc M does stops).1.length)))) (K, n, I', F, J')) :
    AW E m_Mo_run (K, n, I, F, J) cb sb Q 0 [some (.ref m), none, none, none, none, none, none, none] [] := by
  have h1 := (((h.up0 0 (0 : Int32)).up0 17 (0 : Int32)).up (f := 26) (by decide) 0 (0 : Int32)).up (f := 26) (by decide) 1 (0 : Int32)
  refine r_Mo_run_0 ⟨h.K9, _, h.f (f := 26) (by decide), h.k (by decide), 0, rfl, by rw [h.sz (by decide)]; decide, by decide, 1, rfl, by rw [h.sz (by decide)]; decide, by decide, ?_⟩
  generalize hW1 : zup (zup (zup (zup V 0 0 (0 : Int32)) 0 17 (0 : Int32)) 26 0 (0 : Int32)) 26 1 (0 : Int32) = V1 at h1
  have f1 : ∀ f j, ¬ (f = 0 ∧ (j = 0 ∨ j = 17)) → ¬ (f = 26 ∧ j < 2) → V1 f j = V f j := fun f j a1 a2 => by
    rw [← hW1, zup_at, if_neg (fun z => a2 ⟨z.1, by omega⟩), zup_at, if_neg (fun z => a2 ⟨z.1, by omega⟩), zup_at, if_neg (fun z => a1 ⟨z.1, by omega⟩), zup_at, if_neg (fun z => a1 ⟨z.1, by omega⟩)]
  have v17 : V1 0 17 = nI 0 := by rw [← hW1]; simp [zup_at]; rfl
  have v260 : V1 26 0 = nI 0 := by rw [← hW1]; simp [zup_at]; rfl
  have v261 : V1 26 1 = nI 0 := by rw [← hW1]; simp [zup_at]; rfl
  have hM := hR.2.1
  unfold runF at w
  dsimp only at w
  refine mo_pickL (rc := rc) (st := st) (b := b) (M := M) M 0 0 [] [] [] _ V1 (by omega) (by omega) (by simp) h1 (hS.oF (fun f j a1 a2 => f1 f j (by omega) (by omega))) (hR.fr (f1 0 15 (by omega) (by omega)) (fun f j hf => f1 f j (by omega) (by omega))) ⟨by simp, fun j hj => by simp at hj⟩ ⟨rfl, fun k hk => by simp at hk, by simp, List.nodup_nil⟩ ⟨v261, fun t ht => by simp at ht⟩ (by simp) (fun i j _ hj => by simp [xo] at hj) (fun I2 V2 cps ord h2 hC2 hO2 hcM x2 r2 f2 => ?_)
  have hexo : xo [] [] = ([] : List Nat) := rfl
  rw [hexo] at x2 r2
  have hpl := pickF_ge st rc M 0 0 [] []
  have hg2 : ∀ g j, ¬ (19 ≤ g ∧ g ≤ 23) → ¬ (g = 24 ∧ 15000 ≤ j ∧ j < 30000) → ¬ (g = 25 ∧ 150 ≤ j ∧ j < 300) → ¬ (g = 26 ∧ j < 2) → ¬ (g = 0 ∧ (j = 0 ∨ j = 17)) → V2 g j = V g j := fun g j a1 a2 a3 a4 a5 => by rw [f2 g j a1 a2 a3 (by omega), f1 g j a5 a4]
  generalize pickF st rc M 0 0 [] [] = PG at *
  obtain ⟨P, Gf⟩ := PG
  dsimp only at x2 r2 w hpl
  have hlen : cps.length = P.length := by rw [← x2, xo_len, hO2.1]
  have hP150 : P.length ≤ 150 := by rw [← hlen]; exact hC2.1
  have v217 : V2 0 17 = nI 0 := by rw [f2 0 17 (by omega) (by omega) (by omega) (by omega)]; exact v17
  have v2260 : V2 26 0 = nI 0 := by rw [f2 26 0 (by omega) (by omega) (by omega) (by omega)]; exact v260
  have hS2 : mB V2 b st := hS.oF (fun f j a1 a2 => hg2 f j (by omega) (by omega) (by omega) (by omega) (by omega))
  have v216 : V2 0 16 = nI does := by rw [hg2 0 16 (by omega) (by omega) (by omega) (by omega) (by omega)]; exact h16
  have v218 : V2 0 18 = zB stops := by rw [hg2 0 18 (by omega) (by omega) (by omega) (by omega) (by omega)]; exact h18
  have rfr : ∀ V' : Nat → Nat → Int32, V' 26 1 = V2 26 1 → (∀ f j, f = 24 ∧ 15000 ≤ j ∧ j < 30000 ∨ f = 25 ∧ 150 ≤ j ∧ j < 300 → V' f j = V2 f j) → mRef V' 1 Gf := fun V' q1 q2 => ⟨by rw [q1]; exact r2.1, fun t ht => by
    have hl : Gf.length ≤ 150 := by simp at hpl; omega
    exact mR.fr (r2.2 t ht) (q2 25 _ (by omega)) (fun j j1 j2 => q2 24 j (by omega))⟩
  have hLd0 : mLd V2 [] := ⟨v2260, fun t ht => by simp at ht⟩
  cases hP : P with
  | nil =>
    rw [hP] at w hlen x2
    have hc0 : cps.length = 0 := by rw [hlen]; rfl
    rw [hc0]
    refine r_Mo_run_324 (br_t (by decide) ?_)
    refine r_Mo_run_384 (br_t (by decide) ⟨h2.K9, _, h2.f (f := 26) (by decide), h2.k (by decide), 0, rfl, by rw [h2.sz (by decide)]; decide, by decide, ?_⟩)
    rw [h2.a (by decide), v2260]
    exact w I2 J V2 T h2 hLd0 r2 v217 (fun f j a1 a2 a3 a4 a5 a6 => hg2 f j a2 (by omega) (by omega) a5 a1)
  | cons i0 is =>
    rw [hP] at w hlen x2 hP150
    have hol : 0 < ord.length := by rw [hO2.1, hlen]; simp
    have hol1 : ord.length = is.length + 1 := by rw [hO2.1, hlen]; simp
    simp at hP150
    obtain ⟨c0, cs, hoc⟩ : ∃ c0 cs, ord = c0 :: cs := by
      cases e : ord with
      | nil => rw [e] at hol; simp at hol
      | cons a c => exact ⟨a, c, rfl⟩
    have hx := x2
    rw [hoc] at hx
    have hx1 : cps.getD c0 0 = i0 := (List.cons.inj hx).1
    have hx2 : cs.map (fun x => cps.getD x 0) = is := (List.cons.inj hx).2
    have hcp : ∀ q, q < ord.length → V2 23 q = nI (ord.getD q 0) ∧ ord.getD q 0 < 150 ∧ mRT V2 19 20 (ord.getD q 0) (rc (cps.getD (ord.getD q 0) 0)).2 ∧ V2 21 (ord.getD q 0) = nI 1 ∧ V2 22 (ord.getD q 0) = nI (cps.getD (ord.getD q 0) 0) := fun q hq => by
      have hlt := hO2.2.2.1 _ (zgetD_mem hq)
      have := hC2.1
      obtain ⟨b1, b2, b3⟩ := hC2.2 _ hlt
      exact ⟨hO2.2.1 q hq, by omega, b1, b2, b3⟩
    have hg0 : ord.getD 0 0 = c0 := by rw [hoc]; rfl
    obtain ⟨z1, z2, z3, z4, z5⟩ := hcp 0 hol
    rw [hg0] at z1 z2 z3 z4 z5
    rw [hx1] at z3 z5
    have hnn : cps.length = ord.length := hO2.1.symm
    rw [hnn]
    have bd : (0 : Nat) < n (A 23) := by rw [h2.sz (by decide)]; decide
    refine r_Mo_run_324 (br_f (nI_nle (by omega) (by omega)) (br_t (by decide) ⟨h2.K9, _, h2.f (f := 23) (by decide), h2.k (by decide), 0, rfl, bd, by decide, 0, rfl, bd, by decide, ?_⟩))
    rw [h2.a (by decide), z1]
    have h3 := h2.up (f := 23) (by decide) 0 (nI c0)
    rw [zup_id V2 23 0 z1] at h3
    have e01 : (0 : Int32) + 1 = nI 1 := rfl
    rw [e01]
    have hwF : delivF st rc does stops (i0 :: is) = sdF st rc does stops is ((rc i0).2, i0, 1) 0 [] 0 := rfl
    rw [hwF, sd_mg] at w
    dsimp only at w
    refine mo_mgL (rc := rc) (st := st) (b := b) (cps := cps) (ord := ord) rfl (by omega) hO2.2.2.2 cs 1 0 [] ((rc i0).2, i0, 1) [c0] _ J V2 T (by rw [hoc]; rfl) (by omega) h3 hS2 ⟨rfl, by simp, fun g hg => ?_⟩ (fun x hx q hq1 hq2 z => ?_) (by simp) (fun q hq1 hq2 => hcp q hq2) v217 (by omega) (fun I4 J4 V4 T4 oc4 h4 g4 k4 f4 => ?_)
    · simp at hg
      subst hg
      exact ⟨z1, z2, z3, z4, z5⟩
    · rw [List.mem_singleton.mp hx, ← hg0] at z
      have := nodup_getD hO2.2.2.2 (by omega) (by omega) z
      omega
    · rw [hx2] at g4 k4 ⊢
      have hml := mgF_len st rc is [] ((rc i0).2, i0, 1) 0
      obtain ⟨o1, o2, o3⟩ := g4
      have hg4 : ∀ f j, ¬ (19 ≤ f ∧ f ≤ 23) → ¬ (f = 0 ∧ j = 17) → V4 f j = V2 f j := f4
      refine mo_dvL (st := st) (b := b) (does := does) (stops := stops) (Gs := (mgF st rc is [] ((rc i0).2, i0, 1) 0).1) (oc := oc4) hd3 rfl (by simp at hml; omega) (mgF st rc is [] ((rc i0).2, i0, 1) 0).1 0 [] I4 V4 rfl (by omega) (by simp) h4 (hS2.oF (fun f j a1 a2 => hg4 f j (by omega) (by omega))) o1 o2 (fun g _ hg => o3 g hg) (by rw [hg4 0 16 (by omega) (by omega)]; exact v216) (by rw [hg4 0 18 (by omega) (by omega)]; exact v218) (hLd0.fr (hg4 26 0 (by omega) (by omega)) (fun f j a1 a2 a3 => hg4 f j (by omega) (by omega))) (fun _ => by omega) (fun I5 V5 h5 l5 c5 f5 => ?_)
      refine w I5 J4 V5 T4 h5 l5 (rfr V5 (by rw [f5 26 1 (by omega) (by omega) (by omega) (by omega) (by omega) (by omega), hg4 26 1 (by omega) (by omega)]) (fun f j q => by rw [f5 f j (by omega) (by omega) (by omega) (by omega) (by omega) (by omega), hg4 f j (by omega) (by omega)])) ?_ (fun f j a1 a2 a3 a4 a5 a6 => ?_)
      · rw [c5, k4, Nat.zero_add]
        split <;> rfl
      · rw [f5 f j (by omega) (by omega) (by omega) (by omega) a6 (by omega), hg4 f j a2 (by omega)]
        exact hg2 f j a2 (by omega) (by omega) a5 a1
end
