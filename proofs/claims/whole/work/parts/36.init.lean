-- ===== the class: read() and new SortUtility() on the state =====
section
variable {E : zE} {U : zU} {K n : Nat → Nat} {I : Nat → Nat → Int32} {F : Nat → Nat → Option Nat} {J : Nat → Nat → Int64} {cb sb : Nat} {Q : zO → zH → Prop} {k : Nat → Nat} {X : Nat → List Nat} {R : Nat → List Nat} {N : Nat → Nat × Nat × Nat} {st : zStm} {pu pp : List Nat} {cu cp : Nat} {D Sg : Nat → Int32}
theorem CC.chg {K' n' : Nat → Nat} {I' : Nat → Nat → Int32} {F' : Nat → Nat → Option Nat} {s : zStm} {fo : Nat} (h : CC E U K n I F J k X R N st pu cu pp cp D Sg) (g : GR (fun a => a = uo U) (K, n, I, F, J) (K', n', I', F', J)) (hG' : HG E K' F') (hf2 : F' (uo U) 2 = some fo) (hfj : ∀ j, j ≠ 2 → F' (uo U) j = F (uo U) j) (hS : cSt E K' n' I' F' fo s) (hfl : ∀ j l, j < 4 → F' fo j = some l → ∀ i, i < 6 → l ≠ ul U i) : CC E U K' n' I' F' J k X R N s pu cu pp cp (I' (uo U)) Sg := by
  obtain ⟨cap, fo0, h1, h2, h3, h4, h5, h6, h7, h8⟩ := h
  have hG := h1.2.1
  have ho := h1.1
  have hs := h1.2.2.1.2.1
  have hK : ∀ a, a = uo U → K a = 8 := fun a z => by rw [z]; exact ho
  have fr : ∀ x r, cR K n I F x r → cR K' n' I' F' x r := fun x r hx => hx.fr g (fun z => by have := hK x z; have := hx.1; omega) (fun b hb z => by have := hG.2.2.1 x b hx.1 hb; have := hK b z; omega)
  have kp : ∀ {a c : Nat}, K a = c → c ≠ 0 → K' a = c := fun {a c} ha hc => by rw [g.k (by omega)]; exact ha
  have np : ∀ {a : Nat}, K a ≠ 0 → n' a = n a := fun {a} ha => (g a ha).2.1
  have C : CG E K' n' I' F' (uo U) (usg U) fo (uhd U) (uns U) (uw U) (ul U) cap k X := by
    obtain ⟨g1, g2, g3, g4, g5, g6, g7, g8, g9, g10, g11, g12, g13, g14⟩ := h1
    refine ⟨kp g1 (by decide), hG', ⟨by rw [hfj 0 (by decide)]; exact g3.1, kp g3.2.1 (by decide), by rw [np (by omega)]; exact g3.2.2⟩, ⟨hf2, hS.1⟩, fun i hi => ?_, ⟨by rw [hfj 7 (by decide)]; exact g6.1, by rw [hfj 10 (by decide)]; exact g6.2.1, kp g6.2.2.1 (by decide), kp g6.2.2.2 (by decide)⟩, ⟨by rw [hfj 11 (by decide)]; exact g7.1, ?_⟩, ⟨by rw [hfj 12 (by decide)]; exact g8.1, kp g8.2.1 (by decide), by rw [np (by omega)]; exact g8.2.2⟩, g9, g10, fun i j hi hj z => hfl j _ hj z i hi rfl, g12, g13, g14⟩
    · obtain ⟨q1, q2⟩ := g5 i hi
      refine ⟨by rw [hfj (3 + i) (by omega)]; exact q1, q2.frX g (fun z => by have := hK _ z; have := q2.1; omega) (fun z => by have := hK _ z; have := q2.2.2.1.1; omega) (fun e _ hk z => by have := hK _ z; omega) (fun x hx => ?_)⟩
      obtain ⟨r, hr⟩ := q2.2.2.2.2.2.2.2 x hx
      exact ⟨r, fr x r hr⟩
    · obtain ⟨r, hr⟩ := g7.2
      exact ⟨r, fr _ r hr⟩
  refine ⟨cap, fo, C, hS, h3.frN g (fun a _ z => by have := hK a z; omega), h4.frN g (fun a _ z => by have := hK a z; omega), h5, ⟨rfl, ?_⟩, CC.bs h7 g (fun a _ z => by have := hK a z; omega), fun x hx => ?_⟩
  · rw [(g.f (a := usg U) (by omega) (fun z => by have := hK _ z; omega)).1]; exact h6.2
  · obtain ⟨v1, v2⟩ := h8 x hx
    refine ⟨fr x _ v1, ?_⟩
    have := v1.1
    rw [(g.f (a := x) (by omega) (fun z => by have := hK x z; omega)).1]; exact v2
/-- read() -/
theorem cc_read {L : Nat} {x : zTx} (h : CC E U K n I F J k X R N st pu cu pp cp D Sg) (hL : D 1 = nI L) (hL5 : L ≤ 500) (hx : ∀ i, i < L → zc (Sg i) (x i)) (hcb : 6 + 140 * L ≤ cb) (hsb : 25 + 1400 * L ≤ sb)
    (w1 : ∀ s q K' n' I' F', readP x L = (some s, q) → CC E U K' n' I' F' J k X R N s pu cu pp cp (va_up D 1 0) Sg → Q (.inl (some (.int (nI s.2.2.2.2.2.2.2)))) (K', n', I', F', J))
    (w2 : ∀ q K' n' I' F', readP x L = (none, q) → CC E U K' n' I' F' J k X R N st pu cu pp cp (va_up D 1 0) Sg → Q (.inl (some (.int (((-1) : Int32) - nI q)))) (K', n', I', F', J)) :
    AW E m_Su_read (K, n, I, F, J) cb sb Q 0 [some (.ref (uo U)), none, none] [] := by
  have h' := h
  obtain ⟨cap, fo0, h1, h2, h3, h4, h5, h6, h7, h8⟩ := h'
  have eD : ∀ I' : Nat → Nat → Int32, (∀ j, j ≠ 1 → I' (uo U) j = I (uo U) j) → I' (uo U) 1 = 0 → I' (uo U) = va_up D 1 0 := fun I' a1 a2 => by
    funext j
    by_cases e : j = 1
    · rw [e, va_up_s]; exact a2
    · rw [va_up_n _ _ e, a1 j e, h6.1]
  refine c_read (L := L) (x := x) h1.1 h1.2.2.1.1 h1.2.2.1.2.1 h1.2.2.1.2.2 hL5 (by rw [h6.1]; exact hL) (fun i hi => by rw [h6.2]; exact hx i hi) h1.2.1 hcb hsb (fun s q fo K' n' I' F' e g hG' hfo hS' hfF hI1 hI2 hF1 hF2 => ?_) (fun q K' n' I' F' e g hG' hI1 hI2 hF => ?_)
  · have C := h.chg g hG' hF1 hF2 hS' (fun j l hj hl i hi z => by
      have := (hfF.2 j l hj hl).2.1
      rw [z, h1.lK hi] at this; cases this)
    rw [eD I' hI1 hI2] at C
    exact w1 s q K' n' I' F' e C
  · have hS' := h2.frF g h1.2.1 (fun a _ z => Or.inl (by have hb : a = uo U := z; rw [hb]; have := h1.1; omega))
    have hfo6 := h1.2.2.2.1.2
    have ho := h1.1
    have C := h.chg g hG' (by rw [hF]; exact h1.2.2.2.1.1) (fun j _ => by rw [hF]) hS' (fun j l hj hl i hi z => by
      rw [(g.f (a := fo0) (by omega) (fun z => by have hb : fo0 = uo U := z; rw [hb] at hfo6; omega)).2.1, z] at hl
      exact h1.2.2.2.2.2.2.2.2.2.2.1 i j hi hj hl)
    rw [eD I' hI1 hI2] at C
    exact w2 q K' n' I' F' e C
end
/-- the object as it is being made: signs, statements, m of its Rows -/
def INI (E : zE) (K n : Nat → Nat) (I : Nat → Nat → Int32) (F : Nat → Nat → Option Nat) (o sg fo m : Nat) (w l : Nat → Nat) : Prop :=
  K o = 8 ∧ HG E K F ∧ I o = (fun _ => 0) ∧ (K sg = 21 ∧ n sg = 500 ∧ I sg = fun _ => 0) ∧ F o 0 = some sg ∧ F o 2 = some fo ∧ cSt E K n I F fo stm0 ∧ (∀ j x, j < 4 → F fo j = some x → K x = 10) ∧
  (∀ j, j < m → F o (3 + j) = some (w j) ∧ cW E K n I F (w j) (l j) [] 0 0) ∧ (∀ i j, i < m → j < m → w i = w j → i = j) ∧ (∀ i j, i < m → j < m → l i = l j → i = j) ∧ ∀ i j, i < m → j < 4 → F fo j ≠ some (l i)
section
variable {E : zE} {K n K' n' : Nat → Nat} {I I' : Nat → Nat → Int32} {F F' : Nat → Nat → Option Nat} {J J' : Nat → Nat → Int64} {o sg fo m : Nat} {w l : Nat → Nat}
theorem INI.fr {S : Nat → Prop} (h : INI E K n I F o sg fo m w l) (hS : ∀ a, K a ≠ 0 → S a → a = o) (g : GR S (K, n, I, F, J) (K', n', I', F', J')) (hG : HG E K' F') (hI : I' o = fun _ => 0) (hF : ∀ j, (j = 0 ∨ j = 2 ∨ (3 ≤ j ∧ j < 3 + m)) → F' o j = F o j) : INI E K' n' I' F' o sg fo m w l := by
  replace g : GR (fun a => a = o) (K, n, I, F, J) (K', n', I', F', J') := g.mono hS
  obtain ⟨h1, h2, h3, h4, h5, h6, h7, h8, h9, h10, h11, h12⟩ := h
  have hK : ∀ a, a = o → K a = 8 := fun a z => by rw [z]; exact h1
  have kp : ∀ {a c : Nat}, K a = c → c ≠ 0 → K' a = c := fun {a c} ha hc => by rw [g.k (by omega)]; exact ha
  have hfo := h7.1
  have efo : F' fo = F fo := (g.f (a := fo) (by omega) (fun z => by have := hK _ z; omega)).2.1
  refine ⟨kp h1 (by decide), hG, hI, ⟨kp h4.1 (by decide), ?_, ?_⟩, by rw [hF 0 (Or.inl rfl)]; exact h5, by rw [hF 2 (Or.inr (Or.inl rfl))]; exact h6, h7.frF g h2 (fun a _ z => Or.inl (by have := hK a z; omega)), fun j x hj hx => ?_, fun j hj => ⟨by rw [hF (3 + j) (Or.inr (Or.inr ⟨by omega, by omega⟩))]; exact (h9 j hj).1, ?_⟩, h10, h11, fun i j hi hj => by rw [efo]; exact h12 i j hi hj⟩
  · have := (g sg (by show K sg ≠ 0; omega)).2.1
    dsimp only at this
    rw [this]; exact h4.2.1
  · rw [(g.f (a := sg) (by omega) (fun z => by have := hK _ z; omega)).1]; exact h4.2.2
  · rw [efo] at hx; exact kp (h8 j x hj hx) (by decide)
  · have q := (h9 j hj).2
    exact q.frX g (fun z => by have := hK _ z; have := q.1; omega) (fun z => by have := hK _ z; have := q.2.2.1.1; omega) (fun e _ hk z => by have := hK _ z; omega) (fun x hx => by cases hx)
/-- the next Rows is stored -/
theorem INI.st {q lq : Nat} (J : Nat → Nat → Int64) (h : INI E K n I F o sg fo m w l) (hW : cW E K n I F q lq [] 0 0) (hq : ∀ i, i < m → w i ≠ q) (hl : ∀ i, i < m → l i ≠ lq) (hfl : ∀ j, j < 4 → F fo j ≠ some lq) : INI E K n I (zup F o (3 + m) (some q)) o sg fo (m + 1) (va_up w m q) (va_up l m lq) := by
  have ho := h.1
  have hq5 := hW.1
  have g : GR (fun a => a = o) (K, n, I, F, J) (K, n, I, zup F o (3 + m) (some q), J) := fun a _ => ⟨rfl, rfl, fun hn => ⟨rfl, zup_n _ _ _ hn, rfl⟩⟩
  have h' := h.fr (fun a _ z => z) g (h.2.1.put o (3 + m) _ (by omega) (by omega) (by omega)) h.2.2.1 (fun j hj => zup_k _ _ _ (by omega) _)
  obtain ⟨h1, h2, h3, h4, h5, h6, h7, h8, h9, h10, h11, h12⟩ := h'
  have hK : ∀ a, a = o → K a = 8 := fun a z => by rw [z]; exact ho
  have hW' := hW.frX g (fun z => by have := hK _ z; omega) (fun z => by have := hK _ z; have := hW.2.2.1.1; omega) (fun e _ hk z => by have := hK _ z; omega) (fun x hx => by cases hx)
  have hfo := h.2.2.2.2.2.2.1.1
  have efo : zup F o (3 + m) (some q) fo = F fo := zup_n _ _ _ (fun z => by have := hK _ z; omega)
  refine ⟨h1, h2, h3, h4, h5, h6, h7, h8, fun j hj => ?_, fun i j hi hj e => ?_, fun i j hi hj e => ?_, fun i j hi hj => ?_⟩
  · by_cases e : j = m
    · subst e; rw [va_up_s, va_up_s]; exact ⟨zup_s _ _ _ _, hW'⟩
    · rw [va_up_n _ _ e, va_up_n _ _ e]; exact h9 j (by omega)
  · by_cases ei : i = m <;> by_cases ej : j = m
    · omega
    · rw [ei, va_up_s, va_up_n _ _ ej] at e; exact absurd e.symm (hq j (by omega))
    · rw [ej, va_up_s, va_up_n _ _ ei] at e; exact absurd e (hq i (by omega))
    · rw [va_up_n _ _ ei, va_up_n _ _ ej] at e; exact h10 i j (by omega) (by omega) e
  · by_cases ei : i = m <;> by_cases ej : j = m
    · omega
    · rw [ei, va_up_s, va_up_n _ _ ej] at e; exact absurd e.symm (hl j (by omega))
    · rw [ej, va_up_s, va_up_n _ _ ei] at e; exact absurd e (hl i (by omega))
    · rw [va_up_n _ _ ei, va_up_n _ _ ej] at e; exact h11 i j (by omega) (by omega) e
  · by_cases ei : i = m
    · rw [ei, va_up_s, efo]; exact hfl j hj
    · rw [va_up_n _ _ ei]; exact h12 i j (by omega) hj
end
section
variable {E : zE} {K n : Nat → Nat} {I : Nat → Nat → Int32} {F : Nat → Nat → Option Nat} {J : Nat → Nat → Int64} {cb sb : Nat} {Q : zO → zH → Prop} {o sg fo m : Nat} {w l : Nat → Nat}
/-- a Rows is made -/
theorem c_iniW {q : Nat} (h : INI E K n I F o sg fo m w l) (hq : K q = 0) (hcb : 1 ≤ cb) (hsb : 3 ≤ sb)
    (k : ∀ lq K' I' F', INI E K' n I' F' o sg fo m w l → F' o = F o → cW E K' n I' F' q lq [] 0 0 → (∀ i, i < m → w i ≠ q) → (∀ i, i < m → l i ≠ lq) → (∀ j, j < 4 → F' fo j ≠ some lq) → Q (.inl none) (K', n, I', F', J)) :
    AW E m_Rows_init (va_up K q 5, n, va_up I q (fun _ => 0), va_up F q (fun _ => none), J) cb sb Q 0 [some (.ref q)] [] := by
  have ho := h.1
  have hoq : o ≠ q := fun z => by rw [z, hq] at ho; cases ho
  have g1 : GR (fun a => a = o) (K, n, I, F, J) (va_up K q 5, n, va_up I q (fun _ => 0), va_up F q (fun _ => none), J) := GR.newO hq 5 _ _
  have h1 := h.fr (fun a _ z => z) g1 (h.2.1.new 5 hq) (by rw [va_up_n _ _ hoq]; exact h.2.2.1) (fun j _ => by rw [va_up_n _ _ hoq])
  refine c_rowsInit (va_up_s _ _ _) h1.2.1 hcb hsb (fun lq K' I' F' hlq g hG' hW => ?_)
  have ho1 := h1.1
  have fo1 := g.f (a := o) (by omega) hoq
  have g2 : GR (fun a => a = o) (K, n, I, F, J) (K', n, I', F', J) := GR.trans g1 g (fun a ha z => absurd (by have hb : a = q := z; show K a = 0; rw [hb]; exact hq) ha)
  have hlq0 : K lq = 0 := by
    by_cases e : lq = q
    · rw [e]; exact hq
    · rwa [va_up_n _ _ e] at hlq
  have h2 := h.fr (fun a _ z => z) g2 hG' (by rw [fo1.1, va_up_n _ _ hoq]; exact h.2.2.1) (fun j _ => by rw [fo1.2.1, va_up_n _ _ hoq])
  refine k lq K' I' F' h2 (by rw [fo1.2.1, va_up_n _ _ hoq]) hW (fun i hi z => ?_) (fun i hi z => ?_) (fun j hj z => ?_)
  · have := (h.2.2.2.2.2.2.2.2.1 i hi).2.1; rw [z, hq] at this; cases this
  · have := (h.2.2.2.2.2.2.2.2.1 i hi).2.2.2.1.1; rw [z, hlq0] at this; cases this
  · have hfo := h.2.2.2.2.2.2.1.1
    have efo : F' fo = F fo := (g2.f (a := fo) (by omega) (fun z => by have hb : fo = o := z; rw [hb] at hfo; omega)).2.1
    rw [efo] at z
    have := h.2.2.2.2.2.2.2.1 j lq hj z
    rw [hlq0] at this; cases this
/-- new SortUtility(): its <init> -/
theorem cc_init {o : Nat} (ho : K o = 8) (hI : I o = fun _ => 0) (hG : HG E K F) (hcb : 20 ≤ cb) (hsb : 700 ≤ sb)
    (k : ∀ U K' n' I' F' J', uo U = o → CC E U K' n' I' F' J' (fun _ => 0) (fun _ => []) (fun _ => []) (fun _ => (0, 0, 1)) stm0 [] 0 [] 0 (fun _ => 0) (fun _ => 0) → Q (.inl none) (K', n', I', F', J')) :
    AW E m_Su_init (K, n, I, F, J) cb sb Q 0 [some (.ref o)] [] := by
  refine r_Su_init_0 ⟨cb - 1, sb - 500, by omega, by omega, fun sg hsg => ?_⟩
  have hos : o ≠ sg := fun z => by rw [z, hsg] at ho; cases ho
  have ho1 : va_up K sg 21 o = 8 := by rw [va_up_n _ _ hos]; exact ho
  have hG1 : HG E (va_up K sg 21) F := hG.newA 21 (Or.inr (Or.inl rfl)) hsg
  have hz : ∀ (A : Nat → Nat → Int32) (j : Nat), A o = (fun _ => 0) → zup A o j (0 : Int32) o = fun _ => 0 := fun A j hA => by
    rw [zup_row, hA]
    funext t
    by_cases e : t = j
    · rw [e, va_up_s]
    · rw [va_up_n _ _ e]
  refine r_Su_init_10 ⟨ho1, ho1, cb - 2, sb - 508, by omega, by omega, fun fo hfo => ?_⟩
  have hG2 : HG E (va_up K sg 21) (zup F o 0 (some sg)) := hG1.put o 0 _ (by omega) (by omega) (by omega)
  have hG3 := hG2.new 6 hfo
  have hof : o ≠ fo := fun z => by rw [z, hfo] at ho1; cases ho1
  have hsf : sg ≠ fo := fun z => by rw [← z, va_up_s] at hfo; cases hfo
  refine r_Su_init_22 ⟨4, 12, cb - 6, sb - 520, by omega, by omega, ?_⟩
  refine c_stmInit (fo := fo) (va_up_s _ _ _) hG3 (by omega) (by omega) (fun K4 n4 I4 F4 g4 hG4 hS4 hfF4 => ?_)
  have ho3 : (va_up (va_up K sg 21) fo 6) o = 8 := by rw [va_up_n _ _ hof]; exact ho1
  have fo4 := g4.f (a := o) (by omega) hof
  have sg3 : (va_up (va_up K sg 21) fo 6) sg = 21 := by rw [va_up_n _ _ hsf, va_up_s]
  have fs4 := g4.f (a := sg) (by omega) hsf
  have hK4 : K4 o = 8 := by rw [g4.k (by omega)]; exact ho3
  have hfo4 : fo ≠ o := fun z => hof z.symm
  -- the statements are stored
  have g5 : GR (fun a => a = o) (K4, n4, I4, F4, J) (K4, n4, I4, zup F4 o 2 (some fo), J) := fun a _ => ⟨rfl, rfl, fun hn => ⟨rfl, zup_n _ _ _ hn, rfl⟩⟩
  have hK6 := hS4.1
  have hB : INI E K4 n4 I4 (zup F4 o 2 (some fo)) o sg fo 0 (fun _ => 0) (fun _ => 0) := by
    refine ⟨hK4, hG4.put o 2 _ (by omega) (by omega) (by omega), ?_, ⟨by rw [g4.k (by omega)]; exact sg3, ?_, ?_⟩, ?_, zup_s _ _ _ _, hS4.frF g5 hG4 (fun a _ z => Or.inl (by have hb : a = o := z; rw [hb]; omega)), fun j x hj hx => ?_, fun j hj => by omega, fun i j hi _ _ => by omega, fun i j hi _ _ => by omega, fun i j hi _ => by omega⟩
    · rw [fo4.1, va_up_n _ _ hof]; exact hz _ _ (by rw [va_up_n _ _ hos]; exact hI)
    · have := (g4 sg (by show (va_up (va_up K sg 21) fo 6) sg ≠ 0; omega)).2.1
      dsimp only at this
      rw [this, va_up_s]
    · rw [fs4.1, va_up_n _ _ hsf, zup_n _ _ _ (fun z => hos z.symm), va_up_s]
    · rw [zup_k _ _ _ (by decide), fo4.2.1, va_up_n _ _ hof, zup_s]
    · rw [zup_n _ _ _ hfo4] at hx
      exact (hfF4.2 j x hj hx).1
  refine r_Su_init_26 ⟨hK4, cb - 7, sb - 522, by omega, by omega, fun q0 hq0 => r_Su_init_33 ⟨1, 3, cb - 8, sb - 525, by omega, by omega, ?_⟩⟩
  refine c_iniW hB hq0 (by omega) (by omega) (fun l0 K5 I5 F5 B5 eF5 W5 a5 b5 c5 => ?_)
  have B5' := INI.st J B5 W5 a5 b5 c5
  refine r_Su_init_37 ⟨B5.1, cb - 9, sb - 527, by omega, by omega, fun q1 hq1 => r_Su_init_44 ⟨1, 3, cb - 10, sb - 530, by omega, by omega, ?_⟩⟩
  refine c_iniW B5' hq1 (by omega) (by omega) (fun l1 K6 I6 F6 B6 eF6 W6 a6 b6 c6 => ?_)
  have B6' := INI.st J B6 W6 a6 b6 c6
  refine r_Su_init_48 ⟨B6.1, cb - 11, sb - 532, by omega, by omega, fun q2 hq2 => r_Su_init_55 ⟨1, 3, cb - 12, sb - 535, by omega, by omega, ?_⟩⟩
  refine c_iniW B6' hq2 (by omega) (by omega) (fun l2 K7 I7 F7 B7 eF7 W7 a7 b7 c7 => ?_)
  have B7' := INI.st J B7 W7 a7 b7 c7
  refine r_Su_init_59 ⟨B7.1, cb - 13, sb - 537, by omega, by omega, fun q3 hq3 => r_Su_init_66 ⟨1, 3, cb - 14, sb - 540, by omega, by omega, ?_⟩⟩
  refine c_iniW B7' hq3 (by omega) (by omega) (fun l3 K8 I8 F8 B8 eF8 W8 a8 b8 c8 => ?_)
  have B8' := INI.st J B8 W8 a8 b8 c8
  -- the unmatched
  have hK8 := B8'.1
  refine r_Su_init_70 ⟨B8.1, cb - 15, sb - 543, by omega, by omega, fun l4 hl4 => r_Su_init_77 (c_newList (M := m_Su_init) (pc := 0) (lv := []) (st := []) B8'.2.1 hl4 (Nat.zero_le _) (fun I9 F9 _ gg9 hG9 hL9 => ?_))⟩
  have f9 := gg9.f (a := o) (by omega) id
  have B9 := B8'.fr (fun a _ z => z.elim) gg9 hG9 (by rw [f9.1]; exact B8'.2.2.1) (fun j _ => by rw [f9.2.1])
  have hK9 := B9.1
  have g9w : GR (fun a => a = o) (va_up K8 l4 10, n4, I9, F9, J) (va_up K8 l4 10, n4, zup (zup I9 o 8 (0 : Int32)) o 9 (0 : Int32), zup F9 o 7 (some l4), J) := fun a _ => ⟨rfl, rfl, fun hn => ⟨by show zup _ _ _ _ a = I9 a; rw [zup_n _ _ _ hn, zup_n _ _ _ hn], zup_n _ _ _ hn, rfl⟩⟩
  have B9w := B9.fr (fun a _ z => z) g9w (hG9.put o 7 _ (by omega) (by omega) (by omega)) (hz _ _ (hz _ _ B9.2.2.1)) (fun j hj => zup_k _ _ _ (by omega) _)
  -- the picked
  refine r_Su_init_81 ⟨hK9, hK9, cb - 16, sb - 546, by omega, by omega, fun l5 hl5 => r_Su_init_98 (c_newList (M := m_Su_init) (pc := 0) (lv := []) (st := []) B9w.2.1 hl5 (Nat.zero_le _) (fun I10 F10 _ gg10 hG10 hL10 => ?_))⟩
  have f10 := gg10.f (a := o) (by omega) id
  have B10 := B9w.fr (fun a _ z => z.elim) gg10 hG10 (by rw [f10.1]; exact B9w.2.2.1) (fun j _ => by rw [f10.2.1])
  have hK10 := B10.1
  have gA : GR (fun a => a = o) (va_up K8 l4 10, n4, I9, F9, J) (va_up (va_up K8 l4 10) l5 10, n4, I10, F10, J) := g9w.tr (gg10.mono (fun _ _ z => z.elim))
  have e107 : F10 o 7 = some l4 := by rw [f10.2.1, zup_s]
  have g10w : GR (fun a => a = o) (va_up (va_up K8 l4 10) l5 10, n4, I10, F10, J) (va_up (va_up K8 l4 10) l5 10, n4, I10, zup F10 o 10 (some l5), J) := fun a _ => ⟨rfl, rfl, fun hn => ⟨rfl, zup_n _ _ _ hn, rfl⟩⟩
  have B10w := B10.fr (fun a _ z => z) g10w (hG10.put o 10 _ (by omega) (by omega) (by omega)) B10.2.2.1 (fun j hj => zup_k _ _ _ (by omega) _)
  -- the held row
  refine r_Su_init_102 ⟨hK10, cb - 17, sb - 551, by omega, by omega, fun hd hhd => r_Su_init_109 ⟨1, 100, cb - 18, sb - 651, by omega, by omega, ?_⟩⟩
  have hohd : o ≠ hd := fun z => by rw [z, hhd] at hK10; cases hK10
  have hG11 := B10w.2.1.new 4 hhd
  refine c_rowInit (va_up_s _ _ _) hG11 (by omega) (by omega) (fun b I11 hb0 g11 hG11' i2 i3 i4 hr11 => ?_)
  have gB : GR (fun a => a = o) (va_up (va_up K8 l4 10) l5 10, n4, I10, F10, J) (va_up (va_up (va_up (va_up K8 l4 10) l5 10) hd 4) b 20, va_up n4 b 100, I11, zup (va_up (zup F10 o 10 (some l5)) hd (fun _ => none)) hd 0 (some b), J) :=
    GR.trans (g10w.tr (GR.newO hhd 4 _ _)) g11 (fun a ha z => absurd (by have hb : a = hd := z; show (va_up (va_up K8 l4 10) l5 10) a = 0; rw [hb]; exact hhd) ha)
  have hob : o ≠ b := fun z => by
    rw [← z, va_up_n _ _ hohd] at hb0
    rw [hb0] at hK10; cases hK10
  have eI11 : I11 o = fun _ => 0 := by
    have hq : (va_up (va_up (va_up K8 l4 10) l5 10) hd 4) o = 8 := by rw [va_up_n _ _ hohd]; exact hK10
    rw [(g11.f (a := o) (by omega) hohd).1, va_up_n _ _ hohd]; exact B10.2.2.1
  have eF11 : ∀ j, j ≠ 10 → (zup (va_up (zup F10 o 10 (some l5)) hd (fun _ => none)) hd 0 (some b)) o j = F10 o j := fun j hj => by
    rw [zup_n _ _ _ hohd, va_up_n _ _ hohd, zup_k _ _ _ hj]
  have e1110 : (zup (va_up (zup F10 o 10 (some l5)) hd (fun _ => none)) hd 0 (some b)) o 10 = some l5 := by rw [zup_n _ _ _ hohd, va_up_n _ _ hohd, zup_s]
  have B11 := B10.fr (fun a _ z => z) gB hG11' eI11 (fun j hj => eF11 j (by omega))
  have hK11 := B11.1
  -- the new sums
  refine r_Su_init_113 ⟨hK11, cb - 19, sb - 655, by omega, by omega, fun ns hns => ?_⟩
  have hons : o ≠ ns := fun z => by rw [z, hns] at hK11; cases hK11
  have hKo : (va_up (va_up (va_up (va_up (va_up K8 l4 10) l5 10) hd 4) b 20) ns 22) o = 8 := by rw [va_up_n _ _ hons]; exact hK11
  refine r_Su_init_120 ⟨hKo, hKo, ?_⟩
  generalize hF11 : (zup (va_up (zup F10 o 10 (some l5)) hd (fun _ => none)) hd 0 (some b)) = F11 at *
  generalize hK11' : (va_up (va_up (va_up (va_up K8 l4 10) l5 10) hd 4) b 20) = K11 at *
  generalize hn11 : va_up n4 b 100 = n11 at *
  have gC : GR (fun a => a = o) (K11, n11, I11, F11, J) (va_up K11 ns 22, va_up n11 ns 4, zup (zup I11 o 13 (0 : Int32)) o 14 (0 : Int32), zup (zup F11 o 11 (some hd)) o 12 (some ns), va_up J ns (fun _ => 0)) := fun a ha => by
    have hne : a ≠ ns := fun z => ha (by show K11 a = 0; rw [z]; exact hns)
    exact ⟨va_up_n _ _ hne, va_up_n _ _ hne, fun hn => ⟨by show zup _ _ _ _ a = I11 a; rw [zup_n _ _ _ hn, zup_n _ _ _ hn], by show zup _ _ _ _ a = F11 a; rw [zup_n _ _ _ hn, zup_n _ _ _ hn], va_up_n _ _ hne⟩⟩
  have hGC : HG E (va_up K11 ns 22) (zup (zup F11 o 11 (some hd)) o 12 (some ns)) := ((hG11'.newA 22 (Or.inr (Or.inr rfl)) hns).put o 11 _ (by omega) (by omega) (by omega)).put o 12 _ (by omega) (by omega) (by omega)
  have BC := B11.fr (fun a _ z => z) gC hGC (hz _ _ (hz _ _ eI11)) (fun j hj => by rw [zup_k _ _ _ (by omega), zup_k _ _ _ (by omega)])
  have hko : ∀ {A : Nat → Nat} {a : Nat}, a = o → A o = 8 → A a = 8 := fun z q => by rw [z]; exact q
  have L4 := ((hL9.frN gA (fun a _ z => by have := hko z hK9; omega)).frN gB (fun a _ z => by have := hko z hK10; omega)).frN gC (fun a _ z => by have := hko z hK11; omega)
  have L5 := (hL10.frN gB (fun a _ z => by have := hko z hK10; omega)).frN gC (fun a _ z => by have := hko z hK11; omega)
  have hr4 := hr11.1
  have RH := hr11.fr gC (fun z => by have := hko z hK11; omega) (fun c hc z => by have := hG11'.2.2.1 hd c hr4 hc; have := hko z hK11; omega)
  obtain ⟨c1, c2, c3, c4, c5, c6, c7, c8, c9, c10, c11, c12⟩ := BC
  have lk : ∀ i, i < 4 → K8 (va_up (va_up (va_up (va_up (fun _ => 0) 0 l0) 1 l1) 2 l2) 3 l3 i) = 10 := fun i hi => (B8'.2.2.2.2.2.2.2.2.1 i hi).2.2.2.1.1
  have lk9 : ∀ i, i < 4 → (va_up K8 l4 10) (va_up (va_up (va_up (va_up (fun _ => 0) 0 l0) 1 l1) 2 l2) 3 l3 i) = 10 := fun i hi => (B9.2.2.2.2.2.2.2.2.1 i hi).2.2.2.1.1
  have hl45 : l4 ≠ l5 := fun z => by rw [← z, va_up_s] at hl5; cases hl5
  have hli4 : ∀ i, i < 4 → va_up (va_up (va_up (va_up (fun _ => 0) 0 l0) 1 l1) 2 l2) 3 l3 i ≠ l4 := fun i hi z => by have := lk i hi; rw [z, hl4] at this; cases this
  have hli5 : ∀ i, i < 4 → va_up (va_up (va_up (va_up (fun _ => 0) 0 l0) 1 l1) 2 l2) 3 l3 i ≠ l5 := fun i hi z => by have := lk9 i hi; rw [z, hl5] at this; cases this
  -- what the lists of the statements are not
  have fo8 := B8'.2.2.2.2.2.2.1.1
  have fo9 := B9.2.2.2.2.2.2.1.1
  have fo10 := B10.2.2.2.2.2.2.1.1
  have fo11 := B11.2.2.2.2.2.2.1.1
  have hnof : fo ≠ o := fun z => by rw [z] at fo8; omega
  have ef9 : F9 fo = zup F8 o 6 (some q3) fo := (gg9.f (a := fo) (by omega) id).2.1
  have ef10 : F10 fo = F9 fo := (gA.f (a := fo) (by omega) hnof).2.1
  have ef11 : F11 fo = F10 fo := (gB.f (a := fo) (by omega) hnof).2.1
  have efC : zup (zup F11 o 11 (some hd)) o 12 (some ns) fo = F11 fo := by rw [zup_n _ _ _ hnof, zup_n _ _ _ hnof]
  have hf4 : ∀ j, j < 4 → zup (zup F11 o 11 (some hd)) o 12 (some ns) fo j ≠ some l4 := fun j hj z => by
    rw [efC, ef11, ef10, ef9] at z
    have := B8'.2.2.2.2.2.2.2.1 j l4 hj z
    rw [hl4] at this; cases this
  have hf5 : ∀ j, j < 4 → zup (zup F11 o 11 (some hd)) o 12 (some ns) fo j ≠ some l5 := fun j hj z => by
    rw [efC, ef11, ef10] at z
    have := B9.2.2.2.2.2.2.2.1 j l5 hj z
    rw [hl5] at this; cases this
  let wF := va_up (va_up (va_up (va_up (fun _ => 0) 0 q0) 1 q1) 2 q2) 3 q3
  let lW := va_up (va_up (va_up (va_up (fun _ => 0) 0 l0) 1 l1) 2 l2) 3 l3
  let lF := va_up (va_up lW 4 l4) 5 l5
  have lF4 : lF 4 = l4 := by show va_up (va_up lW 4 l4) 5 l5 4 = l4; rw [va_up_n _ _ (by decide), va_up_s]
  have lF5 : lF 5 = l5 := va_up_s _ _ _
  have lFi : ∀ i, i < 4 → lF i = lW i := fun i hi => by show va_up (va_up lW 4 l4) 5 l5 i = lW i; rw [va_up_n _ _ (by omega), va_up_n _ _ (by omega)]
  refine k ((va_up K11 ns 22, va_up n11 ns 4, zup (zup I11 o 13 (0 : Int32)) o 14 (0 : Int32), zup (zup F11 o 11 (some hd)) o 12 (some ns), va_up J ns (fun _ => 0)), o, sg, hd, ns, wF, lF) _ _ _ _ _ rfl ⟨fun _ => 0, fo, ⟨c1, c2, ⟨c5, c4.1, c4.2.1⟩, ⟨c6, c7.1⟩, fun i hi => ⟨(c9 i hi).1, ?_⟩, ⟨?_, ?_, ?_, ?_⟩, ⟨?_, [], RH⟩, ⟨zup_s _ _ _ _, va_up_s _ _ _, va_up_s _ _ _⟩, c10, fun i j hi hj e => ?_, fun i j hi hj => ?_, fun _ _ _ _ _ z => by (cases z), fun _ _ => List.nodup_nil, fun _ _ z => by (cases z)⟩, c7, ?_, ?_, ⟨by omega, by omega, fun a ha => by (cases ha), fun a ha => by (cases ha)⟩, ⟨c3, c4.2.2⟩, GR.refl _, fun a ha => ?_⟩
  · show cW _ _ _ _ _ (wF i) (lF i) [] 0 0
    rw [lFi i hi]; exact (c9 i hi).2
  · show zup (zup F11 o 11 (some hd)) o 12 (some ns) o 7 = some (lF 4)
    rw [lF4, zup_k _ _ _ (by decide), zup_k _ _ _ (by decide), eF11 7 (by decide)]; exact e107
  · show zup (zup F11 o 11 (some hd)) o 12 (some ns) o 10 = some (lF 5)
    rw [lF5, zup_k _ _ _ (by decide), zup_k _ _ _ (by decide)]; exact e1110
  · show va_up K11 ns 22 (lF 4) = 10
    rw [lF4]; exact L4.1
  · show va_up K11 ns 22 (lF 5) = 10
    rw [lF5]; exact L5.1
  · show zup _ _ _ _ o 11 = some hd
    rw [zup_k _ _ _ (by decide), zup_s]
  · replace e : lF i = lF j := e
    have cases6 : ∀ i, i < 6 → i < 4 ∨ i = 4 ∨ i = 5 := fun i hi => by omega
    rcases cases6 i hi with p | p | p <;> rcases cases6 j hj with q | q | q
    · rw [lFi i p, lFi j q] at e; exact c11 i j p q e
    · rw [lFi i p, q, lF4] at e; exact absurd e (hli4 i p)
    · rw [lFi i p, q, lF5] at e; exact absurd e (hli5 i p)
    · rw [lFi j q, p, lF4] at e; exact absurd e.symm (hli4 j q)
    · omega
    · rw [p, q, lF4, lF5] at e; exact absurd e hl45
    · rw [lFi j q, p, lF5] at e; exact absurd e.symm (hli5 j q)
    · rw [p, q, lF4, lF5] at e; exact absurd e.symm hl45
    · omega
  · show zup (zup F11 o 11 (some hd)) o 12 (some ns) fo j ≠ some (lF i)
    have : i < 4 ∨ i = 4 ∨ i = 5 := by omega
    rcases this with p | p | p
    · rw [lFi i p]; exact c12 i j p hj
    · rw [p, lF4]; exact hf4 j hj
    · rw [p, lF5]; exact hf5 j hj
  · show cL _ _ _ _ _ (lF 4) [] 0
    rw [lF4]; exact L4
  · show cL _ _ _ _ _ (lF 5) [] 0
    rw [lF5]; exact L5
  · rcases ha with ha | ⟨i, hi, ha⟩
    · have e : a = hd := ha
      subst e
      have hao : a ≠ o := fun z => hohd z.symm
      refine ⟨RH, ?_, ?_, ?_⟩
      · rw [zup_n _ _ _ hao, zup_n _ _ _ hao, i2]; rfl
      · rw [zup_n _ _ _ hao, zup_n _ _ _ hao, i3]; rfl
      · rw [zup_n _ _ _ hao, zup_n _ _ _ hao, i4]; rfl
    · cases ha
end
