theorem GR.fresh {S : Nat → Prop} {h h' : zH} (g : GR S h h') (hS : ∀ a, S a → h.1 a = 0) : GR (fun _ => False) h h' := g.mono (fun a ha z => ha (hS a z))
section
variable {E : zE} {K n : Nat → Nat} {I : Nat → Nat → Int32} {F : Nat → Nat → Option Nat} {J : Nat → Nat → Int64} {cb sb : Nat} {Q : zO → zH → Prop}
/-- new Reader(signs, end): its <init>, from the heap before the reader -/
theorem c_rdInit {rd sg L : Nat} {x : zTx} (hrd : K rd = 0) (hsg : K sg = 21) (hn : n sg = 500) (hL : L ≤ 500) (hx : ∀ i, i < L → zc (I sg i) (x i)) (hG : HG E K F) (hcb : 5 ≤ cb) (hsb : 20 ≤ sb)
    (w : ∀ fo K' n' I' F', GR (fun _ => False) (K, n, I, F, J) (K', n', I', F', J) → rI E K K' n' I' F' rd sg L x fo 0 stm0 0 → Q (.inl none) (K', n', I', F', J)) :
    AW E m_Reader_init (va_up K rd 3, n, va_up I rd (fun _ => 0), va_up F rd (fun _ => none), J) cb sb Q 0 [some (.ref rd), some (.ref sg), some (.int (nI L))] [] := by
  have hG1 := hG.new 3 hrd
  refine r_Reader_init_0 ⟨4, 12, by omega, by omega, fun fo hfo => r_Reader_init_8 ⟨4, 12, 0, 0, by omega, by omega, ?_⟩⟩
  have hfr : fo ≠ rd := fun z => by rw [z, va_up_s] at hfo; cases hfo
  have hKfo : K fo = 0 := by rwa [va_up_n _ _ hfr] at hfo
  have hG2 := hG1.new 6 hfo
  have g2 : GR (fun a => a = rd) (K, n, I, F, J) (va_up (va_up K rd 3) fo 6, n, va_up (va_up I rd (fun _ => 0)) fo (fun _ => 0), va_up (va_up F rd (fun _ => none)) fo (fun _ => none), J) := GR.trans (GR.newO hrd 3 _ _) (GR.newO (S := fun a => a = rd) hfo 6 _ _) (fun _ _ z => z)
  refine c_stmInit (fo := fo) (va_up_s _ _ _) hG2 (by omega) (by omega) (fun K3 n3 I3 F3 g3 hG3 hS3 hF3 => ?_)
  have hrd2 : (va_up (va_up K rd 3) fo 6) rd = 3 := by rw [va_up_n _ _ (fun z => hfr z.symm), va_up_s]
  have hrd3 : K3 rd = 3 := by rw [g3.k (by omega)]; exact hrd2
  have hsr : sg ≠ rd := fun z => by rw [z, hrd] at hsg; cases hsg
  have hsf : sg ≠ fo := fun z => by rw [z, hKfo] at hsg; cases hsg
  have hsg2 : (va_up (va_up K rd 3) fo 6) sg = 21 := by rw [va_up_n _ _ hsf, va_up_n _ _ hsr]; exact hsg
  have hsg3 : K3 sg = 21 := by rw [g3.k (by omega)]; exact hsg2
  have hnsg : n3 sg = 500 := by
    have := (g3 sg (by show (va_up (va_up K rd 3) fo 6) sg ≠ 0; omega)).2.1
    dsimp only at this
    rw [this]; exact hn
  have hIsg : I3 sg = I sg := by
    have := (g3.f (a := sg) (by omega) hsf).1
    rw [this, va_up_n _ _ hsf, va_up_n _ _ hsr]
  refine r_Reader_init_12 ⟨hrd3, hrd3, by omega, ?_⟩
  rw [hnsg]
  refine c_min (by omega) (by omega) (r_Reader_init_37 ⟨hrd3, ?_⟩)
  rw [Nat.min_eq_left hL]
  have g4 : GR (fun a => a = rd) (K3, n3, I3, F3, J) (K3, n3, zup (zup (zup I3 rd 3 (0 : Int32)) rd 4 (0 : Int32)) rd 1 (nI L), zup (zup F3 rd 2 (some fo)) rd 0 (some sg), J) := fun a _ => ⟨rfl, rfl, fun hn => ⟨by show zup _ _ _ _ a = I3 a; rw [zup_n _ _ _ hn, zup_n _ _ _ hn, zup_n _ _ _ hn], by show zup _ _ _ _ a = F3 a; rw [zup_n _ _ _ hn, zup_n _ _ _ hn], rfl⟩⟩
  have hup : ∀ a, K a ≠ 0 → (va_up (va_up K rd 3) fo 6) a ≠ 0 := fun a ha => by
    rw [va_up_n _ _ (fun z => ha (by rw [z]; exact hKfo)), va_up_n _ _ (fun z => ha (by rw [z]; exact hrd))]; exact ha
  have hK3 : ∀ a, K a ≠ 0 → K3 a ≠ 0 := fun a ha => by rw [g3.k (hup a ha)]; exact hup a ha
  have gAll : GR (fun _ => False) (K, n, I, F, J) (K3, n3, zup (zup (zup I3 rd 3 (0 : Int32)) rd 4 (0 : Int32)) rd 1 (nI L), zup (zup F3 rd 2 (some fo)) rd 0 (some sg), J) :=
    GR.fresh (S := fun a => a = rd ∨ a = fo) (((g2.mono (fun _ _ z => Or.inl z)).tr (g3.mono (fun _ _ z => Or.inr z))).tr (g4.mono (fun _ _ z => Or.inl z))) (fun a z => z.elim (fun z => by rw [z]; exact hrd) (fun z => by rw [z]; exact hKfo))
  have hG4 : HG E K3 (zup (zup F3 rd 2 (some fo)) rd 0 (some sg)) := (hG3.put rd 2 _ (by omega) (by omega) (by omega)).put rd 0 _ (by omega) (by omega) (by omega)
  have hfoF : (zup (zup F3 rd 2 (some fo)) rd 0 (some sg)) fo = F3 fo := by rw [zup_n _ _ _ hfr, zup_n _ _ _ hfr]
  refine w fo K3 n3 _ _ gAll ⟨⟨hrd3, zup_s _ _ _ _, hsg3, hnsg, hL, zup_s _ _ _ _, ?_, by omega, fun i hi => ?_⟩, hrd, hK3, ?_, by omega, ?_, hKfo, ⟨fun i j l hi hj => ?_, fun i l hi hl => ?_⟩, hG4, hS3.frF g4 hG3 (fun a _ z => Or.inl (by have hb : a = rd := z; rw [hb]; omega))⟩
  · rw [zup_k _ _ _ (by decide), zup_s]; rfl
  · rw [zup_n _ _ _ hsr, zup_n _ _ _ hsr, zup_n _ _ _ hsr, hIsg]; exact hx i hi
  · rw [zup_k _ _ _ (by decide), zup_k _ _ _ (by decide), zup_s]; rfl
  · rw [zup_k _ _ _ (by decide), zup_s]
  · rw [hfoF]; exact hF3.1 i j l hi hj
  · rw [hfoF] at hl
    obtain ⟨a1, a2, a3⟩ := hF3.2 i l hi hl
    have hlr : l ≠ rd := fun z => by rw [z] at a1; omega
    refine ⟨a1, Nat.eq_zero_of_not_pos (fun z => hup l (by omega) a2), fun e he hk => ?_⟩
    rw [zup_n _ _ _ hlr, zup_n _ _ _ hlr] at he
    exact Nat.eq_zero_of_not_pos (fun z => hup e (by omega) (a3 e he hk))
/-- read() -/
theorem c_read {o sg L : Nat} {x : zTx} (ho : K o = 8) (h0 : F o 0 = some sg) (hsg : K sg = 21) (hn : n sg = 500) (hL : L ≤ 500) (h1 : I o 1 = nI L) (hx : ∀ i, i < L → zc (I sg i) (x i)) (hG : HG E K F) (hcb : 6 + 140 * L ≤ cb) (hsb : 25 + 1400 * L ≤ sb)
    (w1 : ∀ s q fo K' n' I' F', readP x L = (some s, q) → GR (fun a => a = o) (K, n, I, F, J) (K', n', I', F', J) → HG E K' F' → K fo = 0 → cSt E K' n' I' F' fo s → fF K K' F' fo → (∀ j, j ≠ 1 → I' o j = I o j) → I' o 1 = 0 → F' o 2 = some fo → (∀ j, j ≠ 2 → F' o j = F o j) → Q (.inl (some (.int (nI s.2.2.2.2.2.2.2)))) (K', n', I', F', J))
    (w2 : ∀ q K' n' I' F', readP x L = (none, q) → GR (fun a => a = o) (K, n, I, F, J) (K', n', I', F', J) → HG E K' F' → (∀ j, j ≠ 1 → I' o j = I o j) → I' o 1 = 0 → F' o = F o → Q (.inl (some (.int (((-1) : Int32) - nI q)))) (K', n', I', F', J)) :
    AW E m_Su_read (K, n, I, F, J) cb sb Q 0 [some (.ref o), none, none] [] := by
  refine r_Su_read_0 ⟨cb - 1, sb - 5, by omega, by omega, fun rd hrd => ?_⟩
  have hor : o ≠ rd := fun z => by rw [z, hrd] at ho; cases ho
  refine r_Su_read_3 ⟨by rw [va_up_n _ _ hor]; exact ho, sg, by rw [va_up_n _ _ hor]; exact h0, 5, 20, cb - 6, sb - 25, by omega, by omega, ?_⟩
  rw [va_up_n _ _ hor, h1]
  refine c_rdInit hrd hsg hn hL hx hG (by omega) (by omega) (fun fo K1 n1 I1 F1 g1 hI1 => ?_)
  have ho1 : K1 o = 8 := by rw [g1.k (by omega)]; exact ho
  have hIo1 : I1 o = I o := (g1.f (a := o) (by omega) id).1
  have hFo1 : F1 o = F o := (g1.f (a := o) (by omega) id).2.1
  -- the count of signs is 0 again
  have g2 : GR (fun a => a = o) (K1, n1, I1, F1, J) (K1, n1, zup I1 o 1 (0 : Int32), F1, J) := fun a _ => ⟨rfl, rfl, fun hn => ⟨zup_n _ _ _ hn, rfl, rfl⟩⟩
  have hI2 : rI E K K1 n1 (zup I1 o 1 (0 : Int32)) F1 rd sg L x fo 0 stm0 0 := by
    obtain ⟨a1, a2, a3, a4, a5, a6, a7, a8, a9, a10⟩ := hI1
    have r3 := a1.1
    have hro : rd ≠ o := fun z => hor z.symm
    have hso : sg ≠ o := fun z => by rw [z] at hsg; omega
    exact ⟨a1.fr g2 hro hso, a2, a3, by rw [zup_n _ _ _ hro]; exact a4, a5, a6, a7, a8, a9, a10.frF g2 a9 (fun a _ z => Or.inl (by have hb : a = o := z; rw [hb]; omega))⟩
  refine r_Su_read_15 ⟨ho1, hI1.K3, cb - 6, sb - 25, 0, 0, by omega, by omega, ?_⟩
  have g12 : GR (fun a => a = o) (K, n, I, F, J) (K1, n1, zup I1 o 1 (0 : Int32), F1, J) := (g1.mono (fun _ _ z => z.elim)).tr g2
  refine c_all (L + 1) hI2 ⟨fun _ => rfl, fun _ => ⟨rfl, rfl⟩, fun _ => rfl, fun _ => rfl⟩ (by show 0 ≤ 0; omega) (by omega) (by omega) (by omega) (fun s q m' K3 n3 I3 F3 e g3 hI3 => ?_) (fun q K3 n3 I3 F3 e g3 b3 hG3 => ?_)
  · have ho3 : K3 o = 8 := by rw [g3.k (by omega)]; exact ho1
    have f3 := g3.f (a := o) (by omega) (by omega)
    have hfo3 := hI3.fo6
    have hof : o ≠ fo := fun z => by rw [← z] at hfo3; omega
    have g4 : GR (fun a => a = o) (K3, n3, I3, F3, J) (K3, n3, I3, zup F3 o 2 (some fo), J) := fun a _ => ⟨rfl, rfl, fun hn => ⟨rfl, zup_n _ _ _ hn, rfl⟩⟩
    have hcs := hI3.2.2.2.2.2.2.2.2.2
    show AW E m_Su_read (K3, n3, I3, F3, J) 0 0 Q 26 [some (.ref o), some (.ref rd), none] [.ref fo, .ref o]
    refine r_Su_read_26 ⟨ho3, ho3, fo, zup_s _ _ _ _, hfo3, ?_⟩
    obtain ⟨-, -, -, -, c5, -⟩ := id hcs
    rw [c5]
    have hG4 : HG E K3 (zup F3 o 2 (some fo)) := hI3.G.put o 2 _ (by omega) (by omega) (by omega)
    have hfF := hI3.2.2.2.2.2.2.2.1
    refine w1 s q fo K3 n3 I3 _ e ((GR.trans g12 g3 (fun a ha z => absurd z ha)).tr g4) hG4 hI3.2.2.2.2.2.2.1 (hcs.frF g4 hI3.G (fun a _ z => Or.inl (by have hb : a = o := z; rw [hb]; omega))) ⟨fun i j l hi hj => ?_, fun i l hi hl => ?_⟩ (fun j hj => ?_) ?_ (zup_s _ _ _ _) (fun j hj => ?_)
    · rw [zup_n _ _ _ (fun z => hof z.symm)]; exact hfF.1 i j l hi hj
    · rw [zup_n _ _ _ (fun z => hof z.symm)] at hl
      obtain ⟨a1, a2, a3⟩ := hfF.2 i l hi hl
      have hlo : l ≠ o := fun z => by rw [z] at a1; omega
      exact ⟨a1, a2, fun e he hk => a3 e (by rw [zup_n _ _ _ hlo] at he; exact he) hk⟩
    · rw [f3.1, zup_k _ _ _ hj, hIo1]
    · rw [f3.1, zup_s]
    · rw [zup_k _ _ _ hj, f3.2.1, hFo1]
  · have ho3 : K3 o = 8 := by rw [g3.k (by omega)]; exact ho1
    have f3 := g3.f (a := o) (by omega) (by omega)
    refine ⟨rfl, fun y => ?_⟩
    show AW E m_Su_read (K3, n3, I3, F3, J) 0 0 Q 32 [none, some (.ref rd), none] [.ref y]
    refine r_Su_read_32 ⟨b3.1, ?_⟩
    rw [b3.2.2.2.2.2.2.1]
    refine w2 q K3 n3 I3 F3 e (GR.trans g12 g3 (fun a ha z => absurd z ha)) hG3 (fun j hj => ?_) ?_ ?_
    · rw [f3.1, zup_k _ _ _ hj, hIo1]
    · rw [f3.1, zup_s]
    · rw [f3.2.1, hFo1]
end
