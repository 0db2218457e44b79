-- ===== the law: class and reference side by side =====
/-- the reference's cells are none of the class's -/
def SP (Uo : zUo) (m : Nat) (A : Nat → Nat) : Prop := ∀ a, mown m A a → a ≠ Uo.2.1 ∧ a ≠ Uo.2.2.2.1
def LW (E : zE) (Uo : zUo) (m : Nat) (A : Nat → Nat) (K n : Nat → Nat) (I : Nat → Nat → Int32) (F : Nat → Nat → Option Nat) (J : Nat → Nat → Int64) (x : zTx) (L : Nat) (st : zStm) (rc : zRec) (M : Nat) (Ld : List zHel) (rf jn : List (List Nat)) (u : List Nat) (does : Nat) (stops : Bool) (code pc ps : Nat) : Prop :=
  CS E Uo K n I F J x L st rc M Ld rf jn u does stops code pc ps ∧ MD anyI K n I F J m A x L st rc M Ld rf jn u does stops code ∧ SP Uo m A
/-- the rest of the law, from its loop's head -/
def NX (E : zE) (Uo : zUo) (m : Nat) (A : Nat → Nat) (a0 j d : Nat) (Q : zO → zH → Prop) : Prop := ∀ K n I F J x L st rc M Ld rf jn u does stops code pc ps cb sb, LW E Uo m A K n I F J x L st rc M Ld rf jn u does stops code pc ps → pc + 140 * L + 146 * d ≤ cb → ps + 1400 * L + 1425 * d ≤ sb → AW E m_Law_law (K, n, I, F, J) cb sb Q 18 [some (.ref a0), some (.ref Uo.1), some (.ref m), some (.int (nI (j + 4))), none] []
section
variable {c : Int32 → Prop} {E : zE} {Uo : zUo} {K n K' n' : Nat → Nat} {I I' : Nat → Nat → Int32} {F F' : Nat → Nat → Option Nat} {J J' : Nat → Nat → Int64} {m : Nat} {A : Nat → Nat} {Q : zO → zH → Prop} {x x' : zTx} {L L' : Nat} {st st' : zStm} {rc rc' : zRec} {M M' : Nat} {Ld Ld' : List zHel} {rf jn rf' jn' : List (List Nat)} {u u' : List Nat} {does does' : Nat} {stops stops' : Bool} {code code' pc ps cb sb a0 j d : Nat}
theorem MD.mK (h : MD c K n I F J m A x L st rc M Ld rf jn u does stops code) : ∀ a, mown m A a → K a = 9 ∨ K a = 21 ∨ K a = 22 := by
  obtain ⟨V, T, hS, -, hV⟩ := h
  exact fun a z => hS.mK z
theorem MD.other (h : MD c K n I F J m A x L st rc M Ld rf jn u does stops code) (hA : SP Uo m A) (g : CT Uo K n I F J (K', n', I', F', J')) : MD c K' n' I' F' J' m A x L st rc M Ld rf jn u does stops code := by
  have hK := h.mK
  obtain ⟨V, T, hS, e, hV⟩ := h
  refine ⟨V, T, hS.other g (fun a _ z y => ?_), e, hV⟩
  obtain ⟨z1, z2⟩ := z
  have b := hA a y
  have k := hK a y
  rcases z2 with z2 | z2 | z2
  · have q1 : K a ≠ 9 := z1.1
    have q2 : K a ≠ 21 := z2.1
    have q3 : K a ≠ 22 := z2.2
    omega
  · exact b.1 z2
  · exact b.2 z2
theorem CS.other (h : CS E Uo K n I F J x L st rc M Ld rf jn u does stops code pc ps) (hA : SP Uo m A) (hK : ∀ a, mown m A a → K a = 9 ∨ K a = 21 ∨ K a = 22) (g : MT m A K n I F J I' J') : CS E Uo K n I' F J' x L st rc M Ld rf jn u does stops code pc ps := by
  obtain ⟨k, X, R, N, pu, cu, pp, cp, D, Sg, C, ab⟩ := h
  exact ⟨k, X, R, N, pu, cu, pp, cp, D, Sg, C.other g C.G (fun a _ z => ⟨hK a z, hA a z⟩), ab⟩
/-- after the reference's step -/
theorem lw_fin (hC : CS E Uo K n I F J x L st rc M Ld rf jn u does stops code pc ps) (hA : SP Uo m A) (hK : ∀ a, mown m A a → K a = 9 ∨ K a = 21 ∨ K a = 22) (hM : MD c K n I' F J' m A x L st rc M Ld rf jn u does stops code) (g : MT m A K n I F J I' J') : LW E Uo m A K n I' F J' x L st rc M Ld rf jn u does stops code pc ps := ⟨hC.other hA hK g, hM.any, hA⟩
theorem CS.o8 (h : CS E Uo K n I F J x L st rc M Ld rf jn u does stops code pc ps) : K Uo.1 = 8 := by
  obtain ⟨k, X, R, N, pu, cu, pp, cp, D, Sg, C, ab⟩ := h
  exact C.ro
theorem x34 : nI j + (4 : Int32) = nI (j + 4) := nI_add j 4
theorem x31 : nI j + (1 : Int32) = nI (j + 1) := nI_add j 1
theorem x32 : nI j + (2 : Int32) = nI (j + 2) := nI_add j 2
theorem x33 : nI j + (3 : Int32) = nI (j + 3) := nI_add j 3
theorem CT.refl : CT Uo K n I F J (K, n, I, F, J) := GR.refl _
theorem lw_0 {v : Nat} (hv : v = E.2.1 (1000 + (j + 1))) (h : LW E Uo m A K n I F J x L st rc M Ld rf jn u does stops code pc ps) (nx : NX E Uo m A a0 j d Q) (ha0 : a0 = E.2.1 14) (hj : j + 4 ≤ E.2.1 15) (hj2 : j ≤ 4096) (hb : pc + 140 * L + 146 * (d + 1) ≤ cb) (hs : ps + 1400 * L + 1425 * (d + 1) ≤ sb) : AW E m_Su_sign (K, n, I, F, J) 0 0 (zAft E m_Law_law cb sb Q 110 [some (.ref a0), some (.ref Uo.1), some (.ref m), some (.int (nI j)), none] []) 0 [some (.ref Uo.1), some (.int (Int32.ofNat v))] [] := by
  obtain ⟨hC, hM, hA⟩ := h
  have nxt : ∀ (K' n' : Nat → Nat) (I' : Nat → Nat → Int32) (F' : Nat → Nat → Option Nat) (J' : Nat → Nat → Int64) (x' : zTx) (L' : Nat), L' ≤ L + 1 → LW E Uo m A K' n' I' F' J' x' L' st rc M Ld rf jn u does stops code pc ps → AW E m_Law_law (K', n', I', F', J') cb sb Q 122 [some (.ref a0), some (.ref Uo.1), some (.ref m), some (.int (nI j)), none] [] := fun K' n' I' F' J' x' L' hL hw => r_Law_law_122 (by rw [x34]; exact nx _ _ _ _ _ _ _ _ _ _ _ _ _ _ _ _ _ _ _ _ _ hw (by omega) (by omega))
  refine cs_sign hC hM.L5 (fun e => ?_) (fun e K' n' I' F' J' C' g => ?_)
  · refine r_Law_law_113 ⟨ha0, j + 1, x31, by omega, by omega, hM.K9, ?_⟩
    rw [← hv]
    exact md_sign hM (fun _ I2 J2 M2 t => nxt _ _ _ _ _ _ _ (by omega) (lw_fin hC hA hM.mK M2 t)) (fun z => absurd z (by omega))
  · have hM' := hM.other hA g
    refine r_Law_law_113 ⟨ha0, j + 1, x31, by omega, by omega, hM'.K9, ?_⟩
    rw [← hv]
    exact md_sign hM' (fun z => absurd z (by omega)) (fun _ I2 J2 M2 t => nxt _ _ _ _ _ _ _ (by omega) (lw_fin C' hA hM'.mK M2 t))
theorem lw_1 (h : LW E Uo m A K n I F J x L st rc M Ld rf jn u does stops code pc ps) (nx : NX E Uo m A a0 j d Q) (ha0 : a0 = E.2.1 14) (hj : j + 4 ≤ E.2.1 15) (hj2 : j ≤ 4096) (hb : pc + 140 * L + 146 * (d + 1) ≤ cb) (hs : ps + 1400 * L + 1425 * (d + 1) ≤ sb) : ∃ c1 s1 c2 s2 : Nat, c1 + c2 ≤ cb ∧ s1 + s2 ≤ sb ∧ AW E m_Su_read (K, n, I, F, J) c1 s1 (zAft E m_Law_law c2 s2 Q 126 [some (.ref a0), some (.ref Uo.1), some (.ref m), some (.int (nI j)), none] []) 0 [some (.ref Uo.1), none, none] [] := by
  obtain ⟨hC, hM, hA⟩ := h
  have nxt : ∀ (v : Int32) (K' n' : Nat → Nat) (I' : Nat → Nat → Int32) (F' : Nat → Nat → Option Nat) (J' : Nat → Nat → Int64) (x' : zTx) (L' : Nat) (st' : zStm) (rc' : zRec) (M' : Nat) (Ld' : List zHel) (rf' jn' : List (List Nat)) (u' : List Nat) (does' : Nat) (stops' : Bool) (code' pc' ps' cb' sb' : Nat), LW E Uo m A K' n' I' F' J' x' L' st' rc' M' Ld' rf' jn' u' does' stops' code' pc' ps' → pc' + 140 * L' + 146 * d ≤ cb' → ps' + 1400 * L' + 1425 * d ≤ sb' → zAft E m_Law_law cb' sb' Q 130 [some (.ref a0), some (.ref Uo.1), some (.ref m), some (.int (nI j)), none] [.int v] (.inl (some (.int v))) (K', n', I', F', J') := fun v K' n' I' F' J' x' L' st' rc' M' Ld' rf' jn' u' does' stops' code' pc' ps' cb' sb' hw hb' hs' => by
    show AW E m_Law_law (K', n', I', F', J') cb' sb' Q 133 [some (.ref a0), some (.ref Uo.1), some (.ref m), some (.int (nI j)), none] [.int v, .int v]
    exact r_Law_law_133 ⟨fun _ => (by rw [x34]; exact nx _ _ _ _ _ _ _ _ _ _ _ _ _ _ _ _ _ _ _ _ _ hw hb' hs'), fun z => absurd rfl z⟩
  refine ⟨6 + 140 * L, 25 + 1400 * L, pc + 146 * d, ps + 1425 * d, by omega, by omega, ?_⟩
  refine cs_read hC hM.L5 (Nat.le_refl _) (Nat.le_refl _) (fun s q e K' n' I' F' J' C' g => ?_) (fun q e K' n' I' F' J' C' g => ?_)
  · have hM' := hM.other hA g
    refine r_Law_law_129 ⟨hM'.K9, ?_⟩
    refine md_read hM' (fun s2 q2 e2 I2 J2 M2 t => ?_) (fun q2 e2 => ?_)
    · rw [e] at e2
      have : s = s2 := by injection e2 with e3; injection e3
      subst this
      exact nxt _ _ _ _ _ _ _ _ _ _ _ _ _ _ _ _ _ _ _ _ _ _ (lw_fin C' hA hM'.mK M2 t) (by omega) (by omega)
    · rw [e] at e2; injection e2 with e3; cases e3
  · have hM' := hM.other hA g
    refine r_Law_law_129 ⟨hM'.K9, ?_⟩
    refine md_read hM' (fun s2 q2 e2 => ?_) (fun q2 e2 I2 J2 M2 t => ?_)
    · rw [e] at e2; injection e2 with e3; cases e3
    · rw [e] at e2
      have : q = q2 := by injection e2
      subst this
      exact nxt _ _ _ _ _ _ _ _ _ _ _ _ _ _ _ _ _ _ _ _ _ _ (lw_fin C' hA hM'.mK M2 t) (by omega) (by omega)
theorem lw_2 {v : Nat} (hv : v = E.2.1 (1000 + (j + 1))) (h : LW E Uo m A K n I F J x L st rc M Ld rf jn u does stops code pc ps) (nx : NX E Uo m A a0 j d Q) (ha0 : a0 = E.2.1 14) (hj : j + 4 ≤ E.2.1 15) (hj2 : j ≤ 4096) (hb : pc + 140 * L + 146 * (d + 1) ≤ cb) (hs : ps + 1400 * L + 1425 * (d + 1) ≤ sb) : ∃ c1 s1 c2 s2 : Nat, c1 + c2 ≤ cb ∧ s1 + s2 ≤ sb ∧ AW E m_Su_record (K, n, I, F, J) c1 s1 (zAft E m_Law_law c2 s2 Q 144 [some (.ref a0), some (.ref Uo.1), some (.ref m), some (.int (nI j)), none] []) 0 [some (.ref Uo.1), some (.int (Int32.ofNat v)), none, none] [] := by
  obtain ⟨hC, hM, hA⟩ := h
  have nxt : ∀ (v : Int32) (K' n' : Nat → Nat) (I' : Nat → Nat → Int32) (F' : Nat → Nat → Option Nat) (J' : Nat → Nat → Int64) (x' : zTx) (L' : Nat) (st' : zStm) (rc' : zRec) (M' : Nat) (Ld' : List zHel) (rf' jn' : List (List Nat)) (u' : List Nat) (does' : Nat) (stops' : Bool) (code' pc' ps' cb' sb' : Nat), LW E Uo m A K' n' I' F' J' x' L' st' rc' M' Ld' rf' jn' u' does' stops' code' pc' ps' → pc' + 140 * L' + 146 * d ≤ cb' → ps' + 1400 * L' + 1425 * d ≤ sb' → zAft E m_Law_law cb' sb' Q 153 [some (.ref a0), some (.ref Uo.1), some (.ref m), some (.int (nI j)), none] [.int v] (.inl (some (.int v))) (K', n', I', F', J') := fun v K' n' I' F' J' x' L' st' rc' M' Ld' rf' jn' u' does' stops' code' pc' ps' cb' sb' hw hb' hs' => by
    show AW E m_Law_law (K', n', I', F', J') cb' sb' Q 156 [some (.ref a0), some (.ref Uo.1), some (.ref m), some (.int (nI j)), none] [.int v, .int v]
    exact r_Law_law_156 ⟨fun _ => (by rw [x34]; exact nx _ _ _ _ _ _ _ _ _ _ _ _ _ _ _ _ _ _ _ _ _ hw hb' hs'), fun z => absurd rfl z⟩
  obtain ⟨c1, s1, b1, b2, b3, w⟩ := cs_record (v := Int32.ofNat v) hC
  refine ⟨c1, s1, cb - c1, sb - s1, by omega, by omega, w _ (fun e => ?_) (fun e1 e2 K' n' I' F' J' C' g => ?_)⟩
  · refine r_Law_law_147 ⟨ha0, j + 1, x31, by omega, by omega, hM.K9, ?_⟩
    rw [← hv]
    exact md_record hM (fun _ I2 J2 M2 t => nxt _ _ _ _ _ _ _ _ _ _ _ _ _ _ _ _ _ _ _ _ _ _ (lw_fin hC hA hM.mK M2 t) (by have := b3 e; omega) (by have := b3 e; omega)) (fun z y => absurd ⟨z, y⟩ e)
  · have hM' := hM.other hA g
    refine r_Law_law_147 ⟨ha0, j + 1, x31, by omega, by omega, hM'.K9, ?_⟩
    rw [← hv]
    exact md_record hM' (fun z => absurd ⟨e1, e2⟩ z) (fun _ _ I2 J2 M2 t => nxt _ _ _ _ _ _ _ _ _ _ _ _ _ _ _ _ _ _ _ _ _ _ (lw_fin C' hA hM'.mK M2 t) (by omega) (by omega))
theorem lw_4 (h : LW E Uo m A K n I F J x L st rc M Ld rf jn u does stops code pc ps) (nx : NX E Uo m A a0 j d Q) (ha0 : a0 = E.2.1 14) (hj : j + 4 ≤ E.2.1 15) (hj2 : j ≤ 4096) (hb : pc + 140 * L + 146 * (d + 1) ≤ cb) (hs : ps + 1400 * L + 1425 * (d + 1) ≤ sb) : ∃ c1 s1 c2 s2 : Nat, c1 + c2 ≤ cb ∧ s1 + s2 ≤ sb ∧ AW E m_Su_run (K, n, I, F, J) c1 s1 (zAft E m_Law_law c2 s2 Q 218 [some (.ref a0), some (.ref Uo.1), some (.ref m), some (.int (nI j)), none] []) 0 [some (.ref Uo.1)] [] := by
  obtain ⟨hC, hM, hA⟩ := h
  have nxt : ∀ (v : Int32) (K' n' : Nat → Nat) (I' : Nat → Nat → Int32) (F' : Nat → Nat → Option Nat) (J' : Nat → Nat → Int64) (x' : zTx) (L' : Nat) (st' : zStm) (rc' : zRec) (M' : Nat) (Ld' : List zHel) (rf' jn' : List (List Nat)) (u' : List Nat) (does' : Nat) (stops' : Bool) (code' pc' ps' cb' sb' : Nat), LW E Uo m A K' n' I' F' J' x' L' st' rc' M' Ld' rf' jn' u' does' stops' code' pc' ps' → pc' + 140 * L' + 146 * d ≤ cb' → ps' + 1400 * L' + 1425 * d ≤ sb' → zAft E m_Law_law cb' sb' Q 222 [some (.ref a0), some (.ref Uo.1), some (.ref m), some (.int (nI j)), none] [.int v] (.inl (some (.int v))) (K', n', I', F', J') := fun v K' n' I' F' J' x' L' st' rc' M' Ld' rf' jn' u' does' stops' code' pc' ps' cb' sb' hw hb' hs' => by
    show AW E m_Law_law (K', n', I', F', J') cb' sb' Q 225 [some (.ref a0), some (.ref Uo.1), some (.ref m), some (.int (nI j)), none] [.int v, .int v]
    exact r_Law_law_225 ⟨fun _ => (by rw [x34]; exact nx _ _ _ _ _ _ _ _ _ _ _ _ _ _ _ _ _ _ _ _ _ hw hb' hs'), fun z => absurd rfl z⟩
  obtain ⟨c1, s1, b1, b2, w⟩ := cs_run hC hM.ok.1 hM.ok.2.1 hM.ok.2.2.1
  refine ⟨c1, s1, cb - c1, sb - s1, by omega, by omega, w _ (fun K' n' I' F' J' C' g => ?_)⟩
  have hM' := hM.other hA g
  refine r_Law_law_221 ⟨hM'.K9, ?_⟩
  exact md_run hM' (fun I2 J2 M2 t => nxt _ _ _ _ _ _ _ _ _ _ _ _ _ _ _ _ _ _ _ _ _ _ (lw_fin C' hA hM'.mK M2 t) (by omega) (by omega))
theorem lw_7 (h : LW E Uo m A K n I F J x L st rc M Ld rf jn u does stops code pc ps) (nx : NX E Uo m A a0 j d Q) (ha0 : a0 = E.2.1 14) (hj : j + 4 ≤ E.2.1 15) (hj2 : j ≤ 4096) (hb : pc + 140 * L + 146 * (d + 1) ≤ cb) (hs : ps + 1400 * L + 1425 * (d + 1) ≤ sb) : ∃ c1 s1 c2 s2 : Nat, c1 + c2 ≤ cb ∧ s1 + s2 ≤ sb ∧ AW E m_Su_join (K, n, I, F, J) c1 s1 (zAft E m_Law_law c2 s2 Q 317 [some (.ref a0), some (.ref Uo.1), some (.ref m), some (.int (nI j)), none] []) 0 [some (.ref Uo.1), some (.int (Int32.ofNat (E.2.1 (1000 + (j + 1))))), some (.int (Int32.ofNat (E.2.1 (1000 + (j + 2))))), none, none, none] [] := by
  obtain ⟨hC, hM, hA⟩ := h
  have nxt : ∀ (v : Int32) (K' n' : Nat → Nat) (I' : Nat → Nat → Int32) (F' : Nat → Nat → Option Nat) (J' : Nat → Nat → Int64) (x' : zTx) (L' : Nat) (st' : zStm) (rc' : zRec) (M' : Nat) (Ld' : List zHel) (rf' jn' : List (List Nat)) (u' : List Nat) (does' : Nat) (stops' : Bool) (code' pc' ps' cb' sb' : Nat), LW E Uo m A K' n' I' F' J' x' L' st' rc' M' Ld' rf' jn' u' does' stops' code' pc' ps' → pc' + 140 * L' + 146 * d ≤ cb' → ps' + 1400 * L' + 1425 * d ≤ sb' → zAft E m_Law_law cb' sb' Q 331 [some (.ref a0), some (.ref Uo.1), some (.ref m), some (.int (nI j)), none] [.int v] (.inl (some (.int v))) (K', n', I', F', J') := fun v K' n' I' F' J' x' L' st' rc' M' Ld' rf' jn' u' does' stops' code' pc' ps' cb' sb' hw hb' hs' => by
    show AW E m_Law_law (K', n', I', F', J') cb' sb' Q 334 [some (.ref a0), some (.ref Uo.1), some (.ref m), some (.int (nI j)), none] [.int v, .int v]
    exact r_Law_law_334 ⟨fun _ => (by rw [x34]; exact nx _ _ _ _ _ _ _ _ _ _ _ _ _ _ _ _ _ _ _ _ _ hw hb' hs'), fun z => absurd rfl z⟩
  obtain ⟨c1, s1, b1, b2, b3, w⟩ := cs_join (v := (Int32.ofNat (E.2.1 (1000 + (j + 1))))) (y := (Int32.ofNat (E.2.1 (1000 + (j + 2))))) hC hM.ok.2.2.1
  refine ⟨c1, s1, cb - c1, sb - s1, by omega, by omega, w _ (fun e => ?_) (fun e K' n' I' F' J' C' g => ?_)⟩
  · refine r_Law_law_320 ⟨ha0, j + 1, x31, by omega, by omega, ha0, j + 2, x32, by omega, by omega, hM.K9, ?_⟩
    exact md_join hM (fun _ I2 J2 M2 t => nxt _ _ _ _ _ _ _ _ _ _ _ _ _ _ _ _ _ _ _ _ _ _ (lw_fin hC hA hM.mK M2 t) (by have := b3 e; omega) (by have := b3 e; omega)) (fun z => absurd z e)
  · have hM' := hM.other hA g
    refine r_Law_law_320 ⟨ha0, j + 1, x31, by omega, by omega, ha0, j + 2, x32, by omega, by omega, hM'.K9, ?_⟩
    exact md_join hM' (fun z => absurd e z) (fun _ I2 J2 M2 t => nxt _ _ _ _ _ _ _ _ _ _ _ _ _ _ _ _ _ _ _ _ _ _ (lw_fin C' hA hM'.mK M2 t) (by omega) (by omega))
theorem lw_10 {b : Bool} (hbb : ∀ (X Y : Prop), ((Int32.ofNat (E.2.1 (1000 + (j + 2)))) = 0 → b = false → X) → (¬ (Int32.ofNat (E.2.1 (1000 + (j + 2)))) = 0 → b = true → Y) → ((Int32.ofNat (E.2.1 (1000 + (j + 2)))) = 0 → X) ∧ (¬ (Int32.ofNat (E.2.1 (1000 + (j + 2)))) = 0 → Y)) (h : LW E Uo m A K n I F J x L st rc M Ld rf jn u does stops code pc ps) (nx : NX E Uo m A a0 j d Q) (ha0 : a0 = E.2.1 14) (hj : j + 4 ≤ E.2.1 15) (hj2 : j ≤ 4096) (hb : pc + 140 * L + 146 * (d + 1) ≤ cb) (hs : ps + 1400 * L + 1425 * (d + 1) ≤ sb) : AW E m_Su_exit (K, n, I, F, J) 0 0 (zAft E m_Law_law cb sb Q 394 [some (.ref a0), some (.ref Uo.1), some (.ref m), some (.int (nI j)), none] []) 0 [some (.ref Uo.1), some (.int (Int32.ofNat (E.2.1 (1000 + (j + 1))))), some (.int (zB b)), none] [] := by
  obtain ⟨hC, hM, hA⟩ := h
  have nxt : ∀ (v : Int32) (K' n' : Nat → Nat) (I' : Nat → Nat → Int32) (F' : Nat → Nat → Option Nat) (J' : Nat → Nat → Int64) (x' : zTx) (L' : Nat) (st' : zStm) (rc' : zRec) (M' : Nat) (Ld' : List zHel) (rf' jn' : List (List Nat)) (u' : List Nat) (does' : Nat) (stops' : Bool) (code' pc' ps' cb' sb' : Nat), LW E Uo m A K' n' I' F' J' x' L' st' rc' M' Ld' rf' jn' u' does' stops' code' pc' ps' → pc' + 140 * L' + 146 * d ≤ cb' → ps' + 1400 * L' + 1425 * d ≤ sb' → zAft E m_Law_law cb' sb' Q 416 [some (.ref a0), some (.ref Uo.1), some (.ref m), some (.int (nI j)), none] [.int v] (.inl (some (.int v))) (K', n', I', F', J') := fun v K' n' I' F' J' x' L' st' rc' M' Ld' rf' jn' u' does' stops' code' pc' ps' cb' sb' hw hb' hs' => by
    show AW E m_Law_law (K', n', I', F', J') cb' sb' Q 419 [some (.ref a0), some (.ref Uo.1), some (.ref m), some (.int (nI j)), none] [.int v, .int v]
    exact r_Law_law_419 ⟨fun _ => (by rw [x34]; exact nx _ _ _ _ _ _ _ _ _ _ _ _ _ _ _ _ _ _ _ _ _ hw hb' hs'), fun z => absurd rfl z⟩
  refine cs_exit hC (fun e => ?_) (fun e K' n' I' F' J' C' g => ?_)
  · have kk : AW E m_Mo_exit (K, n, I, F, J) 0 0 (zAft E m_Law_law cb sb Q 416 [some (.ref a0), some (.ref Uo.1), some (.ref m), some (.int (nI j)), none] [.int (-1)]) 0 [some (.ref m), some (.int (Int32.ofNat (E.2.1 (1000 + (j + 1))))), some (.int (zB b)), none] [] := md_exit hM (fun _ I2 J2 M2 t => nxt _ _ _ _ _ _ _ _ _ _ _ _ _ _ _ _ _ _ _ _ _ _ (lw_fin hC hA hM.mK M2 t) (by omega) (by omega)) (fun z => absurd z e)
    exact r_Law_law_397 ⟨ha0, j + 1, x31, by omega, by omega, ha0, j + 2, x32, by omega, by omega, hbb _ _ (fun _ z => ⟨hM.K9, by rw [z] at kk; exact kk⟩) (fun _ z => ⟨hM.K9, by rw [z] at kk; exact kk⟩)⟩
  · have hM' := hM.other hA g
    have kk : AW E m_Mo_exit (K', n', I', F', J') 0 0 (zAft E m_Law_law cb sb Q 416 [some (.ref a0), some (.ref Uo.1), some (.ref m), some (.int (nI j)), none] [.int (nI does)]) 0 [some (.ref m), some (.int (Int32.ofNat (E.2.1 (1000 + (j + 1))))), some (.int (zB b)), none] [] := md_exit hM' (fun z => absurd e z) (fun _ I2 J2 M2 t => nxt _ _ _ _ _ _ _ _ _ _ _ _ _ _ _ _ _ _ _ _ _ _ (lw_fin C' hA hM'.mK M2 t) (by omega) (by omega))
    exact r_Law_law_397 ⟨ha0, j + 1, x31, by omega, by omega, ha0, j + 2, x32, by omega, by omega, hbb _ _ (fun _ z => ⟨hM'.K9, by rw [z] at kk; exact kk⟩) (fun _ z => ⟨hM'.K9, by rw [z] at kk; exact kk⟩)⟩
theorem lw_5 (h : LW E Uo m A K n I F J x L st rc M Ld rf jn u does stops code pc ps) (nx : NX E Uo m A a0 j d Q) (ha0 : a0 = E.2.1 14) (hj : j + 4 ≤ E.2.1 15) (hj2 : j ≤ 4096) (hb : pc + 140 * L + 146 * (d + 1) ≤ cb) (hs : ps + 1400 * L + 1425 * (d + 1) ≤ sb) : AW E m_Su_out (K, n, I, F, J) 0 0 (zAft E m_Law_law cb sb Q 246 [some (.ref a0), some (.ref Uo.1), some (.ref m), some (.int (nI j)), none] []) 0 [some (.ref Uo.1), some (.int (Int32.ofNat (E.2.1 (1000 + (j + 1))))), some (.int (Int32.ofNat (E.2.1 (1000 + (j + 2))))), some (.int (Int32.ofNat (E.2.1 (1000 + (j + 3))))), none] [] := by
  obtain ⟨hC, hM, hA⟩ := h
  have nxt : ∀ (v : Int32) (K' n' : Nat → Nat) (I' : Nat → Nat → Int32) (F' : Nat → Nat → Option Nat) (J' : Nat → Nat → Int64) (x' : zTx) (L' : Nat) (st' : zStm) (rc' : zRec) (M' : Nat) (Ld' : List zHel) (rf' jn' : List (List Nat)) (u' : List Nat) (does' : Nat) (stops' : Bool) (code' pc' ps' cb' sb' : Nat), LW E Uo m A K' n' I' F' J' x' L' st' rc' M' Ld' rf' jn' u' does' stops' code' pc' ps' → pc' + 140 * L' + 146 * d ≤ cb' → ps' + 1400 * L' + 1425 * d ≤ sb' → zAft E m_Law_law cb' sb' Q 265 [some (.ref a0), some (.ref Uo.1), some (.ref m), some (.int (nI j)), none] [.int v] (.inl (some (.int v))) (K', n', I', F', J') := fun v K' n' I' F' J' x' L' st' rc' M' Ld' rf' jn' u' does' stops' code' pc' ps' cb' sb' hw hb' hs' => by
    show AW E m_Law_law (K', n', I', F', J') cb' sb' Q 268 [some (.ref a0), some (.ref Uo.1), some (.ref m), some (.int (nI j)), none] [.int v, .int v]
    exact r_Law_law_268 ⟨fun _ => (by rw [x34]; exact nx _ _ _ _ _ _ _ _ _ _ _ _ _ _ _ _ _ _ _ _ _ hw hb' hs'), fun z => absurd rfl z⟩
  have hu := hM.ok.2.2.2
  obtain ⟨k, X, R, N, pu, cu, pp, cp, D, Sg, C, hB, hT, ⟨hu1, hu2⟩, hD, hMk⟩ := hC.B
  refine cc_out (B := Bo3 Ld rf jn) C hB ?_
  exact r_Law_law_249 ⟨ha0, j + 1, x31, by omega, by omega, ha0, j + 2, x32, by omega, by omega, ha0, j + 3, x33, by omega, by omega, hM.K9, md_out hM (fun I2 J2 M2 t => nxt _ _ _ _ _ _ _ _ _ _ _ _ _ _ _ _ _ _ _ _ _ _ (lw_fin hC hA hM.mK M2 t) (by omega) (by omega))⟩
theorem lw_6 (h : LW E Uo m A K n I F J x L st rc M Ld rf jn u does stops code pc ps) (nx : NX E Uo m A a0 j d Q) (ha0 : a0 = E.2.1 14) (hj : j + 4 ≤ E.2.1 15) (hj2 : j ≤ 4096) (hb : pc + 140 * L + 146 * (d + 1) ≤ cb) (hs : ps + 1400 * L + 1425 * (d + 1) ≤ sb) : AW E m_Su_sum (K, n, I, F, J) 0 0 (zAft E m_Law_law cb sb Q 284 [some (.ref a0), some (.ref Uo.1), some (.ref m), some (.int (nI j)), none] []) 0 [some (.ref Uo.1), some (.int (Int32.ofNat (E.2.1 (1000 + (j + 1))))), some (.int (Int32.ofNat (E.2.1 (1000 + (j + 2))))), none] [] := by
  obtain ⟨hC, hM, hA⟩ := h
  have nxt : ∀ (v : Int32) (K' n' : Nat → Nat) (I' : Nat → Nat → Int32) (F' : Nat → Nat → Option Nat) (J' : Nat → Nat → Int64) (x' : zTx) (L' : Nat) (st' : zStm) (rc' : zRec) (M' : Nat) (Ld' : List zHel) (rf' jn' : List (List Nat)) (u' : List Nat) (does' : Nat) (stops' : Bool) (code' pc' ps' cb' sb' : Nat), LW E Uo m A K' n' I' F' J' x' L' st' rc' M' Ld' rf' jn' u' does' stops' code' pc' ps' → pc' + 140 * L' + 146 * d ≤ cb' → ps' + 1400 * L' + 1425 * d ≤ sb' → zAft E m_Law_law cb' sb' Q 298 [some (.ref a0), some (.ref Uo.1), some (.ref m), some (.int (nI j)), none] [.int v] (.inl (some (.int v))) (K', n', I', F', J') := fun v K' n' I' F' J' x' L' st' rc' M' Ld' rf' jn' u' does' stops' code' pc' ps' cb' sb' hw hb' hs' => by
    show AW E m_Law_law (K', n', I', F', J') cb' sb' Q 301 [some (.ref a0), some (.ref Uo.1), some (.ref m), some (.int (nI j)), none] [.int v, .int v]
    exact r_Law_law_301 ⟨fun _ => (by rw [x34]; exact nx _ _ _ _ _ _ _ _ _ _ _ _ _ _ _ _ _ _ _ _ _ hw hb' hs'), fun z => absurd rfl z⟩
  have hu := hM.ok.2.2.2
  obtain ⟨k, X, R, N, pu, cu, pp, cp, D, Sg, C, hB, hT, ⟨hu1, hu2⟩, hD, hMk⟩ := hC.B
  refine cc_sum (B := Ld.map Prod.fst) (T := Ld.map Prod.snd) C (hB 0 (by decide)) hT ?_
  exact r_Law_law_287 ⟨ha0, j + 1, x31, by omega, by omega, ha0, j + 2, x32, by omega, by omega, hM.K9, md_sum hM (fun I2 J2 M2 t => nxt _ _ _ _ _ _ _ _ _ _ _ _ _ _ _ _ _ _ _ _ _ _ (lw_fin hC hA hM.mK M2 t) (by omega) (by omega))⟩
theorem lw_8 (h : LW E Uo m A K n I F J x L st rc M Ld rf jn u does stops code pc ps) (nx : NX E Uo m A a0 j d Q) (ha0 : a0 = E.2.1 14) (hj : j + 4 ≤ E.2.1 15) (hj2 : j ≤ 4096) (hb : pc + 140 * L + 146 * (d + 1) ≤ cb) (hs : ps + 1400 * L + 1425 * (d + 1) ≤ sb) : AW E m_Su_left (K, n, I, F, J) 0 0 (zAft E m_Law_law cb sb Q 345 [some (.ref a0), some (.ref Uo.1), some (.ref m), some (.int (nI j)), none] []) 0 [some (.ref Uo.1), some (.int (Int32.ofNat (E.2.1 (1000 + (j + 1)))))] [] := by
  obtain ⟨hC, hM, hA⟩ := h
  have nxt : ∀ (v : Int32) (K' n' : Nat → Nat) (I' : Nat → Nat → Int32) (F' : Nat → Nat → Option Nat) (J' : Nat → Nat → Int64) (x' : zTx) (L' : Nat) (st' : zStm) (rc' : zRec) (M' : Nat) (Ld' : List zHel) (rf' jn' : List (List Nat)) (u' : List Nat) (does' : Nat) (stops' : Bool) (code' pc' ps' cb' sb' : Nat), LW E Uo m A K' n' I' F' J' x' L' st' rc' M' Ld' rf' jn' u' does' stops' code' pc' ps' → pc' + 140 * L' + 146 * d ≤ cb' → ps' + 1400 * L' + 1425 * d ≤ sb' → zAft E m_Law_law cb' sb' Q 354 [some (.ref a0), some (.ref Uo.1), some (.ref m), some (.int (nI j)), none] [.int v] (.inl (some (.int v))) (K', n', I', F', J') := fun v K' n' I' F' J' x' L' st' rc' M' Ld' rf' jn' u' does' stops' code' pc' ps' cb' sb' hw hb' hs' => by
    show AW E m_Law_law (K', n', I', F', J') cb' sb' Q 357 [some (.ref a0), some (.ref Uo.1), some (.ref m), some (.int (nI j)), none] [.int v, .int v]
    exact r_Law_law_357 ⟨fun _ => (by rw [x34]; exact nx _ _ _ _ _ _ _ _ _ _ _ _ _ _ _ _ _ _ _ _ _ hw hb' hs'), fun z => absurd rfl z⟩
  have hu := hM.ok.2.2.2
  obtain ⟨k, X, R, N, pu, cu, pp, cp, D, Sg, C, hB, hT, ⟨hu1, hu2⟩, hD, hMk⟩ := hC.B
  refine cc_left C hu1 hu hu2 ?_
  exact r_Law_law_348 ⟨ha0, j + 1, x31, by omega, by omega, hM.K9, md_left hM (fun I2 J2 M2 t => nxt _ _ _ _ _ _ _ _ _ _ _ _ _ _ _ _ _ _ _ _ _ _ (lw_fin hC hA hM.mK M2 t) (by omega) (by omega))⟩
theorem lw_9 (h : LW E Uo m A K n I F J x L st rc M Ld rf jn u does stops code pc ps) (nx : NX E Uo m A a0 j d Q) (ha0 : a0 = E.2.1 14) (hj : j + 4 ≤ E.2.1 15) (hj2 : j ≤ 4096) (hb : pc + 140 * L + 146 * (d + 1) ≤ cb) (hs : ps + 1400 * L + 1425 * (d + 1) ≤ sb) : AW E m_Su_code (K, n, I, F, J) 0 0 (zAft E m_Law_law cb sb Q 363 [some (.ref a0), some (.ref Uo.1), some (.ref m), some (.int (nI j)), none] []) 0 [some (.ref Uo.1)] [] := by
  obtain ⟨hC, hM, hA⟩ := h
  have nxt : ∀ (v : Int32) (K' n' : Nat → Nat) (I' : Nat → Nat → Int32) (F' : Nat → Nat → Option Nat) (J' : Nat → Nat → Int64) (x' : zTx) (L' : Nat) (st' : zStm) (rc' : zRec) (M' : Nat) (Ld' : List zHel) (rf' jn' : List (List Nat)) (u' : List Nat) (does' : Nat) (stops' : Bool) (code' pc' ps' cb' sb' : Nat), LW E Uo m A K' n' I' F' J' x' L' st' rc' M' Ld' rf' jn' u' does' stops' code' pc' ps' → pc' + 140 * L' + 146 * d ≤ cb' → ps' + 1400 * L' + 1425 * d ≤ sb' → zAft E m_Law_law cb' sb' Q 367 [some (.ref a0), some (.ref Uo.1), some (.ref m), some (.int (nI j)), none] [.int v] (.inl (some (.int v))) (K', n', I', F', J') := fun v K' n' I' F' J' x' L' st' rc' M' Ld' rf' jn' u' does' stops' code' pc' ps' cb' sb' hw hb' hs' => by
    show AW E m_Law_law (K', n', I', F', J') cb' sb' Q 370 [some (.ref a0), some (.ref Uo.1), some (.ref m), some (.int (nI j)), none] [.int v, .int v]
    exact r_Law_law_370 ⟨fun _ => (by rw [x34]; exact nx _ _ _ _ _ _ _ _ _ _ _ _ _ _ _ _ _ _ _ _ _ hw hb' hs'), fun z => absurd rfl z⟩
  have hu := hM.ok.2.2.2
  obtain ⟨k, X, R, N, pu, cu, pp, cp, D, Sg, C, hB, hT, ⟨hu1, hu2⟩, hD, hMk⟩ := hC.B
  refine cc_code C ?_
  rw [hD]
  exact r_Law_law_366 ⟨hM.K9, md_code hM (fun I2 J2 M2 t => nxt _ _ _ _ _ _ _ _ _ _ _ _ _ _ _ _ _ _ _ _ _ _ (lw_fin hC hA hM.mK M2 t) (by omega) (by omega))⟩
theorem lw_11 (h : LW E Uo m A K n I F J x L st rc M Ld rf jn u does stops code pc ps) (nx : NX E Uo m A a0 j d Q) (ha0 : a0 = E.2.1 14) (hj : j + 4 ≤ E.2.1 15) (hj2 : j ≤ 4096) (hb : pc + 140 * L + 146 * (d + 1) ≤ cb) (hs : ps + 1400 * L + 1425 * (d + 1) ≤ sb) : AW E m_Su_total (K, n, I, F, J) 0 0 (zAft E m_Law_law cb sb Q 435 [some (.ref a0), some (.ref Uo.1), some (.ref m), some (.int (nI j)), none] []) 0 [some (.ref Uo.1), some (.int (Int32.ofNat (E.2.1 (1000 + (j + 1))))), some (.int (Int32.ofNat (E.2.1 (1000 + (j + 2))))), none, none, none] [] := by
  obtain ⟨hC, hM, hA⟩ := h
  have nxt : ∀ (v : Int32) (K' n' : Nat → Nat) (I' : Nat → Nat → Int32) (F' : Nat → Nat → Option Nat) (J' : Nat → Nat → Int64) (x' : zTx) (L' : Nat) (st' : zStm) (rc' : zRec) (M' : Nat) (Ld' : List zHel) (rf' jn' : List (List Nat)) (u' : List Nat) (does' : Nat) (stops' : Bool) (code' pc' ps' cb' sb' : Nat), LW E Uo m A K' n' I' F' J' x' L' st' rc' M' Ld' rf' jn' u' does' stops' code' pc' ps' → pc' + 140 * L' + 146 * d ≤ cb' → ps' + 1400 * L' + 1425 * d ≤ sb' → zAft E m_Law_law cb' sb' Q 449 [some (.ref a0), some (.ref Uo.1), some (.ref m), some (.int (nI j)), none] [.int v] (.inl (some (.int v))) (K', n', I', F', J') := fun v K' n' I' F' J' x' L' st' rc' M' Ld' rf' jn' u' does' stops' code' pc' ps' cb' sb' hw hb' hs' => by
    show AW E m_Law_law (K', n', I', F', J') cb' sb' Q 452 [some (.ref a0), some (.ref Uo.1), some (.ref m), some (.int (nI j)), none] [.int v, .int v]
    exact r_Law_law_452 ⟨fun _ => (by rw [x34]; exact nx _ _ _ _ _ _ _ _ _ _ _ _ _ _ _ _ _ _ _ _ _ hw hb' hs'), fun z => absurd rfl z⟩
  have hu := hM.ok.2.2.2
  obtain ⟨k, X, R, N, pu, cu, pp, cp, D, Sg, C, hB, hT, ⟨hu1, hu2⟩, hD, hMk⟩ := hC.B
  refine cc_total (B := Bo3 Ld rf jn) C hB ?_
  exact r_Law_law_438 ⟨ha0, j + 1, x31, by omega, by omega, ha0, j + 2, x32, by omega, by omega, hM.K9, md_total hM (fun I2 J2 M2 t => nxt _ _ _ _ _ _ _ _ _ _ _ _ _ _ _ _ _ _ _ _ _ _ (lw_fin hC hA hM.mK M2 t) (by omega) (by omega))⟩
theorem lw_12 (h : LW E Uo m A K n I F J x L st rc M Ld rf jn u does stops code pc ps) (nx : NX E Uo m A a0 j d Q) (ha0 : a0 = E.2.1 14) (hj : j + 4 ≤ E.2.1 15) (hj2 : j ≤ 4096) (hb : pc + 140 * L + 146 * (d + 1) ≤ cb) (hs : ps + 1400 * L + 1425 * (d + 1) ≤ sb) : AW E m_Su_plain (K, n, I, F, J) 0 0 (zAft E m_Law_law cb sb Q 463 [some (.ref a0), some (.ref Uo.1), some (.ref m), some (.int (nI j)), none] []) 0 [some (.ref Uo.1), some (.int (Int32.ofNat (E.2.1 (1000 + (j + 1))))), none, none, none, none] [] := by
  obtain ⟨hC, hM, hA⟩ := h
  have nxt : ∀ (v : Int32) (K' n' : Nat → Nat) (I' : Nat → Nat → Int32) (F' : Nat → Nat → Option Nat) (J' : Nat → Nat → Int64) (x' : zTx) (L' : Nat) (st' : zStm) (rc' : zRec) (M' : Nat) (Ld' : List zHel) (rf' jn' : List (List Nat)) (u' : List Nat) (does' : Nat) (stops' : Bool) (code' pc' ps' cb' sb' : Nat), LW E Uo m A K' n' I' F' J' x' L' st' rc' M' Ld' rf' jn' u' does' stops' code' pc' ps' → pc' + 140 * L' + 146 * d ≤ cb' → ps' + 1400 * L' + 1425 * d ≤ sb' → zAft E m_Law_law cb' sb' Q 472 [some (.ref a0), some (.ref Uo.1), some (.ref m), some (.int (nI j)), none] [.int v] (.inl (some (.int v))) (K', n', I', F', J') := fun v K' n' I' F' J' x' L' st' rc' M' Ld' rf' jn' u' does' stops' code' pc' ps' cb' sb' hw hb' hs' => by
    show AW E m_Law_law (K', n', I', F', J') cb' sb' Q 475 [some (.ref a0), some (.ref Uo.1), some (.ref m), some (.int (nI j)), none] [.int v, .int v]
    exact r_Law_law_475 ⟨fun _ => (by rw [x34]; exact nx _ _ _ _ _ _ _ _ _ _ _ _ _ _ _ _ _ _ _ _ _ hw hb' hs'), fun z => absurd rfl z⟩
  have hu := hM.ok.2.2.2
  obtain ⟨k, X, R, N, pu, cu, pp, cp, D, Sg, C, hB, hT, ⟨hu1, hu2⟩, hD, hMk⟩ := hC.B
  refine cc_plain (B := Bo3 Ld rf jn) C hB ?_
  exact r_Law_law_466 ⟨ha0, j + 1, x31, by omega, by omega, hM.K9, md_plain hM (fun I2 J2 M2 t => nxt _ _ _ _ _ _ _ _ _ _ _ _ _ _ _ _ _ _ _ _ _ _ (lw_fin hC hA hM.mK M2 t) (by omega) (by omega))⟩
theorem lw_13 (h : LW E Uo m A K n I F J x L st rc M Ld rf jn u does stops code pc ps) (nx : NX E Uo m A a0 j d Q) (ha0 : a0 = E.2.1 14) (hj : j + 4 ≤ E.2.1 15) (hj2 : j ≤ 4096) (hb : pc + 140 * L + 146 * (d + 1) ≤ cb) (hs : ps + 1400 * L + 1425 * (d + 1) ≤ sb) : AW E m_Su_count (K, n, I, F, J) 0 0 (zAft E m_Law_law cb sb Q 486 [some (.ref a0), some (.ref Uo.1), some (.ref m), some (.int (nI j)), none] []) 0 [some (.ref Uo.1), some (.int (Int32.ofNat (E.2.1 (1000 + (j + 1)))))] [] := by
  obtain ⟨hC, hM, hA⟩ := h
  have nxt : ∀ (v : Int32) (K' n' : Nat → Nat) (I' : Nat → Nat → Int32) (F' : Nat → Nat → Option Nat) (J' : Nat → Nat → Int64) (x' : zTx) (L' : Nat) (st' : zStm) (rc' : zRec) (M' : Nat) (Ld' : List zHel) (rf' jn' : List (List Nat)) (u' : List Nat) (does' : Nat) (stops' : Bool) (code' pc' ps' cb' sb' : Nat), LW E Uo m A K' n' I' F' J' x' L' st' rc' M' Ld' rf' jn' u' does' stops' code' pc' ps' → pc' + 140 * L' + 146 * d ≤ cb' → ps' + 1400 * L' + 1425 * d ≤ sb' → zAft E m_Law_law cb' sb' Q 495 [some (.ref a0), some (.ref Uo.1), some (.ref m), some (.int (nI j)), none] [.int v] (.inl (some (.int v))) (K', n', I', F', J') := fun v K' n' I' F' J' x' L' st' rc' M' Ld' rf' jn' u' does' stops' code' pc' ps' cb' sb' hw hb' hs' => by
    show AW E m_Law_law (K', n', I', F', J') cb' sb' Q 498 [some (.ref a0), some (.ref Uo.1), some (.ref m), some (.int (nI j)), none] [.int v, .int v]
    exact r_Law_law_498 ⟨fun _ => (by rw [x34]; exact nx _ _ _ _ _ _ _ _ _ _ _ _ _ _ _ _ _ _ _ _ _ hw hb' hs'), fun z => absurd rfl z⟩
  have hu := hM.ok.2.2.2
  obtain ⟨k, X, R, N, pu, cu, pp, cp, D, Sg, C, hB, hT, ⟨hu1, hu2⟩, hD, hMk⟩ := hC.B
  refine cc_count (B := Bo3 Ld rf jn) C hB hMk ?_
  exact r_Law_law_489 ⟨ha0, j + 1, x31, by omega, by omega, hM.K9, md_count hM (fun I2 J2 M2 t => nxt _ _ _ _ _ _ _ _ _ _ _ _ _ _ _ _ _ _ _ _ _ _ (lw_fin hC hA hM.mK M2 t) (by omega) (by omega))⟩
theorem lw_3 (h : LW E Uo m A K n I F J x L st rc M Ld rf jn u does stops code pc ps) (nx : NX E Uo m A a0 j d Q) (ha0 : a0 = E.2.1 14) (hj : j + 4 ≤ E.2.1 15) (hj2 : j ≤ 4096) (hb : pc + 140 * L + 146 * (d + 1) ≤ cb) (hs : ps + 1400 * L + 1425 * (d + 1) ≤ sb) : ∃ c1 s1 c2 s2 : Nat, c1 + c2 ≤ cb ∧ s1 + s2 ≤ sb ∧ AW E m_Law_octet (K, n, I, F, J) c1 s1 (zAft E m_Law_law c2 s2 Q 178 [some (.ref a0), some (.ref Uo.1), some (.ref m), some (.int (nI j)), none] []) 0 [some (.ref Uo.1), some (.int (Int32.ofNat (E.2.1 (1000 + (j + 1))))), some (.int (Int32.ofNat (E.2.1 (1000 + (j + 2))))), some (.int (((Int32.ofNat (E.2.1 (1000 + (j + 3))))).toInt8.toInt32)), none] [] := by
  obtain ⟨hC, hM, hA⟩ := h
  have fin : ∀ (v : Int32) (K' n' : Nat → Nat) (I' : Nat → Nat → Int32) (F' : Nat → Nat → Option Nat) (J' : Nat → Nat → Int64) (rc' : zRec), CS E Uo K' n' I' F' J' x L st rc M Ld rf jn u does stops code pc ps ∨ True → ∀ I2 J2, LW E Uo m A K' n' I2 F' J2 x L st rc' M Ld rf jn u does stops code pc ps → MD (fun q => q = v) K' n' I2 F' J2 m A x L st rc' M Ld rf jn u does stops code → AW E m_Law_law (K', n', I2, F', J2) (cb - 1) (sb - 6) Q 203 [some (.ref a0), some (.ref Uo.1), some (.ref m), some (.int (nI j)), some (.int v)] [] := fun v K' n' I' F' J' rc' _ I2 J2 hw hm => r_Law_law_203 ⟨hm.K9, md_thrown hm (r_Law_law_207 ⟨fun _ => (by rw [x34]; exact nx _ _ _ _ _ _ _ _ _ _ _ _ _ _ _ _ _ _ _ _ _ hw (by omega) (by omega)), fun z => absurd rfl z⟩)⟩
  refine ⟨1, 6, cb - 1, sb - 6, by omega, by omega, r_Law_octet_0 ⟨hC.o8, 1, 6, 0, 0, by omega, by omega, ?_⟩⟩
  refine cs_octet hC (fun e => ⟨rfl, fun q => r_Law_octet_10 ?_⟩) (fun e1 e2 K' n' I' F' J' C' g => r_Law_octet_7 ?_)
  · refine r_Law_law_181 ⟨ha0, j + 1, x31, by omega, by omega, ha0, j + 2, x32, by omega, by omega, ha0, j + 3, x33, by omega, by omega, hM.K9, ?_⟩
    exact md_octet hM (fun _ I2 J2 M2 t => fin 1 _ _ I _ J _ (Or.inr trivial) _ _ (lw_fin hC hA hM.mK M2 t) M2) (fun z y => absurd ⟨z, y⟩ e)
  · have hM' := hM.other hA g
    refine r_Law_law_181 ⟨ha0, j + 1, x31, by omega, by omega, ha0, j + 2, x32, by omega, by omega, ha0, j + 3, x33, by omega, by omega, hM'.K9, ?_⟩
    exact md_octet hM' (fun z => absurd ⟨e1, e2⟩ z) (fun _ _ I2 J2 M2 t => fin 0 _ _ I' _ J' _ (Or.inr trivial) _ _ (lw_fin C' hA hM'.mK M2 t) M2)
end
