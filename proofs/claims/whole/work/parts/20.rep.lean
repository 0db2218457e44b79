-- ===== contracts: the heap, what stays of it =====
/-- what stays: all that there was keeps its kind and its length; outside S its fields too -/
def GR (S : Nat → Prop) (h h' : zH) : Prop := ∀ a : Nat, h.1 a ≠ 0 → h'.1 a = h.1 a ∧ h'.2.1 a = h.2.1 a ∧ (¬ S a → h'.2.2.1 a = h.2.2.1 a ∧ h'.2.2.2.1 a = h.2.2.2.1 a ∧ h'.2.2.2.2 a = h.2.2.2.2 a)
theorem GR.refl {S : Nat → Prop} (h : zH) : GR S h h := fun _ _ => ⟨rfl, rfl, fun _ => ⟨rfl, rfl, rfl⟩⟩
theorem GR.trans {S S' : Nat → Prop} {h h' h'' : zH} (x : GR S h h') (y : GR S' h' h'') (hS : ∀ a, h.1 a ≠ 0 → S' a → S a) : GR S h h'' := fun a ha => by
  obtain ⟨x1, x2, x3⟩ := x a ha
  obtain ⟨y1, y2, y3⟩ := y a (by rw [x1]; exact ha)
  refine ⟨y1.trans x1, y2.trans x2, fun hn => ?_⟩
  obtain ⟨p1, p2, p3⟩ := x3 hn
  obtain ⟨q1, q2, q3⟩ := y3 (fun z => hn (hS a ha z))
  exact ⟨q1.trans p1, q2.trans p2, q3.trans p3⟩
theorem GR.mono {S S' : Nat → Prop} {h h' : zH} (x : GR S h h') (hS : ∀ a, h.1 a ≠ 0 → S a → S' a) : GR S' h h' := fun a ha => ⟨(x a ha).1, (x a ha).2.1, fun hn => (x a ha).2.2 (fun z => hn (hS a ha z))⟩
theorem GR.K {S : Nat → Prop} {h h' : zH} (x : GR S h h') {a k : Nat} (ha : h.1 a = k) (hk : k ≠ 0) : h'.1 a = k := by rw [(x a (by rw [ha]; exact hk)).1, ha]
/-- the lists' arrays, the rows' bytes, the parts' texts are each one's own -/
def HG (E : zE) (K : Nat → Nat) (F : Nat → Nat → Option Nat) : Prop :=
  (∀ l e, K l = 10 → F l 1 = some e → K e = 23 ∨ e = E.2.1 10) ∧
  (∀ l l' e, K l = 10 → K l' = 10 → F l 1 = some e → F l' 1 = some e → l = l' ∨ e = E.2.1 10) ∧
  (∀ a b, K a = 4 → F a 0 = some b → K b = 20) ∧
  (∀ a a' b, K a = 4 → K a' = 4 → F a 0 = some b → F a' 0 = some b → a = a') ∧
  (∀ p b, K p = 2 → F p 0 = some b → K b = 20) ∧
  (∀ p a b, K p = 2 → K a = 4 → F p 0 = some b → F a 0 = some b → False)
theorem va_up_s {α : Type} (f : Nat → α) (q : Nat) (v : α) : va_up f q v q = v := by simp [va_up]
theorem va_up_n {α : Type} (f : Nat → α) {q a : Nat} (v : α) (h : a ≠ q) : va_up f q v a = f a := by simp [va_up, h]
theorem zup_s {α : Type} (f : Nat → Nat → α) (a k : Nat) (v : α) : zup f a k v a k = v := by rw [zup_at]; simp
theorem zup_n {α : Type} (f : Nat → Nat → α) {a b : Nat} (k : Nat) (v : α) (h : b ≠ a) : zup f a k v b = f b := zup_ne f k v h
theorem zup_k {α : Type} (f : Nat → Nat → α) (a : Nat) {k j : Nat} (v : α) (h : j ≠ k) (b : Nat) : zup f a k v b j = f b j := by rw [zup_at]; simp [h]
/-- a new object, nothing in it -/
theorem HG.new {E : zE} {K : Nat → Nat} {F : Nat → Nat → Option Nat} (h : HG E K F) {q : Nat} (k : Nat) (hq : K q = 0) : HG E (va_up K q k) (va_up F q (fun _ => none)) := by
  obtain ⟨h1, h2, h3, h4, h5, h6⟩ := h
  have key : ∀ {a x b : Nat}, (va_up F q (fun _ => none)) a x = some b → a ≠ q ∧ F a x = some b := by
    intro a x b hb
    by_cases e : a = q
    · subst e; rw [va_up_s] at hb; cases hb
    · rw [va_up_n _ _ e] at hb; exact ⟨e, hb⟩
  have kk : ∀ {a c : Nat}, a ≠ q → va_up K q k a = c → K a = c := fun ha hc => by rwa [va_up_n _ _ ha] at hc
  have up : ∀ {b c : Nat}, K b = c → c ≠ 0 → va_up K q k b = c := fun hb hc => by
    rw [va_up_n _ _ (fun e => hc (by rw [← hb, e, hq]))]; exact hb
  refine ⟨fun l e hl he => ?_, fun l l' e hl hl' he he' => ?_, fun a b ha hb => ?_, fun a a' b ha ha' hb hb' => ?_, fun p b ha hb => ?_, fun p a b hp ha hb hb' => ?_⟩
  · obtain ⟨z, y⟩ := key he
    exact (h1 l e (kk z hl) y).imp (fun w => up w (by decide)) id
  · obtain ⟨z, y⟩ := key he
    obtain ⟨z', y'⟩ := key he'
    exact h2 l l' e (kk z hl) (kk z' hl') y y'
  · obtain ⟨z, y⟩ := key hb
    exact up (h3 a b (kk z ha) y) (by decide)
  · obtain ⟨z, y⟩ := key hb
    obtain ⟨z', y'⟩ := key hb'
    exact h4 a a' b (kk z ha) (kk z' ha') y y'
  · obtain ⟨z, y⟩ := key hb
    exact up (h5 p b (kk z ha) y) (by decide)
  · obtain ⟨z, y⟩ := key hb
    obtain ⟨z', y'⟩ := key hb'
    exact h6 p a b (kk z hp) (kk z' ha) y y'
/-- a new array of numbers -/
theorem HG.newA {E : zE} {K : Nat → Nat} {F : Nat → Nat → Option Nat} (h : HG E K F) {q : Nat} (k : Nat) (hk : k = 20 ∨ k = 21 ∨ k = 22) (hq : K q = 0) : HG E (va_up K q k) F := by
  obtain ⟨h1, h2, h3, h4, h5, h6⟩ := h
  have kk : ∀ {a c : Nat}, c = 10 ∨ c = 4 ∨ c = 2 → va_up K q k a = c → K a = c := fun {a c} hc ha => by
    by_cases e : a = q
    · subst e; rw [va_up_s] at ha; omega
    · rwa [va_up_n _ _ e] at ha
  have up : ∀ {b c : Nat}, K b = c → c ≠ 0 → va_up K q k b = c := fun hb hc => by
    rw [va_up_n _ _ (fun e => hc (by rw [← hb, e, hq]))]; exact hb
  exact ⟨fun l e hl he => (h1 l e (kk (by omega) hl) he).imp (fun w => up w (by decide)) id, fun l l' e hl hl' he he' => h2 l l' e (kk (by omega) hl) (kk (by omega) hl') he he', fun a b ha hb => up (h3 a b (kk (by omega) ha) hb) (by decide),
    fun a a' b ha ha' hb hb' => h4 a a' b (kk (by omega) ha) (kk (by omega) ha') hb hb', fun p b ha hb => up (h5 p b (kk (by omega) ha) hb) (by decide), fun p a b hp ha hb hb' => h6 p a b (kk (by omega) hp) (kk (by omega) ha) hb hb'⟩
/-- a field that is neither a list's array nor a row's bytes nor a part's text -/
theorem HG.put {E : zE} {K : Nat → Nat} {F : Nat → Nat → Option Nat} (h : HG E K F) (a k : Nat) (r : Option Nat) (h1 : ¬ (K a = 10 ∧ k = 1)) (h2 : ¬ (K a = 4 ∧ k = 0)) (h3 : ¬ (K a = 2 ∧ k = 0)) : HG E K (zup F a k r) := by
  have e1 : ∀ l, K l = 10 → zup F a k r l 1 = F l 1 := fun l hl => by
    by_cases e : l = a
    · subst e; exact zup_k F l r (fun z => h1 ⟨hl, z.symm⟩) l
    · rw [zup_n F k r e]
  have e2 : ∀ l, K l = 4 → zup F a k r l 0 = F l 0 := fun l hl => by
    by_cases e : l = a
    · subst e; exact zup_k F l r (fun z => h2 ⟨hl, z.symm⟩) l
    · rw [zup_n F k r e]
  have e3 : ∀ l, K l = 2 → zup F a k r l 0 = F l 0 := fun l hl => by
    by_cases e : l = a
    · subst e; exact zup_k F l r (fun z => h3 ⟨hl, z.symm⟩) l
    · rw [zup_n F k r e]
  obtain ⟨g1, g2, g3, g4, g5, g6⟩ := h
  refine ⟨fun l e hl he => g1 l e hl (by rw [← e1 l hl]; exact he), fun l l' e hl hl' he he' => g2 l l' e hl hl' (by rw [← e1 l hl]; exact he) (by rw [← e1 l' hl']; exact he'), fun x b hx hb => g3 x b hx (by rw [← e2 x hx]; exact hb),
    fun x x' b hx hx' hb hb' => g4 x x' b hx hx' (by rw [← e2 x hx]; exact hb) (by rw [← e2 x' hx']; exact hb'), fun p b hp hb => g5 p b hp (by rw [← e3 p hp]; exact hb), fun p x b hp hx hb hb' => g6 p x b hp hx (by rw [← e3 p hp]; exact hb) (by rw [← e2 x hx]; exact hb')⟩
/-- a list gets the empty constant, or an array that no list has -/
theorem HG.putL {E : zE} {K : Nat → Nat} {F : Nat → Nat → Option Nat} (h : HG E K F) (l e : Nat) (hl : K l = 10) (he : e = E.2.1 10 ∨ (K e = 23 ∧ ∀ l', K l' = 10 → F l' 1 ≠ some e)) : HG E K (zup F l 1 (some e)) := by
  obtain ⟨g1, g2, g3, g4, g5, g6⟩ := h
  have z0 : ∀ (x b : Nat), zup F l 1 (some e) x 0 = F x 0 := fun x b => zup_k F l (some e) (by decide) x
  have key : ∀ {x b : Nat}, zup F l 1 (some e) x 1 = some b → (x = l ∧ b = e) ∨ (x ≠ l ∧ F x 1 = some b) := fun {x b} hb => by
    by_cases q : x = l
    · subst q; rw [zup_s] at hb; exact Or.inl ⟨rfl, (Option.some.inj hb).symm⟩
    · rw [zup_n F 1 _ q] at hb; exact Or.inr ⟨q, hb⟩
  refine ⟨fun x b hx hb => ?_, fun x x' b hx hx' hb hb' => ?_, fun x b hx hb => g3 x b hx (by rw [← z0 x 0]; exact hb), fun x x' b hx hx' hb hb' => g4 x x' b hx hx' (by rw [← z0 x 0]; exact hb) (by rw [← z0 x' 0]; exact hb'), fun p b hp hb => g5 p b hp (by rw [← z0 p 0]; exact hb), fun p x b hp hx hb hb' => g6 p x b hp hx (by rw [← z0 p 0]; exact hb) (by rw [← z0 x 0]; exact hb')⟩
  · rcases key hb with ⟨-, rfl⟩ | ⟨-, q⟩
    · rcases he with he | he
      · exact Or.inr he
      · exact Or.inl he.1
    · exact g1 x b hx q
  · rcases key hb with ⟨rfl, rfl⟩ | ⟨n1, q⟩ <;> rcases key hb' with ⟨rfl, q'⟩ | ⟨n2, q'⟩
    · exact Or.inl rfl
    · rcases he with he | he
      · exact Or.inr he
      · exact absurd q' (he.2 x' hx')
    · subst q'
      rcases he with he | he
      · exact Or.inr he
      · exact absurd q (he.2 x hx)
    · exact g2 x x' b hx hx' q q'
/-- a row, or a part, gets an array of bytes that nobody has -/
theorem HG.putB {E : zE} {K : Nat → Nat} {F : Nat → Nat → Option Nat} (h : HG E K F) (a b : Nat) (ha : K a = 4 ∨ K a = 2) (hb : K b = 20) (hf : ∀ x, K x = 4 ∨ K x = 2 → F x 0 ≠ some b) : HG E K (zup F a 0 (some b)) := by
  obtain ⟨g1, g2, g3, g4, g5, g6⟩ := h
  have z1 : ∀ x : Nat, zup F a 0 (some b) x 1 = F x 1 := fun x => zup_k F a (some b) (by decide) x
  have key : ∀ {x c : Nat}, zup F a 0 (some b) x 0 = some c → (x = a ∧ c = b) ∨ (x ≠ a ∧ F x 0 = some c) := fun {x c} hc => by
    by_cases q : x = a
    · subst q; rw [zup_s] at hc; exact Or.inl ⟨rfl, (Option.some.inj hc).symm⟩
    · rw [zup_n F 0 _ q] at hc; exact Or.inr ⟨q, hc⟩
  refine ⟨fun x c hx hc => g1 x c hx (by rw [← z1 x]; exact hc), fun x x' c hx hx' hc hc' => g2 x x' c hx hx' (by rw [← z1 x]; exact hc) (by rw [← z1 x']; exact hc'), fun x c hx hc => ?_, fun x x' c hx hx' hc hc' => ?_, fun x c hx hc => ?_, fun p x c hp hx hc hc' => ?_⟩
  · rcases key hc with ⟨-, rfl⟩ | ⟨-, q⟩
    · exact hb
    · exact g3 x c hx q
  · rcases key hc with ⟨rfl, rfl⟩ | ⟨n1, q⟩ <;> rcases key hc' with ⟨rfl, q'⟩ | ⟨n2, q'⟩
    · rfl
    · exact absurd q' (hf x' (Or.inl hx'))
    · subst q'; exact absurd q (hf x (Or.inl hx))
    · exact g4 x x' c hx hx' q q'
  · rcases key hc with ⟨-, rfl⟩ | ⟨-, q⟩
    · exact hb
    · exact g5 x c hx q
  · rcases key hc with ⟨rfl, rfl⟩ | ⟨n1, q⟩ <;> rcases key hc' with ⟨e', q'⟩ | ⟨n2, q'⟩
    · rw [e'] at hx; omega
    · exact hf x (Or.inl hx) q'
    · subst q'; exact hf p (Or.inr hp) q
    · exact g6 p x c hp hx q q'
/-- an array's elements are no one's own -/
theorem HG.arr {E : zE} {K : Nat → Nat} {F F' : Nat → Nat → Option Nat} (h : HG E K F) (hF : ∀ a, K a = 10 ∨ K a = 4 ∨ K a = 2 → F' a = F a) : HG E K F' := by
  obtain ⟨g1, g2, g3, g4, g5, g6⟩ := h
  have f1 : ∀ a, K a = 10 → F' a = F a := fun a ha => hF a (Or.inl ha)
  have f2 : ∀ a, K a = 4 → F' a = F a := fun a ha => hF a (Or.inr (Or.inl ha))
  have f3 : ∀ a, K a = 2 → F' a = F a := fun a ha => hF a (Or.inr (Or.inr ha))
  exact ⟨fun l e hl he => g1 l e hl (by rw [← f1 l hl]; exact he), fun l l' e hl hl' he he' => g2 l l' e hl hl' (by rw [← f1 l hl]; exact he) (by rw [← f1 l' hl']; exact he'), fun x b hx hb => g3 x b hx (by rw [← f2 x hx]; exact hb),
    fun x x' b hx hx' hb hb' => g4 x x' b hx hx' (by rw [← f2 x hx]; exact hb) (by rw [← f2 x' hx']; exact hb'), fun p b hp hb => g5 p b hp (by rw [← f3 p hp]; exact hb), fun p x b hp hx hb hb' => g6 p x b hp hx (by rw [← f3 p hp]; exact hb) (by rw [← f2 x hx]; exact hb')⟩
section
variable {E : zE} {M : zM} {K n : Nat → Nat} {I : Nat → Nat → Int32} {F : Nat → Nat → Option Nat} {J : Nat → Nat → Int64} {cb sb : Nat} {Q : zO → zH → Prop} {pc : Nat} {lv : List (Option Value)} {st : List Value}
/-- the empty constant is none of ours -/
theorem aw_c0 (kk : K (E.2.1 10) = 0 → AW E M (K, n, I, F, J) cb sb Q pc lv st) : AW E M (K, n, I, F, J) cb sb Q pc lv st := by
  intro p l e R s m args below meth c H locs cells slots ls ok hR hL hc hs hl
  obtain ⟨-, -, -, -, -, -, -, -, -, -, hT, hK, hC, -⟩ := id ok
  refine kk ?_ p l e R s m args below meth c H locs cells slots ls ok hR hL hc hs hl
  obtain ⟨cell, h1, h2, h3, h4⟩ := hC 2
  by_cases z : K (E.2.1 10) = 0
  · exact z
  · exact absurd (hR.2.2 (E.2.1 10) z).1 h4
end
