section MB
/-! the memory's functions: what they answer, as 'wpo' -/
def wpo {α : Type} (x : Option α) (Q : α → Prop) : Prop := ∃ a, x = some a ∧ Q a
theorem wpo_some {α : Type} {a : α} {Q : α → Prop} : wpo (some a) Q ↔ Q a := ⟨fun ⟨_, h, q⟩ => by cases h; exact q, fun q => ⟨a, rfl, q⟩⟩
theorem wpo_b1 {α β : Type} {x : Option α} {f : α → Option β} {Q : β → Prop} : wpo (bnd1 x f) Q ↔ wpo x (fun a => wpo (f a) Q) := by
  cases x with
  | none => exact ⟨fun ⟨_, h, _⟩ => (by cases h), fun ⟨_, h, _⟩ => (by cases h)⟩
  | some a => exact ⟨fun h => ⟨a, rfl, h⟩, fun ⟨_, h, q⟩ => by cases h; exact q⟩
theorem wpo_b2 {α γ β : Type} {x : Option (α × γ)} {f : α → γ → Option β} {Q : β → Prop} : wpo (bnd2 x f) Q ↔ wpo x (fun a => wpo (f a.1 a.2) Q) := by
  cases x with
  | none => exact ⟨fun ⟨_, h, _⟩ => (by cases h), fun ⟨_, h, _⟩ => (by cases h)⟩
  | some a => exact ⟨fun h => ⟨a, rfl, h⟩, fun ⟨_, h, q⟩ => by cases h; exact q⟩
theorem wpo_b3 {α γ δ β : Type} {x : Option (α × γ × δ)} {f : α → γ → δ → Option β} {Q : β → Prop} : wpo (bnd3 x f) Q ↔ wpo x (fun a => wpo (f a.1 a.2.1 a.2.2) Q) := by
  cases x with
  | none => exact ⟨fun ⟨_, h, _⟩ => (by cases h), fun ⟨_, h, _⟩ => (by cases h)⟩
  | some a => exact ⟨fun h => ⟨a, rfl, h⟩, fun ⟨_, h, q⟩ => by cases h; exact q⟩
theorem wpo_b4 {α γ δ ε β : Type} {x : Option (α × γ × δ × ε)} {f : α → γ → δ → ε → Option β} {Q : β → Prop} : wpo (bnd4 x f) Q ↔ wpo x (fun a => wpo (f a.1 a.2.1 a.2.2.1 a.2.2.2) Q) := by
  cases x with
  | none => exact ⟨fun ⟨_, h, _⟩ => (by cases h), fun ⟨_, h, _⟩ => (by cases h)⟩
  | some a => exact ⟨fun h => ⟨a, rfl, h⟩, fun ⟨_, h, q⟩ => by cases h; exact q⟩
theorem wpo_as {α : Type} {c : Prop} {A : Option α} {Q : α → Prop} : wpo (asrt c A) Q ↔ c ∧ wpo A Q := by
  by_cases h : c
  · rw [asrt_pos h]; exact ⟨fun q => ⟨h, q⟩, fun q => q.2⟩
  · constructor
    · rintro ⟨a, h1, -⟩; exact absurd (asrt_some h1).1 h
    · exact fun q => absurd q.1 h
theorem wpo_if {α : Type} {c : Prop} {A B : Option α} {Q : α → Prop} : wpo (ifb c A B) Q ↔ (c → wpo A Q) ∧ (¬ c → wpo B Q) := by
  by_cases h : c
  · rw [ifb_pos h]; exact ⟨fun q => ⟨fun _ => q, fun z => absurd h z⟩, fun q => q.1 h⟩
  · rw [ifb_neg h]; exact ⟨fun q => ⟨fun z => absurd z h, fun _ => q⟩, fun q => q.2 h⟩
theorem wpo_lt {α β : Type} {x : α} {f : α → Option β} {Q : β → Prop} : wpo (lt x f) Q ↔ wpo (f x) Q := Iff.rfl
theorem wpo_mono {α : Type} {x : Option α} {P Q : α → Prop} (h : wpo x P) (hq : ∀ a, P a → Q a) : wpo x Q := by
  obtain ⟨a, e, p⟩ := h
  exact ⟨a, e, hq a p⟩
/-! values of ints -/
theorem tI_n {n : Nat} (h : n < 2147483648) : (nI n).toInt = (n : Int) := nI_toInt (by omega)
theorem tI_m1 : (-1 : Int32).toInt = -1 := by decide
theorem tI_m2 : (-2 : Int32).toInt = -2 := by decide
theorem tI_m3 : (-3 : Int32).toInt = -3 := by decide
/-! what a function of the memory leaves as it was -/
abbrev FT : Type := List (Nat × Option Nat)
def inF (l : FT) (a k : Nat) : Bool := l.any (fun q => q.1 == a && (q.2 == none || q.2 == some k))
def Fr (l : FT) (I I' : MI) : Prop := ∀ a k, inF l a k = false → I' a k = I a k
def FrL (l : FT) (I I' : ML) : Prop := ∀ a k, inF l a k = false → I' a k = I a k
def dsj (l m : FT) : Bool := l.all (fun q => m.all (fun r => !(q.1 == r.1) || (match q.2, r.2 with | some i, some j => !(i == j) | _, _ => false)))
def subF (l m : FT) : Bool := l.all (fun q => m.any (fun r => r.1 == q.1 && (r.2 == none || r.2 == q.2)))
theorem Fr.rf {l : FT} {I : MI} : Fr l I I := fun _ _ _ => rfl
theorem Fr.tr {l : FT} {I I' I'' : MI} (h : Fr l I I') (h' : Fr l I' I'') : Fr l I I'' := fun a k q => (h' a k q).trans (h a k q)
theorem FrL.rf {l : FT} {I : ML} : FrL l I I := fun _ _ _ => rfl
theorem FrL.tr {l : FT} {I I' I'' : ML} (h : FrL l I I') (h' : FrL l I' I'') : FrL l I I'' := fun a k q => (h' a k q).trans (h a k q)
theorem Fr.w {l : FT} {I I' : MI} {a k : Nat} {v : Int32} (h : Fr l I I') (hm : inF l a k = true) : Fr l I (wI I' a k v) := fun b j q => by
  rw [wI_n (fun z => by rw [z.1, z.2, hm] at q; cases q)]
  exact h b j q
theorem FrL.w {l : FT} {I I' : ML} {a k : Nat} {v : Int64} (h : FrL l I I') (hm : inF l a k = true) : FrL l I (wL I' a k v) := fun b j q => by
  rw [wL_n (fun z => by rw [z.1, z.2, hm] at q; cases q)]
  exact h b j q
theorem inF_sub {l m : FT} {a k : Nat} (h : subF l m = true) (hq : inF l a k = true) : inF m a k = true := by
  simp only [inF, List.any_eq_true, Bool.and_eq_true, Bool.or_eq_true, beq_iff_eq, subF, List.all_eq_true] at *
  obtain ⟨q, q1, q2, q3⟩ := hq
  obtain ⟨r, r1, r2, r3⟩ := h q q1
  refine ⟨r, r1, r2.trans q2, ?_⟩
  rcases r3 with r3 | r3
  · exact Or.inl r3
  · rcases q3 with q3 | q3
    · exact Or.inl (r3.trans q3)
    · exact Or.inr (r3.trans q3)
theorem Fr.sub {l m : FT} {I I' : MI} (h : Fr l I I') (hs : subF l m = true) : Fr m I I' := fun a k q => h a k (by
  cases hl : inF l a k with
  | false => rfl
  | true => rw [inF_sub hs hl] at q; cases q)
theorem FrL.sub {l m : FT} {I I' : ML} (h : FrL l I I') (hs : subF l m = true) : FrL m I I' := fun a k q => h a k (by
  cases hl : inF l a k with
  | false => rfl
  | true => rw [inF_sub hs hl] at q; cases q)
theorem Fr.row {l : FT} {I I' : MI} (h : Fr l I I') {a : Nat} (hs : l.all (fun q => !(q.1 == a)) = true) : I' a = I a := by
  funext k
  refine h a k ?_
  simp only [inF, List.any_eq_false, Bool.and_eq_true, not_and, List.all_eq_true, Bool.not_eq_true'] at *
  intro q hq hz
  rw [hs q hq] at hz
  cases hz
theorem FrL.row {l : FT} {I I' : ML} (h : FrL l I I') {a : Nat} (hs : l.all (fun q => !(q.1 == a)) = true) : I' a = I a := by
  funext k
  refine h a k ?_
  simp only [inF, List.any_eq_false, Bool.and_eq_true, not_and, List.all_eq_true, Bool.not_eq_true'] at *
  intro q hq hz
  rw [hs q hq] at hz
  cases hz
end MB
