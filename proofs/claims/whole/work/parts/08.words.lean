/-! the words in which the methods are written as functions -/
noncomputable def asrt {α : Type} (c : Prop) (A : Option α) : Option α := @ite _ c (Classical.propDecidable c) A none
noncomputable def ifb {α : Type} (c : Prop) (A B : Option α) : Option α := @ite _ c (Classical.propDecidable c) A B
def lt {α β : Type} (x : α) (f : α → β) : β := f x
theorem asrt_some {α : Type} {c : Prop} {A : Option α} {r : α} (h : asrt c A = some r) : c ∧ A = some r := by
  unfold asrt at h
  split at h
  · exact ⟨‹c›, h⟩
  · cases h
theorem ifb_some {α : Type} {c : Prop} {A B : Option α} {r : α} (h : ifb c A B = some r) : (c ∧ A = some r) ∨ (¬ c ∧ B = some r) := by
  unfold ifb at h
  split at h
  · exact Or.inl ⟨‹c›, h⟩
  · exact Or.inr ⟨‹¬ c›, h⟩
theorem asrt_pos {α : Type} {c : Prop} {A : Option α} (h : c) : asrt c A = A := by unfold asrt; rw [if_pos h]
theorem ifb_pos {α : Type} {c : Prop} {A B : Option α} (h : c) : ifb c A B = A := by unfold ifb; rw [if_pos h]
theorem ifb_neg {α : Type} {c : Prop} {A B : Option α} (h : ¬ c) : ifb c A B = B := by unfold ifb; rw [if_neg h]
theorem lt_at {α β : Type} {x e : α} {f : α → Option β} {r : β} (hx : x = e) (h : lt e f = some r) : f x = some r := by subst hx; exact h
def bnd0 {β : Type} (x : Option Unit) (f : Option β) : Option β := match x with
  | none => none
  | some _ => f
theorem bnd0_some {β : Type} {x : Option Unit} {f : Option β} {r : β} (h : bnd0 x f = some r) : x = some () ∧ f = some r := by
  cases x with
  | none => cases h
  | some v => exact ⟨rfl, h⟩
theorem bnd0_at {β : Type} {x : Option Unit} {f : Option β} (h : x = some ()) : bnd0 x f = f := by subst h; rfl
def bnd1 {α0 β : Type} (x : Option (α0)) (f : α0 → Option β) : Option β := match x with
  | none => none
  | some a => f a
theorem bnd1_some {α0 β : Type} {x : Option (α0)} {f : α0 → Option β} {r : β} (h : bnd1 x f = some r) : ∃ a, x = some a ∧ f a = some r := by
  cases x with
  | none => cases h
  | some v => exact ⟨v, rfl, h⟩
theorem bnd1_at {α0 β : Type} {x : Option (α0)} {f : α0 → Option β} {a : α0} (h : x = some a) : bnd1 x f = f a := by subst h; rfl
def bnd2 {α0 α1 β : Type} (x : Option (α0 × α1)) (f : α0 → α1 → Option β) : Option β := match x with
  | none => none
  | some (a, b) => f a b
theorem bnd2_some {α0 α1 β : Type} {x : Option (α0 × α1)} {f : α0 → α1 → Option β} {r : β} (h : bnd2 x f = some r) : ∃ a b, x = some (a, b) ∧ f a b = some r := by
  cases x with
  | none => cases h
  | some v => exact ⟨v.1, v.2, rfl, h⟩
theorem bnd2_at {α0 α1 β : Type} {x : Option (α0 × α1)} {f : α0 → α1 → Option β} {a : α0} {b : α1} (h : x = some (a, b)) : bnd2 x f = f a b := by subst h; rfl
def bnd3 {α0 α1 α2 β : Type} (x : Option (α0 × α1 × α2)) (f : α0 → α1 → α2 → Option β) : Option β := match x with
  | none => none
  | some (a, b, c) => f a b c
theorem bnd3_some {α0 α1 α2 β : Type} {x : Option (α0 × α1 × α2)} {f : α0 → α1 → α2 → Option β} {r : β} (h : bnd3 x f = some r) : ∃ a b c, x = some (a, b, c) ∧ f a b c = some r := by
  cases x with
  | none => cases h
  | some v => exact ⟨v.1, v.2.1, v.2.2, rfl, h⟩
theorem bnd3_at {α0 α1 α2 β : Type} {x : Option (α0 × α1 × α2)} {f : α0 → α1 → α2 → Option β} {a : α0} {b : α1} {c : α2} (h : x = some (a, b, c)) : bnd3 x f = f a b c := by subst h; rfl
def bnd4 {α0 α1 α2 α3 β : Type} (x : Option (α0 × α1 × α2 × α3)) (f : α0 → α1 → α2 → α3 → Option β) : Option β := match x with
  | none => none
  | some (a, b, c, d) => f a b c d
theorem bnd4_some {α0 α1 α2 α3 β : Type} {x : Option (α0 × α1 × α2 × α3)} {f : α0 → α1 → α2 → α3 → Option β} {r : β} (h : bnd4 x f = some r) : ∃ a b c d, x = some (a, b, c, d) ∧ f a b c d = some r := by
  cases x with
  | none => cases h
  | some v => exact ⟨v.1, v.2.1, v.2.2.1, v.2.2.2, rfl, h⟩
theorem bnd4_at {α0 α1 α2 α3 β : Type} {x : Option (α0 × α1 × α2 × α3)} {f : α0 → α1 → α2 → α3 → Option β} {a : α0} {b : α1} {c : α2} {d : α3} (h : x = some (a, b, c, d)) : bnd4 x f = f a b c d := by subst h; rfl
def bnd5 {α0 α1 α2 α3 α4 β : Type} (x : Option (α0 × α1 × α2 × α3 × α4)) (f : α0 → α1 → α2 → α3 → α4 → Option β) : Option β := match x with
  | none => none
  | some (a, b, c, d, e) => f a b c d e
theorem bnd5_some {α0 α1 α2 α3 α4 β : Type} {x : Option (α0 × α1 × α2 × α3 × α4)} {f : α0 → α1 → α2 → α3 → α4 → Option β} {r : β} (h : bnd5 x f = some r) : ∃ a b c d e, x = some (a, b, c, d, e) ∧ f a b c d e = some r := by
  cases x with
  | none => cases h
  | some v => exact ⟨v.1, v.2.1, v.2.2.1, v.2.2.2.1, v.2.2.2.2, rfl, h⟩
theorem bnd5_at {α0 α1 α2 α3 α4 β : Type} {x : Option (α0 × α1 × α2 × α3 × α4)} {f : α0 → α1 → α2 → α3 → α4 → Option β} {a : α0} {b : α1} {c : α2} {d : α3} {e : α4} (h : x = some (a, b, c, d, e)) : bnd5 x f = f a b c d e := by subst h; rfl
def bnd6 {α0 α1 α2 α3 α4 α5 β : Type} (x : Option (α0 × α1 × α2 × α3 × α4 × α5)) (f : α0 → α1 → α2 → α3 → α4 → α5 → Option β) : Option β := match x with
  | none => none
  | some (a, b, c, d, e, m) => f a b c d e m
theorem bnd6_some {α0 α1 α2 α3 α4 α5 β : Type} {x : Option (α0 × α1 × α2 × α3 × α4 × α5)} {f : α0 → α1 → α2 → α3 → α4 → α5 → Option β} {r : β} (h : bnd6 x f = some r) : ∃ a b c d e m, x = some (a, b, c, d, e, m) ∧ f a b c d e m = some r := by
  cases x with
  | none => cases h
  | some v => exact ⟨v.1, v.2.1, v.2.2.1, v.2.2.2.1, v.2.2.2.2.1, v.2.2.2.2.2, rfl, h⟩
theorem bnd6_at {α0 α1 α2 α3 α4 α5 β : Type} {x : Option (α0 × α1 × α2 × α3 × α4 × α5)} {f : α0 → α1 → α2 → α3 → α4 → α5 → Option β} {a : α0} {b : α1} {c : α2} {d : α3} {e : α4} {m : α5} (h : x = some (a, b, c, d, e, m)) : bnd6 x f = f a b c d e m := by subst h; rfl
def bnd7 {α0 α1 α2 α3 α4 α5 α6 β : Type} (x : Option (α0 × α1 × α2 × α3 × α4 × α5 × α6)) (f : α0 → α1 → α2 → α3 → α4 → α5 → α6 → Option β) : Option β := match x with
  | none => none
  | some (a, b, c, d, e, m, q) => f a b c d e m q
theorem bnd7_some {α0 α1 α2 α3 α4 α5 α6 β : Type} {x : Option (α0 × α1 × α2 × α3 × α4 × α5 × α6)} {f : α0 → α1 → α2 → α3 → α4 → α5 → α6 → Option β} {r : β} (h : bnd7 x f = some r) : ∃ a b c d e m q, x = some (a, b, c, d, e, m, q) ∧ f a b c d e m q = some r := by
  cases x with
  | none => cases h
  | some v => exact ⟨v.1, v.2.1, v.2.2.1, v.2.2.2.1, v.2.2.2.2.1, v.2.2.2.2.2.1, v.2.2.2.2.2.2, rfl, h⟩
theorem bnd7_at {α0 α1 α2 α3 α4 α5 α6 β : Type} {x : Option (α0 × α1 × α2 × α3 × α4 × α5 × α6)} {f : α0 → α1 → α2 → α3 → α4 → α5 → α6 → Option β} {a : α0} {b : α1} {c : α2} {d : α3} {e : α4} {m : α5} {q : α6} (h : x = some (a, b, c, d, e, m, q)) : bnd7 x f = f a b c d e m q := by subst h; rfl
def bnd8 {α0 α1 α2 α3 α4 α5 α6 α7 β : Type} (x : Option (α0 × α1 × α2 × α3 × α4 × α5 × α6 × α7)) (f : α0 → α1 → α2 → α3 → α4 → α5 → α6 → α7 → Option β) : Option β := match x with
  | none => none
  | some (a, b, c, d, e, m, q, u) => f a b c d e m q u
theorem bnd8_some {α0 α1 α2 α3 α4 α5 α6 α7 β : Type} {x : Option (α0 × α1 × α2 × α3 × α4 × α5 × α6 × α7)} {f : α0 → α1 → α2 → α3 → α4 → α5 → α6 → α7 → Option β} {r : β} (h : bnd8 x f = some r) : ∃ a b c d e m q u, x = some (a, b, c, d, e, m, q, u) ∧ f a b c d e m q u = some r := by
  cases x with
  | none => cases h
  | some v => exact ⟨v.1, v.2.1, v.2.2.1, v.2.2.2.1, v.2.2.2.2.1, v.2.2.2.2.2.1, v.2.2.2.2.2.2.1, v.2.2.2.2.2.2.2, rfl, h⟩
theorem bnd8_at {α0 α1 α2 α3 α4 α5 α6 α7 β : Type} {x : Option (α0 × α1 × α2 × α3 × α4 × α5 × α6 × α7)} {f : α0 → α1 → α2 → α3 → α4 → α5 → α6 → α7 → Option β} {a : α0} {b : α1} {c : α2} {d : α3} {e : α4} {m : α5} {q : α6} {u : α7} (h : x = some (a, b, c, d, e, m, q, u)) : bnd8 x f = f a b c d e m q u := by subst h; rfl
def bnd9 {α0 α1 α2 α3 α4 α5 α6 α7 α8 β : Type} (x : Option (α0 × α1 × α2 × α3 × α4 × α5 × α6 × α7 × α8)) (f : α0 → α1 → α2 → α3 → α4 → α5 → α6 → α7 → α8 → Option β) : Option β := match x with
  | none => none
  | some (a, b, c, d, e, m, q, u, w) => f a b c d e m q u w
theorem bnd9_some {α0 α1 α2 α3 α4 α5 α6 α7 α8 β : Type} {x : Option (α0 × α1 × α2 × α3 × α4 × α5 × α6 × α7 × α8)} {f : α0 → α1 → α2 → α3 → α4 → α5 → α6 → α7 → α8 → Option β} {r : β} (h : bnd9 x f = some r) : ∃ a b c d e m q u w, x = some (a, b, c, d, e, m, q, u, w) ∧ f a b c d e m q u w = some r := by
  cases x with
  | none => cases h
  | some v => exact ⟨v.1, v.2.1, v.2.2.1, v.2.2.2.1, v.2.2.2.2.1, v.2.2.2.2.2.1, v.2.2.2.2.2.2.1, v.2.2.2.2.2.2.2.1, v.2.2.2.2.2.2.2.2, rfl, h⟩
theorem bnd9_at {α0 α1 α2 α3 α4 α5 α6 α7 α8 β : Type} {x : Option (α0 × α1 × α2 × α3 × α4 × α5 × α6 × α7 × α8)} {f : α0 → α1 → α2 → α3 → α4 → α5 → α6 → α7 → α8 → Option β} {a : α0} {b : α1} {c : α2} {d : α3} {e : α4} {m : α5} {q : α6} {u : α7} {w : α8} (h : x = some (a, b, c, d, e, m, q, u, w)) : bnd9 x f = f a b c d e m q u w := by subst h; rfl
theorem dle {K k d : Nat} (hd : K ≤ d) (h : k + 1 ≤ K) : k ≤ d - 1 := by omega
theorem ddd {K d : Nat} (hd : K ≤ d) (h : 1 ≤ K) : d - 1 + 1 ≤ d := by omega
theorem nz01 {x : Int32} (h : x = 0 ∨ x = 1) : narrow .boolean (.int x) = .int x := by rcases h with rfl | rfl <;> rfl
section XT
variable {E : Env} {y : MethodName} {cc : ByteArray} {nL : Nat} {ret : Option FieldType} {tg : Bool} {d nc ns pc : Nat} {o : List (Option Value)} {st : List Value} {S S' : MS} {I I' : MI} {L L' : ML} {R R' : MR} {n n' : Nat} {K : KT}
theorem X.nameI {e : Int32} (k : ∀ x, x = e → X E y cc nL ret tg d nc ns pc o (.int x :: st) S I L R n K) : X E y cc nL ret tg d nc ns pc o (.int e :: st) S I L R n K := k e rfl
theorem X.nameL {e : Int64} (k : ∀ x, x = e → X E y cc nL ret tg d nc ns pc o (.long x :: st) S I L R n K) : X E y cc nL ret tg d nc ns pc o (.long e :: st) S I L R n K := k e rfl
theorem X.nameMI {e : MI} (k : ∀ x, x = e → X E y cc nL ret tg d nc ns pc o st S x L R n K) : X E y cc nL ret tg d nc ns pc o st S e L R n K := k e rfl
theorem X.nameML {e : ML} (k : ∀ x, x = e → X E y cc nL ret tg d nc ns pc o st S I x R n K) : X E y cc nL ret tg d nc ns pc o st S I e R n K := k e rfl
theorem X.nameMR {e : MR} (k : ∀ x, x = e → X E y cc nL ret tg d nc ns pc o st S I L x n K) : X E y cc nL ret tg d nc ns pc o st S I L e n K := k e rfl
theorem X.nameMS {e : MS} (k : ∀ x, x = e → X E y cc nL ret tg d nc ns pc o st x I L R n K) : X E y cc nL ret tg d nc ns pc o st e I L R n K := k e rfl
theorem X.nameN {e : Nat} (k : ∀ x, x = e → X E y cc nL ret tg d nc ns pc o st S I L R x K) : X E y cc nL ret tg d nc ns pc o st S I L R e K := k e rfl
theorem X.callVi {x b ci d' mc ms m1 m2 : Nat} {ret' : Option FieldType} {y' : MethodName} {cc' : ByteArray} {nL' : Nat} {As stk : List Value} {v : Int32} (hC : C E y' cc' nL' ret' tg d' mc ms (.ref (e_b E + b) :: As) S I L R n (Kq (some (.int v)) S' I' L' R' n')) (hw : MW y' cc' nL' ret' As.length ∧ LK y.cls x y' ∧ Cond.instanceMethod y' ∈ wsG ∧ Cond.selects y'.cls y' y' ∈ wsG) (hd : decode cc pc = .ok (.invokevirtual x, 3)) (hS : (S b).1 = ci) (hci : ci < 13 ∧ clR ci = y'.cls) (hdd : d' + 1 ≤ d) (hst : stk = As.reverse ++ .ref (e_b E + b) :: st) (hsum : (st.map fun v => v.category).sum ≤ 8) (h1 : m1 = mc + nc) (h2 : m2 = ms + ns)
    (kk : X E y cc nL ret tg d nc ns (pc + 3) o (.int v :: st) S' I' L' R' n' K) : X E y cc nL ret tg d m1 m2 pc o stk S I L R n K := by
  subst h1; subst h2
  refine X.callV hw hd hS hci hdd hC hst hsum (fun v1 S1 I1 L1 R1 n1 hk => ?_)
  obtain ⟨rfl, rfl, rfl, rfl, rfl, rfl⟩ := hk
  exact kk
theorem X.callVl {x b ci d' mc ms m1 m2 : Nat} {ret' : Option FieldType} {y' : MethodName} {cc' : ByteArray} {nL' : Nat} {As stk : List Value} {v : Int64} (hC : C E y' cc' nL' ret' tg d' mc ms (.ref (e_b E + b) :: As) S I L R n (Kq (some (.long v)) S' I' L' R' n')) (hw : MW y' cc' nL' ret' As.length ∧ LK y.cls x y' ∧ Cond.instanceMethod y' ∈ wsG ∧ Cond.selects y'.cls y' y' ∈ wsG) (hd : decode cc pc = .ok (.invokevirtual x, 3)) (hS : (S b).1 = ci) (hci : ci < 13 ∧ clR ci = y'.cls) (hdd : d' + 1 ≤ d) (hst : stk = As.reverse ++ .ref (e_b E + b) :: st) (hsum : (st.map fun v => v.category).sum ≤ 8) (h1 : m1 = mc + nc) (h2 : m2 = ms + ns)
    (kk : X E y cc nL ret tg d nc ns (pc + 3) o (.long v :: st) S' I' L' R' n' K) : X E y cc nL ret tg d m1 m2 pc o stk S I L R n K := by
  subst h1; subst h2
  refine X.callV hw hd hS hci hdd hC hst hsum (fun v1 S1 I1 L1 R1 n1 hk => ?_)
  obtain ⟨rfl, rfl, rfl, rfl, rfl, rfl⟩ := hk
  exact kk
theorem X.callVv {x b ci d' mc ms m1 m2 : Nat} {ret' : Option FieldType} {y' : MethodName} {cc' : ByteArray} {nL' : Nat} {As stk : List Value} (hC : C E y' cc' nL' ret' tg d' mc ms (.ref (e_b E + b) :: As) S I L R n (Kq (none) S' I' L' R' n')) (hw : MW y' cc' nL' ret' As.length ∧ LK y.cls x y' ∧ Cond.instanceMethod y' ∈ wsG ∧ Cond.selects y'.cls y' y' ∈ wsG) (hd : decode cc pc = .ok (.invokevirtual x, 3)) (hS : (S b).1 = ci) (hci : ci < 13 ∧ clR ci = y'.cls) (hdd : d' + 1 ≤ d) (hst : stk = As.reverse ++ .ref (e_b E + b) :: st) (hsum : (st.map fun v => v.category).sum ≤ 8) (h1 : m1 = mc + nc) (h2 : m2 = ms + ns)
    (kk : X E y cc nL ret tg d nc ns (pc + 3) o (st) S' I' L' R' n' K) : X E y cc nL ret tg d m1 m2 pc o stk S I L R n K := by
  subst h1; subst h2
  refine X.callV hw hd hS hci hdd hC hst hsum (fun v1 S1 I1 L1 R1 n1 hk => ?_)
  obtain ⟨rfl, rfl, rfl, rfl, rfl, rfl⟩ := hk
  exact kk
theorem X.callSi {x d' mc ms m1 m2 : Nat} {ret' : Option FieldType} {y' : MethodName} {cc' : ByteArray} {nL' : Nat} {As stk : List Value} {v : Int32} (hC : C E y' cc' nL' ret' tg d' mc ms As S I L R n (Kq (some (.int v)) S' I' L' R' n')) (hw : MW y' cc' nL' ret' As.length ∧ LK y.cls x y' ∧ Cond.static y' ∈ wsG) (hd : decode cc pc = .ok (.invokestatic x, 3)) (hdd : d' + 1 ≤ d) (hst : stk = As.reverse ++ st) (hsum : (st.map fun v => v.category).sum ≤ 8) (h1 : m1 = mc + nc) (h2 : m2 = ms + ns)
    (kk : X E y cc nL ret tg d nc ns (pc + 3) o (.int v :: st) S' I' L' R' n' K) : X E y cc nL ret tg d m1 m2 pc o stk S I L R n K := by
  subst h1; subst h2
  refine X.callS hw hd hdd hC hst hsum (fun v1 S1 I1 L1 R1 n1 hk => ?_)
  obtain ⟨rfl, rfl, rfl, rfl, rfl, rfl⟩ := hk
  exact kk
theorem X.callSl {x d' mc ms m1 m2 : Nat} {ret' : Option FieldType} {y' : MethodName} {cc' : ByteArray} {nL' : Nat} {As stk : List Value} {v : Int64} (hC : C E y' cc' nL' ret' tg d' mc ms As S I L R n (Kq (some (.long v)) S' I' L' R' n')) (hw : MW y' cc' nL' ret' As.length ∧ LK y.cls x y' ∧ Cond.static y' ∈ wsG) (hd : decode cc pc = .ok (.invokestatic x, 3)) (hdd : d' + 1 ≤ d) (hst : stk = As.reverse ++ st) (hsum : (st.map fun v => v.category).sum ≤ 8) (h1 : m1 = mc + nc) (h2 : m2 = ms + ns)
    (kk : X E y cc nL ret tg d nc ns (pc + 3) o (.long v :: st) S' I' L' R' n' K) : X E y cc nL ret tg d m1 m2 pc o stk S I L R n K := by
  subst h1; subst h2
  refine X.callS hw hd hdd hC hst hsum (fun v1 S1 I1 L1 R1 n1 hk => ?_)
  obtain ⟨rfl, rfl, rfl, rfl, rfl, rfl⟩ := hk
  exact kk
theorem X.callSv {x d' mc ms m1 m2 : Nat} {ret' : Option FieldType} {y' : MethodName} {cc' : ByteArray} {nL' : Nat} {As stk : List Value} (hC : C E y' cc' nL' ret' tg d' mc ms As S I L R n (Kq (none) S' I' L' R' n')) (hw : MW y' cc' nL' ret' As.length ∧ LK y.cls x y' ∧ Cond.static y' ∈ wsG) (hd : decode cc pc = .ok (.invokestatic x, 3)) (hdd : d' + 1 ≤ d) (hst : stk = As.reverse ++ st) (hsum : (st.map fun v => v.category).sum ≤ 8) (h1 : m1 = mc + nc) (h2 : m2 = ms + ns)
    (kk : X E y cc nL ret tg d nc ns (pc + 3) o (st) S' I' L' R' n' K) : X E y cc nL ret tg d m1 m2 pc o stk S I L R n K := by
  subst h1; subst h2
  refine X.callS hw hd hdd hC hst hsum (fun v1 S1 I1 L1 R1 n1 hk => ?_)
  obtain ⟨rfl, rfl, rfl, rfl, rfl, rfl⟩ := hk
  exact kk
theorem X.callIv {x b d' mc ms m1 m2 : Nat} {y' : MethodName} {cc' : ByteArray} {nL' : Nat} {As stk : List Value} (hC : C E y' cc' nL' none tg d' mc ms (.ref (e_b E + b) :: As) S I L R n (Kq (none) S' I' L' R' n')) (hw : MW y' cc' nL' none As.length ∧ LK y.cls x y' ∧ Cond.instanceMethod y' ∈ wsG ∧ y'.name = "<init>") (hd : decode cc pc = .ok (.invokespecial x, 3)) (hdd : d' + 1 ≤ d) (hst : stk = As.reverse ++ .ref (e_b E + b) :: st) (hsum : (st.map fun v => v.category).sum ≤ 8) (h1 : m1 = mc + nc) (h2 : m2 = ms + ns)
    (kk : X E y cc nL ret tg d nc ns (pc + 3) o (st) S' I' L' R' n' K) : X E y cc nL ret tg d m1 m2 pc o stk S I L R n K := by
  subst h1; subst h2
  refine X.callI hw hd hdd hC hst hsum (fun v1 S1 I1 L1 R1 n1 hk => ?_)
  obtain ⟨rfl, rfl, rfl, rfl, rfl, rfl⟩ := hk
  exact kk
theorem X.icmp_eq_t {a b : Int32} {off : Int} {tgt : Nat} (hc : a = b) (ht : (pc : Int) + off = (tgt : Int)) (hd : decode cc pc = .ok (.if_icmp .eq off, 3)) (k : X E y cc nL ret tg d nc ns tgt o st S I L R n K) : X E y cc nL ret tg d nc ns pc o (.int b :: .int a :: st) S I L R n K := X.icmp_eq ht hd (fun _ => k) (fun q => absurd hc q)
theorem X.icmp_eq_f {a b : Int32} {off : Int} {tgt : Nat} (hc : ¬ (a = b)) (ht : (pc : Int) + off = (tgt : Int)) (hd : decode cc pc = .ok (.if_icmp .eq off, 3)) (k : X E y cc nL ret tg d nc ns (pc + 3) o st S I L R n K) : X E y cc nL ret tg d nc ns pc o (.int b :: .int a :: st) S I L R n K := X.icmp_eq ht hd (fun q => absurd q hc) (fun _ => k)
theorem X.if_eq_t {a : Int32} {off : Int} {tgt : Nat} (hc : a = 0) (ht : (pc : Int) + off = (tgt : Int)) (hd : decode cc pc = .ok (.ifCond .eq off, 3)) (k : X E y cc nL ret tg d nc ns tgt o st S I L R n K) : X E y cc nL ret tg d nc ns pc o (.int a :: st) S I L R n K := X.if_eq ht hd (fun _ => k) (fun q => absurd hc q)
theorem X.if_eq_f {a : Int32} {off : Int} {tgt : Nat} (hc : ¬ (a = 0)) (ht : (pc : Int) + off = (tgt : Int)) (hd : decode cc pc = .ok (.ifCond .eq off, 3)) (k : X E y cc nL ret tg d nc ns (pc + 3) o st S I L R n K) : X E y cc nL ret tg d nc ns pc o (.int a :: st) S I L R n K := X.if_eq ht hd (fun q => absurd q hc) (fun _ => k)
theorem X.icmp_ne_t {a b : Int32} {off : Int} {tgt : Nat} (hc : ¬ (a = b)) (ht : (pc : Int) + off = (tgt : Int)) (hd : decode cc pc = .ok (.if_icmp .ne off, 3)) (k : X E y cc nL ret tg d nc ns tgt o st S I L R n K) : X E y cc nL ret tg d nc ns pc o (.int b :: .int a :: st) S I L R n K := X.icmp_ne ht hd (fun _ => k) (fun q => absurd q hc)
theorem X.icmp_ne_f {a b : Int32} {off : Int} {tgt : Nat} (hc : a = b) (ht : (pc : Int) + off = (tgt : Int)) (hd : decode cc pc = .ok (.if_icmp .ne off, 3)) (k : X E y cc nL ret tg d nc ns (pc + 3) o st S I L R n K) : X E y cc nL ret tg d nc ns pc o (.int b :: .int a :: st) S I L R n K := X.icmp_ne ht hd (fun q => absurd hc q) (fun _ => k)
theorem X.if_ne_t {a : Int32} {off : Int} {tgt : Nat} (hc : ¬ (a = 0)) (ht : (pc : Int) + off = (tgt : Int)) (hd : decode cc pc = .ok (.ifCond .ne off, 3)) (k : X E y cc nL ret tg d nc ns tgt o st S I L R n K) : X E y cc nL ret tg d nc ns pc o (.int a :: st) S I L R n K := X.if_ne ht hd (fun _ => k) (fun q => absurd q hc)
theorem X.if_ne_f {a : Int32} {off : Int} {tgt : Nat} (hc : a = 0) (ht : (pc : Int) + off = (tgt : Int)) (hd : decode cc pc = .ok (.ifCond .ne off, 3)) (k : X E y cc nL ret tg d nc ns (pc + 3) o st S I L R n K) : X E y cc nL ret tg d nc ns pc o (.int a :: st) S I L R n K := X.if_ne ht hd (fun q => absurd hc q) (fun _ => k)
theorem X.icmp_lt_t {a b : Int32} {off : Int} {tgt : Nat} (hc : a < b) (ht : (pc : Int) + off = (tgt : Int)) (hd : decode cc pc = .ok (.if_icmp .lt off, 3)) (k : X E y cc nL ret tg d nc ns tgt o st S I L R n K) : X E y cc nL ret tg d nc ns pc o (.int b :: .int a :: st) S I L R n K := X.icmp_lt ht hd (fun _ => k) (fun q => absurd hc q)
theorem X.icmp_lt_f {a b : Int32} {off : Int} {tgt : Nat} (hc : ¬ (a < b)) (ht : (pc : Int) + off = (tgt : Int)) (hd : decode cc pc = .ok (.if_icmp .lt off, 3)) (k : X E y cc nL ret tg d nc ns (pc + 3) o st S I L R n K) : X E y cc nL ret tg d nc ns pc o (.int b :: .int a :: st) S I L R n K := X.icmp_lt ht hd (fun q => absurd q hc) (fun _ => k)
theorem X.if_lt_t {a : Int32} {off : Int} {tgt : Nat} (hc : a < 0) (ht : (pc : Int) + off = (tgt : Int)) (hd : decode cc pc = .ok (.ifCond .lt off, 3)) (k : X E y cc nL ret tg d nc ns tgt o st S I L R n K) : X E y cc nL ret tg d nc ns pc o (.int a :: st) S I L R n K := X.if_lt ht hd (fun _ => k) (fun q => absurd hc q)
theorem X.if_lt_f {a : Int32} {off : Int} {tgt : Nat} (hc : ¬ (a < 0)) (ht : (pc : Int) + off = (tgt : Int)) (hd : decode cc pc = .ok (.ifCond .lt off, 3)) (k : X E y cc nL ret tg d nc ns (pc + 3) o st S I L R n K) : X E y cc nL ret tg d nc ns pc o (.int a :: st) S I L R n K := X.if_lt ht hd (fun q => absurd q hc) (fun _ => k)
theorem X.icmp_ge_t {a b : Int32} {off : Int} {tgt : Nat} (hc : b ≤ a) (ht : (pc : Int) + off = (tgt : Int)) (hd : decode cc pc = .ok (.if_icmp .ge off, 3)) (k : X E y cc nL ret tg d nc ns tgt o st S I L R n K) : X E y cc nL ret tg d nc ns pc o (.int b :: .int a :: st) S I L R n K := X.icmp_ge ht hd (fun _ => k) (fun q => absurd hc q)
theorem X.icmp_ge_f {a b : Int32} {off : Int} {tgt : Nat} (hc : ¬ (b ≤ a)) (ht : (pc : Int) + off = (tgt : Int)) (hd : decode cc pc = .ok (.if_icmp .ge off, 3)) (k : X E y cc nL ret tg d nc ns (pc + 3) o st S I L R n K) : X E y cc nL ret tg d nc ns pc o (.int b :: .int a :: st) S I L R n K := X.icmp_ge ht hd (fun q => absurd q hc) (fun _ => k)
theorem X.if_ge_t {a : Int32} {off : Int} {tgt : Nat} (hc : 0 ≤ a) (ht : (pc : Int) + off = (tgt : Int)) (hd : decode cc pc = .ok (.ifCond .ge off, 3)) (k : X E y cc nL ret tg d nc ns tgt o st S I L R n K) : X E y cc nL ret tg d nc ns pc o (.int a :: st) S I L R n K := X.if_ge ht hd (fun _ => k) (fun q => absurd hc q)
theorem X.if_ge_f {a : Int32} {off : Int} {tgt : Nat} (hc : ¬ (0 ≤ a)) (ht : (pc : Int) + off = (tgt : Int)) (hd : decode cc pc = .ok (.ifCond .ge off, 3)) (k : X E y cc nL ret tg d nc ns (pc + 3) o st S I L R n K) : X E y cc nL ret tg d nc ns pc o (.int a :: st) S I L R n K := X.if_ge ht hd (fun q => absurd q hc) (fun _ => k)
theorem X.icmp_gt_t {a b : Int32} {off : Int} {tgt : Nat} (hc : b < a) (ht : (pc : Int) + off = (tgt : Int)) (hd : decode cc pc = .ok (.if_icmp .gt off, 3)) (k : X E y cc nL ret tg d nc ns tgt o st S I L R n K) : X E y cc nL ret tg d nc ns pc o (.int b :: .int a :: st) S I L R n K := X.icmp_gt ht hd (fun _ => k) (fun q => absurd hc q)
theorem X.icmp_gt_f {a b : Int32} {off : Int} {tgt : Nat} (hc : ¬ (b < a)) (ht : (pc : Int) + off = (tgt : Int)) (hd : decode cc pc = .ok (.if_icmp .gt off, 3)) (k : X E y cc nL ret tg d nc ns (pc + 3) o st S I L R n K) : X E y cc nL ret tg d nc ns pc o (.int b :: .int a :: st) S I L R n K := X.icmp_gt ht hd (fun q => absurd q hc) (fun _ => k)
theorem X.if_gt_t {a : Int32} {off : Int} {tgt : Nat} (hc : 0 < a) (ht : (pc : Int) + off = (tgt : Int)) (hd : decode cc pc = .ok (.ifCond .gt off, 3)) (k : X E y cc nL ret tg d nc ns tgt o st S I L R n K) : X E y cc nL ret tg d nc ns pc o (.int a :: st) S I L R n K := X.if_gt ht hd (fun _ => k) (fun q => absurd hc q)
theorem X.if_gt_f {a : Int32} {off : Int} {tgt : Nat} (hc : ¬ (0 < a)) (ht : (pc : Int) + off = (tgt : Int)) (hd : decode cc pc = .ok (.ifCond .gt off, 3)) (k : X E y cc nL ret tg d nc ns (pc + 3) o st S I L R n K) : X E y cc nL ret tg d nc ns pc o (.int a :: st) S I L R n K := X.if_gt ht hd (fun q => absurd q hc) (fun _ => k)
theorem X.icmp_le_t {a b : Int32} {off : Int} {tgt : Nat} (hc : a ≤ b) (ht : (pc : Int) + off = (tgt : Int)) (hd : decode cc pc = .ok (.if_icmp .le off, 3)) (k : X E y cc nL ret tg d nc ns tgt o st S I L R n K) : X E y cc nL ret tg d nc ns pc o (.int b :: .int a :: st) S I L R n K := X.icmp_le ht hd (fun _ => k) (fun q => absurd hc q)
theorem X.icmp_le_f {a b : Int32} {off : Int} {tgt : Nat} (hc : ¬ (a ≤ b)) (ht : (pc : Int) + off = (tgt : Int)) (hd : decode cc pc = .ok (.if_icmp .le off, 3)) (k : X E y cc nL ret tg d nc ns (pc + 3) o st S I L R n K) : X E y cc nL ret tg d nc ns pc o (.int b :: .int a :: st) S I L R n K := X.icmp_le ht hd (fun q => absurd q hc) (fun _ => k)
theorem X.if_le_t {a : Int32} {off : Int} {tgt : Nat} (hc : a ≤ 0) (ht : (pc : Int) + off = (tgt : Int)) (hd : decode cc pc = .ok (.ifCond .le off, 3)) (k : X E y cc nL ret tg d nc ns tgt o st S I L R n K) : X E y cc nL ret tg d nc ns pc o (.int a :: st) S I L R n K := X.if_le ht hd (fun _ => k) (fun q => absurd hc q)
theorem X.if_le_f {a : Int32} {off : Int} {tgt : Nat} (hc : ¬ (a ≤ 0)) (ht : (pc : Int) + off = (tgt : Int)) (hd : decode cc pc = .ok (.ifCond .le off, 3)) (k : X E y cc nL ret tg d nc ns (pc + 3) o st S I L R n K) : X E y cc nL ret tg d nc ns pc o (.int a :: st) S I L R n K := X.if_le ht hd (fun q => absurd q hc) (fun _ => k)
end XT
