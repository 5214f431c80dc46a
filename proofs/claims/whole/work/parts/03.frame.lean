/-! one method's frame -/
abbrev KT : Type := Option Value → MS → MI → ML → MR → Nat → Prop
def Kq (v : Option Value) (S : MS) (I : MI) (L : ML) (R : MR) (n : Nat) : KT := fun v' S' I' L' R' n' => v' = v ∧ S' = S ∧ I' = I ∧ L' = L ∧ R' = R ∧ n' = n
def Fx (E : Env) (y : MethodName) (cc : ByteArray) (nL : Nat) (ret : Option FieldType) (p : Program) (s : State) (m : MethodId) (args : Array Value) (meth : Method) (c : Code) : Prop :=
  p.tables.exec = Jvm.exec ∧ c.code = cc ∧ c.maxLocals = nL ∧ s.vm.findClass y.cls = some m.cls ∧ (∀ w ∈ wsG, w.before args s = true) ∧ meth.sig.returnType = ret ∧ meth.locks = false ∧ meth.name = y.name ∧ VMok E s ∧ HB E s.heap
def RetAt (cc : ByteArray) (ret : Option FieldType) (pc : Nat) (v : Option Value) : Prop := match v with
  | none => ret = none ∧ decode cc pc = .ok (.return_, 1)
  | some (.int x) => (∃ ty, ret = some ty ∧ narrow ty (.int x) = .int x) ∧ decode cc pc = .ok (.ireturn, 1)
  | some (.long _) => ret = some .long ∧ decode cc pc = .ok (.lreturn, 1)
  | _ => False
/-- from this place the method comes to its end, as K says -/
def X (E : Env) (y : MethodName) (cc : ByteArray) (nL : Nat) (ret : Option FieldType) (tg : Bool) (d nc ns pc : Nat) (o : List (Option Value)) (st : List Value) (S : MS) (I : MI) (L : ML) (R : MR) (n : Nat) (K : KT) : Prop :=
  ∀ (p : Program) (e : Jvm.Env) (Rm : Room) (s : State) (m : MethodId) (args : Array Value) (below : List Frame) (meth : Method) (c : Code) (Zs : State → Prop) (H : Heap) (locs : List Loc) (cells slots : Nat) (ls : Array Slot),
    Fx E y cc nL ret p s m args meth c → d ≤ Rm.frames → 60 * d ≤ Rm.locals →
    (∀ (v : Option Value) (S' : MS) (I' : MI) (L' : ML) (R' : MR) (n' : Nat) (H' : Heap) (locs' : List Loc) (cells' slots' pc' : Nat) (ls' : Array Slot), K v S' I' L' R' n' → WR E tg S' I' L' R' n' H' → va_S (aA E) s.heap H' locs' → cells' ≤ Rm.cells → slots' ≤ Rm.slots → RetAt cc ret pc' v →
      W p E.1 e Rm s m args below meth c H' locs' cells' slots' Zs (F0 m pc' ls' v.toList)) →
    WR E tg S I L R n H → va_S (aA E) s.heap H locs → cells + nc ≤ Rm.cells → slots + ns ≤ Rm.slots → LH ls nL o →
    W p E.1 e Rm s m args below meth c H locs cells slots Zs (F0 m pc ls st)
/-- a contract: the method, called at these cells, answers and leaves them as K says -/
def C (E : Env) (y : MethodName) (cc : ByteArray) (nL : Nat) (ret : Option FieldType) (tg : Bool) (d nc ns : Nat) (as : List Value) (S : MS) (I : MI) (L : ML) (R : MR) (n : Nat) (K : KT) : Prop :=
  Met E.1 y (Cond.code y cc nL ret :: wsG) { frames := d, cells := nc, slots := ns, locals := 60 * d } (fun a U => a = as.toArray ∧ VMok E U ∧ WR E tg S I L R n U.heap)
    (fun _ st oc t => ∃ (v : Option Value) (S' : MS) (I' : MI) (L' : ML) (R' : MR) (n' : Nat), oc = .returned v ∧ K v S' I' L' R' n' ∧ WR E tg S' I' L' R' n' t.heap ∧ st.heap.size ≤ t.heap.size) nc ns (aA E)
theorem X.mono {E : Env} {y : MethodName} {cc : ByteArray} {nL : Nat} {ret : Option FieldType} {tg : Bool} {d nc ns pc : Nat} {o : List (Option Value)} {st : List Value} {S : MS} {I : MI} {L : ML} {R : MR} {n : Nat} {K K' : KT}
    (h : X E y cc nL ret tg d nc ns pc o st S I L R n K) (hk : ∀ v S I L R n, K v S I L R n → K' v S I L R n) : X E y cc nL ret tg d nc ns pc o st S I L R n K' := by
  intro p e Rm s m args below meth c Zs H locs cells slots ls hF hd hl hZ hW hS hc hs hL
  exact h p e Rm s m args below meth c Zs H locs cells slots ls hF hd hl (fun v S' I' L' R' n' H' locs' cells' slots' pc' ls' k => hZ v S' I' L' R' n' H' locs' cells' slots' pc' ls' (hk _ _ _ _ _ _ k)) hW hS hc hs hL
def entL (nL : Nat) (as : List Value) : List (Option Value) := let f := as.flatMap (fun v => if v.category = 2 then [some v, none] else [some v]); f ++ List.replicate (nL - f.length) none
theorem entL_mem : ∀ (as : List Value) (i : Nat) (r : List (Option Value)) (q : Nat × Value), (∀ x ∈ r, x = none) → q ∈ asl (as.flatMap (fun v => if v.category = 2 then [some v, none] else [some v]) ++ r) i → q ∈ lv_args i as := by
  intro as
  induction as with
  | nil =>
    intro i r q hr hq
    obtain ⟨j, -, h⟩ := (asl_mem _ _ _).mp hq
    have := hr _ (List.mem_of_getElem? (by simpa using h))
    simp at this
  | cons v t ih =>
    intro i r q hr hq
    by_cases hc : v.category = 2
    · simp only [List.flatMap_cons, hc, if_true, List.cons_append, List.nil_append, asl, List.mem_cons] at hq
      rcases hq with rfl | hq
      · simp [lv_args]
      · have := ih (i + 1 + 1) r q hr hq
        simp [lv_args, hc, this]
    · simp only [List.flatMap_cons, hc, if_false, List.cons_append, List.nil_append, asl, List.mem_cons] at hq
      have h1 : v.category = 1 := by rcases lv_cat v with h | h <;> omega
      rcases hq with rfl | hq
      · simp [lv_args]
      · have := ih (i + 1) r q hr hq
        simp [lv_args, h1, this]
theorem C.of {E : Env} {y : MethodName} {cc : ByteArray} {nL : Nat} {ret : Option FieldType} {tg : Bool} {d nc ns : Nat} {as : List Value} {o : List (Option Value)} {S : MS} {I : MI} {L : ML} {R : MR} {n : Nat} {K : KT}
    (hy : plainName y.cls = true) (ho : entL nL as = o) (hn : (lg_sl as).length ≤ nL) (h : X E y cc nL ret tg d nc ns 0 o [] S I L R n K) : C E y cc nL ret tg d nc ns as S I L R n K := by
  refine Met.ofW (cc := cc) (maxL := nL) (ret := ret) hy rfl ?_
  intro p e s m args below meth c s₁ B hml hv
  obtain ⟨rfl, hvm, hW⟩ := hv
  have hown : s.vm.findClass y.cls = some m.cls := findClass_of_methodNamed B.named
  have hts := atoms_spec (ws := Cond.code y cc nL ret :: wsG) B.pre
  have hr : meth.sig.returnType = ret := B.returns
  have hlocks : meth.locks = false := B.notSynchronized
  have hnm : meth.name = y.name := (name_of_methodNamed B.named B.method).1
  have hl := lv_entry as (n := nL) hn
  rw [lg_entry_eq]
  refine h p e _ s m as.toArray below meth c _ s.heap [] 0 0 _ ⟨B.exec, B.bytes, hml, hown, fun w hw => hts w (List.mem_cons_of_mem _ hw), hr, hlocks, hnm, hvm, hW.2.1⟩ (Nat.le_refl _) (Nat.le_refl _) ?_ hW va_S.rf (by show 0 + nc ≤ nc; omega) (by show 0 + ns ≤ ns; omega) ?_
  · intro v S' I' L' R' n' H' locs' cells' slots' pc' ls' hK hW' hS' hc' hs' hra
    refine W.widen (k := nc) (n := ns) hc' hs' ?_
    have hq : ∀ t : State, t.heap = H' → s.WarmedH t.vm → (fun (_ : Array Value) (st : State) (oc : Outcome) (t : State) => ∃ (v : Option Value) (S' : MS) (I' : MI) (L' : ML) (R' : MR) (n' : Nat), oc = .returned v ∧ K v S' I' L' R' n' ∧ WR E tg S' I' L' R' n' t.heap ∧ st.heap.size ≤ t.heap.size) as.toArray s (.returned v) t :=
      fun t ht _ => ⟨v, S', I', L', R', n', rfl, hK, by rw [ht]; exact hW', by rw [ht]; exact hS'.1⟩
    match v, hra, hq with
    | none, hra, hq =>
      exact W.vret B.exec B.bytes (hr.trans hra.1) hq hS'.2.2 hra.2 hlocks
    | some (.int x), hra, hq =>
      obtain ⟨⟨ty, e1, e2⟩, e3⟩ := hra
      exact W.zret B.exec B.bytes (hr.trans e1) e2 hq hS'.2.2 e3 hlocks
    | some (.long x), hra, hq =>
      exact W.lret B.exec B.bytes (hr.trans hra.1) hq hS'.2.2 hra.2 hlocks
  · subst ho
    refine lv_has.mem hl fun q hq => ?_
    exact entL_mem as 0 _ q (fun x hx => (List.mem_replicate.mp hx).2) hq
