section XR
variable {E : Env} {y : MethodName} {cc : ByteArray} {nL : Nat} {ret : Option FieldType} {tg : Bool} {d nc ns pc : Nat} {o : List (Option Value)} {st : List Value} {S : MS} {I : MI} {L : ML} {R : MR} {n : Nat} {K : KT}

def irm (x y : Int32) : Int32 := x - x / y * y
def lrm (x y : Int64) : Int64 := x - x / y * y
def isl (x y : Int32) : Int32 := x <<< (y &&& 31)
def isr (x y : Int32) : Int32 := x >>> (y &&& 31)
def ius (x y : Int32) : Int32 := (x.toUInt32 >>> (y.toUInt32 &&& Int32.toUInt32 31)).toInt32
def lsl (x : Int64) (y : Int32) : Int64 := x <<< (y.toInt64 &&& 63)
def lsr (x : Int64) (y : Int32) : Int64 := x >>> (y.toInt64 &&& 63)
def lus (x : Int64) (y : Int32) : Int64 := (x.toUInt64 >>> (y.toInt64.toUInt64 &&& Int64.toUInt64 63)).toInt64
theorem X.pass {pc' : Nat} {st' : List Value} (h : ∀ {p : Program} {e : Jvm.Env} {Rm : Room} {s : State} {m : MethodId} {args : Array Value} {below : List Frame} {meth : Method} {c : Code} {Zs : State → Prop} {H : Heap} {locs : List Loc} {cells slots : Nat} {ls : Array Slot}, Fx E y cc nL ret p s m args meth c → LH ls nL o →
    W p E.1 e Rm s m args below meth c H locs cells slots Zs (F0 m pc' ls st') → W p E.1 e Rm s m args below meth c H locs cells slots Zs (F0 m pc ls st))
    (k : X E y cc nL ret tg d nc ns pc' o st' S I L R n K) : X E y cc nL ret tg d nc ns pc o st S I L R n K :=
  fun p e Rm s m args below meth c Zs H locs cells slots ls hF hd hl hZ hW hS hc hs hL => h hF hL (k p e Rm s m args below meth c Zs H locs cells slots ls hF hd hl hZ hW hS hc hs hL)
theorem X.passL {pc' : Nat} {st' : List Value} {o' : List (Option Value)} (h : ∀ {p : Program} {e : Jvm.Env} {Rm : Room} {s : State} {m : MethodId} {args : Array Value} {below : List Frame} {meth : Method} {c : Code} {Zs : State → Prop} {H : Heap} {locs : List Loc} {cells slots : Nat} {ls : Array Slot}, Fx E y cc nL ret p s m args meth c → LH ls nL o →
    (∀ ls' : Array Slot, LH ls' nL o' → W p E.1 e Rm s m args below meth c H locs cells slots Zs (F0 m pc' ls' st')) → W p E.1 e Rm s m args below meth c H locs cells slots Zs (F0 m pc ls st))
    (k : X E y cc nL ret tg d nc ns pc' o' st' S I L R n K) : X E y cc nL ret tg d nc ns pc o st S I L R n K :=
  fun p e Rm s m args below meth c Zs H locs cells slots ls hF hd hl hZ hW hS hc hs hL => h hF hL (fun ls' hL' => k p e Rm s m args below meth c Zs H locs cells slots ls' hF hd hl hZ hW hS hc hs hL')
theorem X.eqS {st' : List Value} (h : st = st') (k : X E y cc nL ret tg d nc ns pc o st' S I L R n K) : X E y cc nL ret tg d nc ns pc o st S I L R n K := h ▸ k
theorem X.sub {o' : List (Option Value)} (h : ∀ (k : Nat) (v : Value), o'[k]? = some (some v) → o[k]? = some (some v)) (k : X E y cc nL ret tg d nc ns pc o' st S I L R n K) : X E y cc nL ret tg d nc ns pc o st S I L R n K :=
  fun p e Rm s m args below meth c Zs H locs cells slots ls hF hd hl hZ hW hS hc hs hL => k p e Rm s m args below meth c Zs H locs cells slots ls hF hd hl hZ hW hS hc hs (lv_has.mem hL (fun q hq => by
    obtain ⟨j, h1, h2⟩ := (asl_mem _ _ _).mp hq
    exact (asl_mem _ _ _).mpr ⟨j, h1, h _ _ h2⟩))
/-- which of the locals o' are o's, or nothing -/
def fgt : List (Option Value) → List (Option Value) → Prop
  | [], [] => True
  | none :: t', _ :: t => fgt t' t
  | some v :: t', some w :: t => v = w ∧ fgt t' t
  | _, _ => False
theorem fgt_sub : ∀ (o' o : List (Option Value)), fgt o' o → ∀ (k : Nat) (v : Value), o'[k]? = some (some v) → o[k]? = some (some v)
  | [], [], _, k, v, h => by simp at h
  | none :: t', x :: t, hf, k, v, h => by
    cases k with
    | zero => simp at h
    | succ k => simpa using fgt_sub t' t hf k v (by simpa using h)
  | some a :: t', some b :: t, hf, k, v, h => by
    obtain ⟨rfl, hf⟩ := hf
    cases k with
    | zero => simpa using h
    | succ k => simpa using fgt_sub t' t hf k v (by simpa using h)
  | [], b :: t, hf, k, v, h => by simp [fgt] at hf
  | some a :: t', none :: t, hf, k, v, h => by simp [fgt] at hf
  | some a :: t', [], hf, k, v, h => by simp [fgt] at hf
  | none :: t', [], hf, k, v, h => by simp [fgt] at hf
theorem X.fgt {o' : List (Option Value)} (h : fgt o' o) (k : X E y cc nL ret tg d nc ns pc o' st S I L R n K) : X E y cc nL ret tg d nc ns pc o st S I L R n K := X.sub (fgt_sub o' o h) k
theorem X.goto {off : Int} {tgt : Nat} (hd : decode cc pc = .ok (.goto off, 3)) (ht : (pc : Int) + off = (tgt : Int)) (k : X E y cc nL ret tg d nc ns tgt o st S I L R n K) : X E y cc nL ret tg d nc ns pc o st S I L R n K :=
  X.pass (fun hF _ h => lv_goto hF.1 hF.2.1 hd ht h) k

theorem X.iconst {i : Int} {v : Int32} (hv : Int32.ofInt i = v) (hd : decode cc pc = .ok (.iconst i, 1)) (k : X E y cc nL ret tg d nc ns (pc + 1) o (.int v :: st) S I L R n K) : X E y cc nL ret tg d nc ns pc o (st) S I L R n K :=
  X.pass (fun hF hL h => lv_iconst hF.1 hF.2.1 hd hv h) k
theorem X.bipush {i : Int} {v : Int32} (hv : (Int8.ofInt i).toInt32 = v) (hd : decode cc pc = .ok (.bipush i, 2)) (k : X E y cc nL ret tg d nc ns (pc + 2) o (.int v :: st) S I L R n K) : X E y cc nL ret tg d nc ns pc o (st) S I L R n K :=
  X.pass (fun hF hL h => lv_bipush hF.1 hF.2.1 hd hv h) k
theorem X.sipush {i : Int} {v : Int32} (hv : (Int16.ofInt i).toInt32 = v) (hd : decode cc pc = .ok (.sipush i, 3)) (k : X E y cc nL ret tg d nc ns (pc + 3) o (.int v :: st) S I L R n K) : X E y cc nL ret tg d nc ns pc o (st) S I L R n K :=
  X.pass (fun hF hL h => lv_sipush hF.1 hF.2.1 hd hv h) k
theorem X.lconst {i : Fin 2} {v : Int64} (hv : Int64.ofNat (i : Nat) = v) (hd : decode cc pc = .ok (.lconst i, 1)) (k : X E y cc nL ret tg d nc ns (pc + 1) o (.long v :: st) S I L R n K) : X E y cc nL ret tg d nc ns pc o (st) S I L R n K :=
  X.pass (fun hF hL h => lv_lconst hF.1 hF.2.1 hd hv h) k
theorem X.ldc {x : Nat} {v : Int32} (hw : Cond.constant y.cls x v ∈ wsG) (hd : decode cc pc = .ok (.ldc x, 2)) (k : X E y cc nL ret tg d nc ns (pc + 2) o (.int v :: st) S I L R n K) : X E y cc nL ret tg d nc ns pc o (st) S I L R n K :=
  X.pass (fun hF hL h => lv_ldc hF.1 hF.2.1 hF.2.2.2.1 (hF.2.2.2.2.1 _ hw) hd h) k
theorem X.ldcw {x : Nat} {v : Int32} (hw : Cond.constant y.cls x v ∈ wsG) (hd : decode cc pc = .ok (.ldc_w x, 3)) (k : X E y cc nL ret tg d nc ns (pc + 3) o (.int v :: st) S I L R n K) : X E y cc nL ret tg d nc ns pc o (st) S I L R n K :=
  X.pass (fun hF hL h => lv_ldcw hF.1 hF.2.1 hF.2.2.2.1 (hF.2.2.2.2.1 _ hw) hd h) k
theorem X.ldc2 {x : Nat} {v : Int64} (hw : Cond.constantLong y.cls x v ∈ wsG) (hd : decode cc pc = .ok (.ldc2_w x, 3)) (k : X E y cc nL ret tg d nc ns (pc + 3) o (.long v :: st) S I L R n K) : X E y cc nL ret tg d nc ns pc o (st) S I L R n K :=
  X.pass (fun hF hL h => lv_ldc2 hF.1 hF.2.1 hF.2.2.2.1 (hF.2.2.2.2.1 _ hw) hd h) k
theorem X.iadd {a b : Int32} (hd : decode cc pc = .ok (.iadd, 1)) (k : X E y cc nL ret tg d nc ns (pc + 1) o (.int (a + b) :: st) S I L R n K) : X E y cc nL ret tg d nc ns pc o (.int b :: .int a :: st) S I L R n K :=
  X.pass (fun hF hL h => lv_iadd hF.1 hF.2.1 hd h) k
theorem X.isub {a b : Int32} (hd : decode cc pc = .ok (.isub, 1)) (k : X E y cc nL ret tg d nc ns (pc + 1) o (.int (a - b) :: st) S I L R n K) : X E y cc nL ret tg d nc ns pc o (.int b :: .int a :: st) S I L R n K :=
  X.pass (fun hF hL h => lv_isub hF.1 hF.2.1 hd h) k
theorem X.imul {a b : Int32} (hd : decode cc pc = .ok (.imul, 1)) (k : X E y cc nL ret tg d nc ns (pc + 1) o (.int (a * b) :: st) S I L R n K) : X E y cc nL ret tg d nc ns pc o (.int b :: .int a :: st) S I L R n K :=
  X.pass (fun hF hL h => lv_imul hF.1 hF.2.1 hd h) k
theorem X.iand {a b : Int32} (hd : decode cc pc = .ok (.iand, 1)) (k : X E y cc nL ret tg d nc ns (pc + 1) o (.int (a &&& b) :: st) S I L R n K) : X E y cc nL ret tg d nc ns pc o (.int b :: .int a :: st) S I L R n K :=
  X.pass (fun hF hL h => lv_iand hF.1 hF.2.1 hd h) k
theorem X.ior {a b : Int32} (hd : decode cc pc = .ok (.ior, 1)) (k : X E y cc nL ret tg d nc ns (pc + 1) o (.int (a ||| b) :: st) S I L R n K) : X E y cc nL ret tg d nc ns pc o (.int b :: .int a :: st) S I L R n K :=
  X.pass (fun hF hL h => lv_ior hF.1 hF.2.1 hd h) k
theorem X.ixor {a b : Int32} (hd : decode cc pc = .ok (.ixor, 1)) (k : X E y cc nL ret tg d nc ns (pc + 1) o (.int (a ^^^ b) :: st) S I L R n K) : X E y cc nL ret tg d nc ns pc o (.int b :: .int a :: st) S I L R n K :=
  X.pass (fun hF hL h => lv_ixor hF.1 hF.2.1 hd h) k
theorem X.ladd {a b : Int64} (hd : decode cc pc = .ok (.ladd, 1)) (k : X E y cc nL ret tg d nc ns (pc + 1) o (.long (a + b) :: st) S I L R n K) : X E y cc nL ret tg d nc ns pc o (.long b :: .long a :: st) S I L R n K :=
  X.pass (fun hF hL h => lv_ladd hF.1 hF.2.1 hd h) k
theorem X.lsub {a b : Int64} (hd : decode cc pc = .ok (.lsub, 1)) (k : X E y cc nL ret tg d nc ns (pc + 1) o (.long (a - b) :: st) S I L R n K) : X E y cc nL ret tg d nc ns pc o (.long b :: .long a :: st) S I L R n K :=
  X.pass (fun hF hL h => lv_lsub hF.1 hF.2.1 hd h) k
theorem X.lmul {a b : Int64} (hd : decode cc pc = .ok (.lmul, 1)) (k : X E y cc nL ret tg d nc ns (pc + 1) o (.long (a * b) :: st) S I L R n K) : X E y cc nL ret tg d nc ns pc o (.long b :: .long a :: st) S I L R n K :=
  X.pass (fun hF hL h => lv_lmul hF.1 hF.2.1 hd h) k
theorem X.land {a b : Int64} (hd : decode cc pc = .ok (.land, 1)) (k : X E y cc nL ret tg d nc ns (pc + 1) o (.long (a &&& b) :: st) S I L R n K) : X E y cc nL ret tg d nc ns pc o (.long b :: .long a :: st) S I L R n K :=
  X.pass (fun hF hL h => lv_land hF.1 hF.2.1 hd h) k
theorem X.lor {a b : Int64} (hd : decode cc pc = .ok (.lor, 1)) (k : X E y cc nL ret tg d nc ns (pc + 1) o (.long (a ||| b) :: st) S I L R n K) : X E y cc nL ret tg d nc ns pc o (.long b :: .long a :: st) S I L R n K :=
  X.pass (fun hF hL h => lv_lor hF.1 hF.2.1 hd h) k
theorem X.ishl {a b : Int32} (hd : decode cc pc = .ok (.ishl, 1)) (k : X E y cc nL ret tg d nc ns (pc + 1) o (.int (isl a b) :: st) S I L R n K) : X E y cc nL ret tg d nc ns pc o (.int b :: .int a :: st) S I L R n K :=
  X.pass (fun hF hL h => lv_ishl hF.1 hF.2.1 hd h) k
theorem X.ishr {a b : Int32} (hd : decode cc pc = .ok (.ishr, 1)) (k : X E y cc nL ret tg d nc ns (pc + 1) o (.int (isr a b) :: st) S I L R n K) : X E y cc nL ret tg d nc ns pc o (.int b :: .int a :: st) S I L R n K :=
  X.pass (fun hF hL h => lv_ishr hF.1 hF.2.1 hd h) k
theorem X.iushr {a b : Int32} (hd : decode cc pc = .ok (.iushr, 1)) (k : X E y cc nL ret tg d nc ns (pc + 1) o (.int (ius a b) :: st) S I L R n K) : X E y cc nL ret tg d nc ns pc o (.int b :: .int a :: st) S I L R n K :=
  X.pass (fun hF hL h => lv_iushr hF.1 hF.2.1 hd rfl h) k
theorem X.lshl {a : Int64} {b : Int32} (hd : decode cc pc = .ok (.lshl, 1)) (k : X E y cc nL ret tg d nc ns (pc + 1) o (.long (lsl a b) :: st) S I L R n K) : X E y cc nL ret tg d nc ns pc o (.int b :: .long a :: st) S I L R n K :=
  X.pass (fun hF hL h => lv_lshl hF.1 hF.2.1 hd rfl h) k
theorem X.lshr {a : Int64} {b : Int32} (hd : decode cc pc = .ok (.lshr, 1)) (k : X E y cc nL ret tg d nc ns (pc + 1) o (.long (lsr a b) :: st) S I L R n K) : X E y cc nL ret tg d nc ns pc o (.int b :: .long a :: st) S I L R n K :=
  X.pass (fun hF hL h => lv_lshr hF.1 hF.2.1 hd rfl h) k
theorem X.lushr {a : Int64} {b : Int32} (hd : decode cc pc = .ok (.lushr, 1)) (k : X E y cc nL ret tg d nc ns (pc + 1) o (.long (lus a b) :: st) S I L R n K) : X E y cc nL ret tg d nc ns pc o (.int b :: .long a :: st) S I L R n K :=
  X.pass (fun hF hL h => lv_lushr hF.1 hF.2.1 hd rfl h) k
theorem X.idiv {a b : Int32} (hne : ¬ b = 0) (hd : decode cc pc = .ok (.idiv, 1)) (k : X E y cc nL ret tg d nc ns (pc + 1) o (.int (a / b) :: st) S I L R n K) : X E y cc nL ret tg d nc ns pc o (.int b :: .int a :: st) S I L R n K :=
  X.pass (fun hF hL h => lv_idiv hF.1 hF.2.1 hd hne h) k
theorem X.irem {a b : Int32} (hne : ¬ b = 0) (hd : decode cc pc = .ok (.irem, 1)) (k : X E y cc nL ret tg d nc ns (pc + 1) o (.int (irm a b) :: st) S I L R n K) : X E y cc nL ret tg d nc ns pc o (.int b :: .int a :: st) S I L R n K :=
  X.pass (fun hF hL h => lv_irem hF.1 hF.2.1 hd hne h) k
theorem X.ldiv {a b : Int64} (hne : ¬ b = 0) (hd : decode cc pc = .ok (.ldiv, 1)) (k : X E y cc nL ret tg d nc ns (pc + 1) o (.long (a / b) :: st) S I L R n K) : X E y cc nL ret tg d nc ns pc o (.long b :: .long a :: st) S I L R n K :=
  X.pass (fun hF hL h => lv_ldiv hF.1 hF.2.1 hd hne h) k
theorem X.lrem {a b : Int64} (hne : ¬ b = 0) (hd : decode cc pc = .ok (.lrem, 1)) (k : X E y cc nL ret tg d nc ns (pc + 1) o (.long (lrm a b) :: st) S I L R n K) : X E y cc nL ret tg d nc ns pc o (.long b :: .long a :: st) S I L R n K :=
  X.pass (fun hF hL h => lv_lrem hF.1 hF.2.1 hd hne h) k
theorem X.ineg {a : Int32} (hd : decode cc pc = .ok (.ineg, 1)) (k : X E y cc nL ret tg d nc ns (pc + 1) o (.int (-a) :: st) S I L R n K) : X E y cc nL ret tg d nc ns pc o (.int a :: st) S I L R n K :=
  X.pass (fun hF hL h => lv_ineg hF.1 hF.2.1 hd h) k
theorem X.lneg {a : Int64} (hd : decode cc pc = .ok (.lneg, 1)) (k : X E y cc nL ret tg d nc ns (pc + 1) o (.long (-a) :: st) S I L R n K) : X E y cc nL ret tg d nc ns pc o (.long a :: st) S I L R n K :=
  X.pass (fun hF hL h => lv_lneg hF.1 hF.2.1 hd h) k
theorem X.i2l {a : Int32} (hd : decode cc pc = .ok (.i2l, 1)) (k : X E y cc nL ret tg d nc ns (pc + 1) o (.long a.toInt64 :: st) S I L R n K) : X E y cc nL ret tg d nc ns pc o (.int a :: st) S I L R n K :=
  X.pass (fun hF hL h => lv_i2l hF.1 hF.2.1 hd rfl h) k
theorem X.l2i {a : Int64} (hd : decode cc pc = .ok (.l2i, 1)) (k : X E y cc nL ret tg d nc ns (pc + 1) o (.int a.toInt32 :: st) S I L R n K) : X E y cc nL ret tg d nc ns pc o (.long a :: st) S I L R n K :=
  X.pass (fun hF hL h => lv_l2i hF.1 hF.2.1 hd rfl h) k
theorem X.lcmp {a b : Int64} (hd : decode cc pc = .ok (.lcmp, 1)) (k : X E y cc nL ret tg d nc ns (pc + 1) o (.int (lg_cmp a b) :: st) S I L R n K) : X E y cc nL ret tg d nc ns pc o (.long b :: .long a :: st) S I L R n K :=
  X.pass (fun hF hL h => W.lcmp hF.1 hF.2.1 hd h) k
theorem X.dup {a : Int32} (hd : decode cc pc = .ok (.dup, 1)) (k : X E y cc nL ret tg d nc ns (pc + 1) o (.int a :: .int a :: st) S I L R n K) : X E y cc nL ret tg d nc ns pc o (.int a :: st) S I L R n K :=
  X.pass (fun hF hL h => lv_dup hF.1 hF.2.1 hd rfl h) k
theorem X.pop {a : Int32} (hd : decode cc pc = .ok (.pop, 1)) (k : X E y cc nL ret tg d nc ns (pc + 1) o (st) S I L R n K) : X E y cc nL ret tg d nc ns pc o (.int a :: st) S I L R n K :=
  X.pass (fun hF hL h => lv_pop hF.1 hF.2.1 hd rfl h) k
theorem X.dupr {a : Nat} (hd : decode cc pc = .ok (.dup, 1)) (k : X E y cc nL ret tg d nc ns (pc + 1) o (.ref a :: .ref a :: st) S I L R n K) : X E y cc nL ret tg d nc ns pc o (.ref a :: st) S I L R n K :=
  X.pass (fun hF hL h => lv_dup hF.1 hF.2.1 hd rfl h) k
theorem X.popr {a : Nat} (hd : decode cc pc = .ok (.pop, 1)) (k : X E y cc nL ret tg d nc ns (pc + 1) o (st) S I L R n K) : X E y cc nL ret tg d nc ns pc o (.ref a :: st) S I L R n K :=
  X.pass (fun hF hL h => lv_pop hF.1 hF.2.1 hd rfl h) k
theorem X.dup2ir {a : Int32} {b : Nat} (hd : decode cc pc = .ok (.dup2, 1)) (k : X E y cc nL ret tg d nc ns (pc + 1) o (.int a :: .ref b :: .int a :: .ref b :: st) S I L R n K) : X E y cc nL ret tg d nc ns pc o (.int a :: .ref b :: st) S I L R n K :=
  X.pass (fun hF hL h => lv_dup2_11 hF.1 hF.2.1 hd rfl rfl h) k
theorem X.pop2l {a : Int64} (hd : decode cc pc = .ok (.pop2, 1)) (k : X E y cc nL ret tg d nc ns (pc + 1) o (st) S I L R n K) : X E y cc nL ret tg d nc ns pc o (.long a :: st) S I L R n K :=
  X.pass (fun hF hL h => lv_pop2_2 hF.1 hF.2.1 hd rfl h) k
theorem X.icmp_eq {a b : Int32} {off : Int} {tgt : Nat} (ht : (pc : Int) + off = (tgt : Int)) (hd : decode cc pc = .ok (.if_icmp .eq off, 3)) (kt : a = b → X E y cc nL ret tg d nc ns tgt o st S I L R n K) (kf : ¬ (a = b) → X E y cc nL ret tg d nc ns (pc + 3) o st S I L R n K) : X E y cc nL ret tg d nc ns pc o (.int b :: .int a :: st) S I L R n K :=
  fun p e Rm s m args below meth c Zs H locs cells slots ls hF h1 h2 hZ hW hS hc hs hL => lv_icmp_eq hF.1 hF.2.1 hd ht (fun q => kt q p e Rm s m args below meth c Zs H locs cells slots ls hF h1 h2 hZ hW hS hc hs hL) (fun q => kf q p e Rm s m args below meth c Zs H locs cells slots ls hF h1 h2 hZ hW hS hc hs hL)
theorem X.if_eq {a : Int32} {off : Int} {tgt : Nat} (ht : (pc : Int) + off = (tgt : Int)) (hd : decode cc pc = .ok (.ifCond .eq off, 3)) (kt : a = 0 → X E y cc nL ret tg d nc ns tgt o st S I L R n K) (kf : ¬ (a = 0) → X E y cc nL ret tg d nc ns (pc + 3) o st S I L R n K) : X E y cc nL ret tg d nc ns pc o (.int a :: st) S I L R n K :=
  fun p e Rm s m args below meth c Zs H locs cells slots ls hF h1 h2 hZ hW hS hc hs hL => lv_if_eq hF.1 hF.2.1 hd ht (fun q => kt q p e Rm s m args below meth c Zs H locs cells slots ls hF h1 h2 hZ hW hS hc hs hL) (fun q => kf q p e Rm s m args below meth c Zs H locs cells slots ls hF h1 h2 hZ hW hS hc hs hL)
theorem X.icmp_ne {a b : Int32} {off : Int} {tgt : Nat} (ht : (pc : Int) + off = (tgt : Int)) (hd : decode cc pc = .ok (.if_icmp .ne off, 3)) (kt : ¬ a = b → X E y cc nL ret tg d nc ns tgt o st S I L R n K) (kf : a = b → X E y cc nL ret tg d nc ns (pc + 3) o st S I L R n K) : X E y cc nL ret tg d nc ns pc o (.int b :: .int a :: st) S I L R n K :=
  fun p e Rm s m args below meth c Zs H locs cells slots ls hF h1 h2 hZ hW hS hc hs hL => lv_icmp_ne hF.1 hF.2.1 hd ht (fun q => kt q p e Rm s m args below meth c Zs H locs cells slots ls hF h1 h2 hZ hW hS hc hs hL) (fun q => kf q p e Rm s m args below meth c Zs H locs cells slots ls hF h1 h2 hZ hW hS hc hs hL)
theorem X.if_ne {a : Int32} {off : Int} {tgt : Nat} (ht : (pc : Int) + off = (tgt : Int)) (hd : decode cc pc = .ok (.ifCond .ne off, 3)) (kt : ¬ a = 0 → X E y cc nL ret tg d nc ns tgt o st S I L R n K) (kf : a = 0 → X E y cc nL ret tg d nc ns (pc + 3) o st S I L R n K) : X E y cc nL ret tg d nc ns pc o (.int a :: st) S I L R n K :=
  fun p e Rm s m args below meth c Zs H locs cells slots ls hF h1 h2 hZ hW hS hc hs hL => lv_if_ne hF.1 hF.2.1 hd ht (fun q => kt q p e Rm s m args below meth c Zs H locs cells slots ls hF h1 h2 hZ hW hS hc hs hL) (fun q => kf q p e Rm s m args below meth c Zs H locs cells slots ls hF h1 h2 hZ hW hS hc hs hL)
theorem X.icmp_lt {a b : Int32} {off : Int} {tgt : Nat} (ht : (pc : Int) + off = (tgt : Int)) (hd : decode cc pc = .ok (.if_icmp .lt off, 3)) (kt : a < b → X E y cc nL ret tg d nc ns tgt o st S I L R n K) (kf : ¬ (a < b) → X E y cc nL ret tg d nc ns (pc + 3) o st S I L R n K) : X E y cc nL ret tg d nc ns pc o (.int b :: .int a :: st) S I L R n K :=
  fun p e Rm s m args below meth c Zs H locs cells slots ls hF h1 h2 hZ hW hS hc hs hL => lv_icmp_lt hF.1 hF.2.1 hd ht (fun q => kt q p e Rm s m args below meth c Zs H locs cells slots ls hF h1 h2 hZ hW hS hc hs hL) (fun q => kf q p e Rm s m args below meth c Zs H locs cells slots ls hF h1 h2 hZ hW hS hc hs hL)
theorem X.if_lt {a : Int32} {off : Int} {tgt : Nat} (ht : (pc : Int) + off = (tgt : Int)) (hd : decode cc pc = .ok (.ifCond .lt off, 3)) (kt : a < 0 → X E y cc nL ret tg d nc ns tgt o st S I L R n K) (kf : ¬ (a < 0) → X E y cc nL ret tg d nc ns (pc + 3) o st S I L R n K) : X E y cc nL ret tg d nc ns pc o (.int a :: st) S I L R n K :=
  fun p e Rm s m args below meth c Zs H locs cells slots ls hF h1 h2 hZ hW hS hc hs hL => lv_if_lt hF.1 hF.2.1 hd ht (fun q => kt q p e Rm s m args below meth c Zs H locs cells slots ls hF h1 h2 hZ hW hS hc hs hL) (fun q => kf q p e Rm s m args below meth c Zs H locs cells slots ls hF h1 h2 hZ hW hS hc hs hL)
theorem X.icmp_ge {a b : Int32} {off : Int} {tgt : Nat} (ht : (pc : Int) + off = (tgt : Int)) (hd : decode cc pc = .ok (.if_icmp .ge off, 3)) (kt : b ≤ a → X E y cc nL ret tg d nc ns tgt o st S I L R n K) (kf : ¬ (b ≤ a) → X E y cc nL ret tg d nc ns (pc + 3) o st S I L R n K) : X E y cc nL ret tg d nc ns pc o (.int b :: .int a :: st) S I L R n K :=
  fun p e Rm s m args below meth c Zs H locs cells slots ls hF h1 h2 hZ hW hS hc hs hL => lv_icmp_ge hF.1 hF.2.1 hd ht (fun q => kt q p e Rm s m args below meth c Zs H locs cells slots ls hF h1 h2 hZ hW hS hc hs hL) (fun q => kf q p e Rm s m args below meth c Zs H locs cells slots ls hF h1 h2 hZ hW hS hc hs hL)
theorem X.if_ge {a : Int32} {off : Int} {tgt : Nat} (ht : (pc : Int) + off = (tgt : Int)) (hd : decode cc pc = .ok (.ifCond .ge off, 3)) (kt : 0 ≤ a → X E y cc nL ret tg d nc ns tgt o st S I L R n K) (kf : ¬ (0 ≤ a) → X E y cc nL ret tg d nc ns (pc + 3) o st S I L R n K) : X E y cc nL ret tg d nc ns pc o (.int a :: st) S I L R n K :=
  fun p e Rm s m args below meth c Zs H locs cells slots ls hF h1 h2 hZ hW hS hc hs hL => lv_if_ge hF.1 hF.2.1 hd ht (fun q => kt q p e Rm s m args below meth c Zs H locs cells slots ls hF h1 h2 hZ hW hS hc hs hL) (fun q => kf q p e Rm s m args below meth c Zs H locs cells slots ls hF h1 h2 hZ hW hS hc hs hL)
theorem X.icmp_gt {a b : Int32} {off : Int} {tgt : Nat} (ht : (pc : Int) + off = (tgt : Int)) (hd : decode cc pc = .ok (.if_icmp .gt off, 3)) (kt : b < a → X E y cc nL ret tg d nc ns tgt o st S I L R n K) (kf : ¬ (b < a) → X E y cc nL ret tg d nc ns (pc + 3) o st S I L R n K) : X E y cc nL ret tg d nc ns pc o (.int b :: .int a :: st) S I L R n K :=
  fun p e Rm s m args below meth c Zs H locs cells slots ls hF h1 h2 hZ hW hS hc hs hL => lv_icmp_gt hF.1 hF.2.1 hd ht (fun q => kt q p e Rm s m args below meth c Zs H locs cells slots ls hF h1 h2 hZ hW hS hc hs hL) (fun q => kf q p e Rm s m args below meth c Zs H locs cells slots ls hF h1 h2 hZ hW hS hc hs hL)
theorem X.if_gt {a : Int32} {off : Int} {tgt : Nat} (ht : (pc : Int) + off = (tgt : Int)) (hd : decode cc pc = .ok (.ifCond .gt off, 3)) (kt : 0 < a → X E y cc nL ret tg d nc ns tgt o st S I L R n K) (kf : ¬ (0 < a) → X E y cc nL ret tg d nc ns (pc + 3) o st S I L R n K) : X E y cc nL ret tg d nc ns pc o (.int a :: st) S I L R n K :=
  fun p e Rm s m args below meth c Zs H locs cells slots ls hF h1 h2 hZ hW hS hc hs hL => lv_if_gt hF.1 hF.2.1 hd ht (fun q => kt q p e Rm s m args below meth c Zs H locs cells slots ls hF h1 h2 hZ hW hS hc hs hL) (fun q => kf q p e Rm s m args below meth c Zs H locs cells slots ls hF h1 h2 hZ hW hS hc hs hL)
theorem X.icmp_le {a b : Int32} {off : Int} {tgt : Nat} (ht : (pc : Int) + off = (tgt : Int)) (hd : decode cc pc = .ok (.if_icmp .le off, 3)) (kt : a ≤ b → X E y cc nL ret tg d nc ns tgt o st S I L R n K) (kf : ¬ (a ≤ b) → X E y cc nL ret tg d nc ns (pc + 3) o st S I L R n K) : X E y cc nL ret tg d nc ns pc o (.int b :: .int a :: st) S I L R n K :=
  fun p e Rm s m args below meth c Zs H locs cells slots ls hF h1 h2 hZ hW hS hc hs hL => lv_icmp_le hF.1 hF.2.1 hd ht (fun q => kt q p e Rm s m args below meth c Zs H locs cells slots ls hF h1 h2 hZ hW hS hc hs hL) (fun q => kf q p e Rm s m args below meth c Zs H locs cells slots ls hF h1 h2 hZ hW hS hc hs hL)
theorem X.if_le {a : Int32} {off : Int} {tgt : Nat} (ht : (pc : Int) + off = (tgt : Int)) (hd : decode cc pc = .ok (.ifCond .le off, 3)) (kt : a ≤ 0 → X E y cc nL ret tg d nc ns tgt o st S I L R n K) (kf : ¬ (a ≤ 0) → X E y cc nL ret tg d nc ns (pc + 3) o st S I L R n K) : X E y cc nL ret tg d nc ns pc o (.int a :: st) S I L R n K :=
  fun p e Rm s m args below meth c Zs H locs cells slots ls hF h1 h2 hZ hW hS hc hs hL => lv_if_le hF.1 hF.2.1 hd ht (fun q => kt q p e Rm s m args below meth c Zs H locs cells slots ls hF h1 h2 hZ hW hS hc hs hL) (fun q => kf q p e Rm s m args below meth c Zs H locs cells slots ls hF h1 h2 hZ hW hS hc hs hL)
theorem X.iload_0 {tl : List (Option Value)} {x : Int32} (hd : decode cc pc = .ok (.iload_n (0 : Fin 4), 1)) (k : X E y cc nL ret tg d nc ns (pc + 1) (some (.int x) :: tl) (.int x :: st) S I L R n K) : X E y cc nL ret tg d nc ns pc (some (.int x) :: tl) st S I L R n K :=
  X.pass (fun hF hL h => lv_iload_n hF.1 hF.2.1 hd rfl (hL.at (i := 0) rfl) h) k
theorem X.istore_0 {ox : Option Value} {tl : List (Option Value)} {x : Int32} (hd : decode cc pc = .ok (.istore_n (0 : Fin 4), 1)) (hn : 0 < nL) (k : X E y cc nL ret tg d nc ns (pc + 1) (some (.int x) :: tl) st S I L R n K) : X E y cc nL ret tg d nc ns pc (ox :: tl) (.int x :: st) S I L R n K :=
  X.passL (fun hF hL h => lv_istore_n hF.1 hF.2.1 hd rfl hL hn rfl (fun ls' hl => h ls' (LH.st1 (Or.inl rfl) hl))) k
theorem X.lload_0 {tl : List (Option Value)} {x : Int64} (hd : decode cc pc = .ok (.lload_n (0 : Fin 4), 1)) (k : X E y cc nL ret tg d nc ns (pc + 1) (some (.long x) :: tl) (.long x :: st) S I L R n K) : X E y cc nL ret tg d nc ns pc (some (.long x) :: tl) st S I L R n K :=
  X.pass (fun hF hL h => lv_lload_n hF.1 hF.2.1 hd rfl (hL.at (i := 0) rfl) h) k
theorem X.lstore_0 {ox oy : Option Value} {tl : List (Option Value)} {x : Int64} (hd : decode cc pc = .ok (.lstore_n (0 : Fin 4), 1)) (hn : 1 < nL) (k : X E y cc nL ret tg d nc ns (pc + 1) (some (.long x) :: none :: tl) st S I L R n K) : X E y cc nL ret tg d nc ns pc (ox :: oy :: tl) (.long x :: st) S I L R n K :=
  X.passL (fun hF hL h => lv_lstore_n hF.1 hF.2.1 hd rfl hL hn rfl (fun ls' hl => h ls' (LH.st2 (Or.inl rfl) hl))) k
theorem X.aload_0 {tl : List (Option Value)} {x : Nat} (hd : decode cc pc = .ok (.aload_n (0 : Fin 4), 1)) (k : X E y cc nL ret tg d nc ns (pc + 1) (some (.ref x) :: tl) (.ref x :: st) S I L R n K) : X E y cc nL ret tg d nc ns pc (some (.ref x) :: tl) st S I L R n K :=
  X.pass (fun hF hL h => lv_aload_n hF.1 hF.2.1 hd rfl (hL.at (i := 0) rfl) h) k
theorem X.astore_0 {ox : Option Value} {tl : List (Option Value)} {x : Nat} (hd : decode cc pc = .ok (.astore_n (0 : Fin 4), 1)) (hn : 0 < nL) (k : X E y cc nL ret tg d nc ns (pc + 1) (some (.ref x) :: tl) st S I L R n K) : X E y cc nL ret tg d nc ns pc (ox :: tl) (.ref x :: st) S I L R n K :=
  X.passL (fun hF hL h => lv_astore_n hF.1 hF.2.1 hd rfl hL hn rfl (fun ls' hl => h ls' (LH.st1 (Or.inl rfl) hl))) k
theorem X.iinc_0 {tl : List (Option Value)} {x v : Int32} {z : Int} (hv : Int32.ofInt z = v) (hd : decode cc pc = .ok (.iinc 0 z, 3)) (hn : 0 < nL) (k : X E y cc nL ret tg d nc ns (pc + 3) (some (.int (x + v)) :: tl) st S I L R n K) : X E y cc nL ret tg d nc ns pc (some (.int x) :: tl) st S I L R n K := by
  subst hv
  refine X.passL (fun hF hL h => ?_) k
  obtain ⟨kk, hkk⟩ := List.getElem?_of_mem ((asl_mem _ 0 (0, Value.int x)).mpr ⟨0, rfl, rfl⟩ : (0, Value.int x) ∈ asl (some (.int x) :: tl) 0)
  exact lv_iinc hF.1 hF.2.1 hd hL hkk rfl hn rfl (fun ls' hl => h ls' (LH.st1 (Or.inl rfl) hl))
theorem X.iload_1 {o0 : Option Value} {tl : List (Option Value)} {x : Int32} (hd : decode cc pc = .ok (.iload_n (1 : Fin 4), 1)) (k : X E y cc nL ret tg d nc ns (pc + 1) (o0 :: some (.int x) :: tl) (.int x :: st) S I L R n K) : X E y cc nL ret tg d nc ns pc (o0 :: some (.int x) :: tl) st S I L R n K :=
  X.pass (fun hF hL h => lv_iload_n hF.1 hF.2.1 hd rfl (hL.at (i := 1) rfl) h) k
theorem X.istore_1 {o0 ox : Option Value} {tl : List (Option Value)} {x : Int32} (hd : decode cc pc = .ok (.istore_n (1 : Fin 4), 1)) (hn : 1 < nL) (hg : nlg (some o0) = true) (k : X E y cc nL ret tg d nc ns (pc + 1) (o0 :: some (.int x) :: tl) st S I L R n K) : X E y cc nL ret tg d nc ns pc (o0 :: ox :: tl) (.int x :: st) S I L R n K :=
  X.passL (fun hF hL h => lv_istore_n hF.1 hF.2.1 hd rfl hL hn rfl (fun ls' hl => h ls' (LH.st1 (Or.inr hg) hl))) k
theorem X.lload_1 {o0 : Option Value} {tl : List (Option Value)} {x : Int64} (hd : decode cc pc = .ok (.lload_n (1 : Fin 4), 1)) (k : X E y cc nL ret tg d nc ns (pc + 1) (o0 :: some (.long x) :: tl) (.long x :: st) S I L R n K) : X E y cc nL ret tg d nc ns pc (o0 :: some (.long x) :: tl) st S I L R n K :=
  X.pass (fun hF hL h => lv_lload_n hF.1 hF.2.1 hd rfl (hL.at (i := 1) rfl) h) k
theorem X.lstore_1 {o0 ox oy : Option Value} {tl : List (Option Value)} {x : Int64} (hd : decode cc pc = .ok (.lstore_n (1 : Fin 4), 1)) (hn : 2 < nL) (hg : nlg (some o0) = true) (k : X E y cc nL ret tg d nc ns (pc + 1) (o0 :: some (.long x) :: none :: tl) st S I L R n K) : X E y cc nL ret tg d nc ns pc (o0 :: ox :: oy :: tl) (.long x :: st) S I L R n K :=
  X.passL (fun hF hL h => lv_lstore_n hF.1 hF.2.1 hd rfl hL hn rfl (fun ls' hl => h ls' (LH.st2 (Or.inr hg) hl))) k
theorem X.aload_1 {o0 : Option Value} {tl : List (Option Value)} {x : Nat} (hd : decode cc pc = .ok (.aload_n (1 : Fin 4), 1)) (k : X E y cc nL ret tg d nc ns (pc + 1) (o0 :: some (.ref x) :: tl) (.ref x :: st) S I L R n K) : X E y cc nL ret tg d nc ns pc (o0 :: some (.ref x) :: tl) st S I L R n K :=
  X.pass (fun hF hL h => lv_aload_n hF.1 hF.2.1 hd rfl (hL.at (i := 1) rfl) h) k
theorem X.astore_1 {o0 ox : Option Value} {tl : List (Option Value)} {x : Nat} (hd : decode cc pc = .ok (.astore_n (1 : Fin 4), 1)) (hn : 1 < nL) (hg : nlg (some o0) = true) (k : X E y cc nL ret tg d nc ns (pc + 1) (o0 :: some (.ref x) :: tl) st S I L R n K) : X E y cc nL ret tg d nc ns pc (o0 :: ox :: tl) (.ref x :: st) S I L R n K :=
  X.passL (fun hF hL h => lv_astore_n hF.1 hF.2.1 hd rfl hL hn rfl (fun ls' hl => h ls' (LH.st1 (Or.inr hg) hl))) k
theorem X.iinc_1 {o0 : Option Value} {tl : List (Option Value)} {x v : Int32} {z : Int} (hv : Int32.ofInt z = v) (hd : decode cc pc = .ok (.iinc 1 z, 3)) (hn : 1 < nL) (hg : nlg (some o0) = true) (k : X E y cc nL ret tg d nc ns (pc + 3) (o0 :: some (.int (x + v)) :: tl) st S I L R n K) : X E y cc nL ret tg d nc ns pc (o0 :: some (.int x) :: tl) st S I L R n K := by
  subst hv
  refine X.passL (fun hF hL h => ?_) k
  obtain ⟨kk, hkk⟩ := List.getElem?_of_mem ((asl_mem _ 0 (1, Value.int x)).mpr ⟨1, rfl, rfl⟩ : (1, Value.int x) ∈ asl (o0 :: some (.int x) :: tl) 0)
  exact lv_iinc hF.1 hF.2.1 hd hL hkk rfl hn rfl (fun ls' hl => h ls' (LH.st1 (Or.inr hg) hl))
theorem X.iload_2 {o0 o1 : Option Value} {tl : List (Option Value)} {x : Int32} (hd : decode cc pc = .ok (.iload_n (2 : Fin 4), 1)) (k : X E y cc nL ret tg d nc ns (pc + 1) (o0 :: o1 :: some (.int x) :: tl) (.int x :: st) S I L R n K) : X E y cc nL ret tg d nc ns pc (o0 :: o1 :: some (.int x) :: tl) st S I L R n K :=
  X.pass (fun hF hL h => lv_iload_n hF.1 hF.2.1 hd rfl (hL.at (i := 2) rfl) h) k
theorem X.istore_2 {o0 o1 ox : Option Value} {tl : List (Option Value)} {x : Int32} (hd : decode cc pc = .ok (.istore_n (2 : Fin 4), 1)) (hn : 2 < nL) (hg : nlg (some o1) = true) (k : X E y cc nL ret tg d nc ns (pc + 1) (o0 :: o1 :: some (.int x) :: tl) st S I L R n K) : X E y cc nL ret tg d nc ns pc (o0 :: o1 :: ox :: tl) (.int x :: st) S I L R n K :=
  X.passL (fun hF hL h => lv_istore_n hF.1 hF.2.1 hd rfl hL hn rfl (fun ls' hl => h ls' (LH.st1 (Or.inr hg) hl))) k
theorem X.lload_2 {o0 o1 : Option Value} {tl : List (Option Value)} {x : Int64} (hd : decode cc pc = .ok (.lload_n (2 : Fin 4), 1)) (k : X E y cc nL ret tg d nc ns (pc + 1) (o0 :: o1 :: some (.long x) :: tl) (.long x :: st) S I L R n K) : X E y cc nL ret tg d nc ns pc (o0 :: o1 :: some (.long x) :: tl) st S I L R n K :=
  X.pass (fun hF hL h => lv_lload_n hF.1 hF.2.1 hd rfl (hL.at (i := 2) rfl) h) k
theorem X.lstore_2 {o0 o1 ox oy : Option Value} {tl : List (Option Value)} {x : Int64} (hd : decode cc pc = .ok (.lstore_n (2 : Fin 4), 1)) (hn : 3 < nL) (hg : nlg (some o1) = true) (k : X E y cc nL ret tg d nc ns (pc + 1) (o0 :: o1 :: some (.long x) :: none :: tl) st S I L R n K) : X E y cc nL ret tg d nc ns pc (o0 :: o1 :: ox :: oy :: tl) (.long x :: st) S I L R n K :=
  X.passL (fun hF hL h => lv_lstore_n hF.1 hF.2.1 hd rfl hL hn rfl (fun ls' hl => h ls' (LH.st2 (Or.inr hg) hl))) k
theorem X.aload_2 {o0 o1 : Option Value} {tl : List (Option Value)} {x : Nat} (hd : decode cc pc = .ok (.aload_n (2 : Fin 4), 1)) (k : X E y cc nL ret tg d nc ns (pc + 1) (o0 :: o1 :: some (.ref x) :: tl) (.ref x :: st) S I L R n K) : X E y cc nL ret tg d nc ns pc (o0 :: o1 :: some (.ref x) :: tl) st S I L R n K :=
  X.pass (fun hF hL h => lv_aload_n hF.1 hF.2.1 hd rfl (hL.at (i := 2) rfl) h) k
theorem X.astore_2 {o0 o1 ox : Option Value} {tl : List (Option Value)} {x : Nat} (hd : decode cc pc = .ok (.astore_n (2 : Fin 4), 1)) (hn : 2 < nL) (hg : nlg (some o1) = true) (k : X E y cc nL ret tg d nc ns (pc + 1) (o0 :: o1 :: some (.ref x) :: tl) st S I L R n K) : X E y cc nL ret tg d nc ns pc (o0 :: o1 :: ox :: tl) (.ref x :: st) S I L R n K :=
  X.passL (fun hF hL h => lv_astore_n hF.1 hF.2.1 hd rfl hL hn rfl (fun ls' hl => h ls' (LH.st1 (Or.inr hg) hl))) k
theorem X.iinc_2 {o0 o1 : Option Value} {tl : List (Option Value)} {x v : Int32} {z : Int} (hv : Int32.ofInt z = v) (hd : decode cc pc = .ok (.iinc 2 z, 3)) (hn : 2 < nL) (hg : nlg (some o1) = true) (k : X E y cc nL ret tg d nc ns (pc + 3) (o0 :: o1 :: some (.int (x + v)) :: tl) st S I L R n K) : X E y cc nL ret tg d nc ns pc (o0 :: o1 :: some (.int x) :: tl) st S I L R n K := by
  subst hv
  refine X.passL (fun hF hL h => ?_) k
  obtain ⟨kk, hkk⟩ := List.getElem?_of_mem ((asl_mem _ 0 (2, Value.int x)).mpr ⟨2, rfl, rfl⟩ : (2, Value.int x) ∈ asl (o0 :: o1 :: some (.int x) :: tl) 0)
  exact lv_iinc hF.1 hF.2.1 hd hL hkk rfl hn rfl (fun ls' hl => h ls' (LH.st1 (Or.inr hg) hl))
theorem X.iload_3 {o0 o1 o2 : Option Value} {tl : List (Option Value)} {x : Int32} (hd : decode cc pc = .ok (.iload_n (3 : Fin 4), 1)) (k : X E y cc nL ret tg d nc ns (pc + 1) (o0 :: o1 :: o2 :: some (.int x) :: tl) (.int x :: st) S I L R n K) : X E y cc nL ret tg d nc ns pc (o0 :: o1 :: o2 :: some (.int x) :: tl) st S I L R n K :=
  X.pass (fun hF hL h => lv_iload_n hF.1 hF.2.1 hd rfl (hL.at (i := 3) rfl) h) k
theorem X.istore_3 {o0 o1 o2 ox : Option Value} {tl : List (Option Value)} {x : Int32} (hd : decode cc pc = .ok (.istore_n (3 : Fin 4), 1)) (hn : 3 < nL) (hg : nlg (some o2) = true) (k : X E y cc nL ret tg d nc ns (pc + 1) (o0 :: o1 :: o2 :: some (.int x) :: tl) st S I L R n K) : X E y cc nL ret tg d nc ns pc (o0 :: o1 :: o2 :: ox :: tl) (.int x :: st) S I L R n K :=
  X.passL (fun hF hL h => lv_istore_n hF.1 hF.2.1 hd rfl hL hn rfl (fun ls' hl => h ls' (LH.st1 (Or.inr hg) hl))) k
theorem X.lload_3 {o0 o1 o2 : Option Value} {tl : List (Option Value)} {x : Int64} (hd : decode cc pc = .ok (.lload_n (3 : Fin 4), 1)) (k : X E y cc nL ret tg d nc ns (pc + 1) (o0 :: o1 :: o2 :: some (.long x) :: tl) (.long x :: st) S I L R n K) : X E y cc nL ret tg d nc ns pc (o0 :: o1 :: o2 :: some (.long x) :: tl) st S I L R n K :=
  X.pass (fun hF hL h => lv_lload_n hF.1 hF.2.1 hd rfl (hL.at (i := 3) rfl) h) k
theorem X.lstore_3 {o0 o1 o2 ox oy : Option Value} {tl : List (Option Value)} {x : Int64} (hd : decode cc pc = .ok (.lstore_n (3 : Fin 4), 1)) (hn : 4 < nL) (hg : nlg (some o2) = true) (k : X E y cc nL ret tg d nc ns (pc + 1) (o0 :: o1 :: o2 :: some (.long x) :: none :: tl) st S I L R n K) : X E y cc nL ret tg d nc ns pc (o0 :: o1 :: o2 :: ox :: oy :: tl) (.long x :: st) S I L R n K :=
  X.passL (fun hF hL h => lv_lstore_n hF.1 hF.2.1 hd rfl hL hn rfl (fun ls' hl => h ls' (LH.st2 (Or.inr hg) hl))) k
theorem X.aload_3 {o0 o1 o2 : Option Value} {tl : List (Option Value)} {x : Nat} (hd : decode cc pc = .ok (.aload_n (3 : Fin 4), 1)) (k : X E y cc nL ret tg d nc ns (pc + 1) (o0 :: o1 :: o2 :: some (.ref x) :: tl) (.ref x :: st) S I L R n K) : X E y cc nL ret tg d nc ns pc (o0 :: o1 :: o2 :: some (.ref x) :: tl) st S I L R n K :=
  X.pass (fun hF hL h => lv_aload_n hF.1 hF.2.1 hd rfl (hL.at (i := 3) rfl) h) k
theorem X.astore_3 {o0 o1 o2 ox : Option Value} {tl : List (Option Value)} {x : Nat} (hd : decode cc pc = .ok (.astore_n (3 : Fin 4), 1)) (hn : 3 < nL) (hg : nlg (some o2) = true) (k : X E y cc nL ret tg d nc ns (pc + 1) (o0 :: o1 :: o2 :: some (.ref x) :: tl) st S I L R n K) : X E y cc nL ret tg d nc ns pc (o0 :: o1 :: o2 :: ox :: tl) (.ref x :: st) S I L R n K :=
  X.passL (fun hF hL h => lv_astore_n hF.1 hF.2.1 hd rfl hL hn rfl (fun ls' hl => h ls' (LH.st1 (Or.inr hg) hl))) k
theorem X.iinc_3 {o0 o1 o2 : Option Value} {tl : List (Option Value)} {x v : Int32} {z : Int} (hv : Int32.ofInt z = v) (hd : decode cc pc = .ok (.iinc 3 z, 3)) (hn : 3 < nL) (hg : nlg (some o2) = true) (k : X E y cc nL ret tg d nc ns (pc + 3) (o0 :: o1 :: o2 :: some (.int (x + v)) :: tl) st S I L R n K) : X E y cc nL ret tg d nc ns pc (o0 :: o1 :: o2 :: some (.int x) :: tl) st S I L R n K := by
  subst hv
  refine X.passL (fun hF hL h => ?_) k
  obtain ⟨kk, hkk⟩ := List.getElem?_of_mem ((asl_mem _ 0 (3, Value.int x)).mpr ⟨3, rfl, rfl⟩ : (3, Value.int x) ∈ asl (o0 :: o1 :: o2 :: some (.int x) :: tl) 0)
  exact lv_iinc hF.1 hF.2.1 hd hL hkk rfl hn rfl (fun ls' hl => h ls' (LH.st1 (Or.inr hg) hl))
theorem X.iload_4 {o0 o1 o2 o3 : Option Value} {tl : List (Option Value)} {x : Int32} (hd : decode cc pc = .ok (.iload 4, 2)) (k : X E y cc nL ret tg d nc ns (pc + 2) (o0 :: o1 :: o2 :: o3 :: some (.int x) :: tl) (.int x :: st) S I L R n K) : X E y cc nL ret tg d nc ns pc (o0 :: o1 :: o2 :: o3 :: some (.int x) :: tl) st S I L R n K :=
  X.pass (fun hF hL h => lv_iload hF.1 hF.2.1 hd (hL.at (i := 4) rfl) h) k
theorem X.istore_4 {o0 o1 o2 o3 ox : Option Value} {tl : List (Option Value)} {x : Int32} (hd : decode cc pc = .ok (.istore 4, 2)) (hn : 4 < nL) (hg : nlg (some o3) = true) (k : X E y cc nL ret tg d nc ns (pc + 2) (o0 :: o1 :: o2 :: o3 :: some (.int x) :: tl) st S I L R n K) : X E y cc nL ret tg d nc ns pc (o0 :: o1 :: o2 :: o3 :: ox :: tl) (.int x :: st) S I L R n K :=
  X.passL (fun hF hL h => lv_istore hF.1 hF.2.1 hd hL hn rfl (fun ls' hl => h ls' (LH.st1 (Or.inr hg) hl))) k
theorem X.lload_4 {o0 o1 o2 o3 : Option Value} {tl : List (Option Value)} {x : Int64} (hd : decode cc pc = .ok (.lload 4, 2)) (k : X E y cc nL ret tg d nc ns (pc + 2) (o0 :: o1 :: o2 :: o3 :: some (.long x) :: tl) (.long x :: st) S I L R n K) : X E y cc nL ret tg d nc ns pc (o0 :: o1 :: o2 :: o3 :: some (.long x) :: tl) st S I L R n K :=
  X.pass (fun hF hL h => lv_lload hF.1 hF.2.1 hd (hL.at (i := 4) rfl) h) k
theorem X.lstore_4 {o0 o1 o2 o3 ox oy : Option Value} {tl : List (Option Value)} {x : Int64} (hd : decode cc pc = .ok (.lstore 4, 2)) (hn : 5 < nL) (hg : nlg (some o3) = true) (k : X E y cc nL ret tg d nc ns (pc + 2) (o0 :: o1 :: o2 :: o3 :: some (.long x) :: none :: tl) st S I L R n K) : X E y cc nL ret tg d nc ns pc (o0 :: o1 :: o2 :: o3 :: ox :: oy :: tl) (.long x :: st) S I L R n K :=
  X.passL (fun hF hL h => lv_lstore hF.1 hF.2.1 hd hL hn rfl (fun ls' hl => h ls' (LH.st2 (Or.inr hg) hl))) k
theorem X.aload_4 {o0 o1 o2 o3 : Option Value} {tl : List (Option Value)} {x : Nat} (hd : decode cc pc = .ok (.aload 4, 2)) (k : X E y cc nL ret tg d nc ns (pc + 2) (o0 :: o1 :: o2 :: o3 :: some (.ref x) :: tl) (.ref x :: st) S I L R n K) : X E y cc nL ret tg d nc ns pc (o0 :: o1 :: o2 :: o3 :: some (.ref x) :: tl) st S I L R n K :=
  X.pass (fun hF hL h => lv_aload hF.1 hF.2.1 hd (hL.at (i := 4) rfl) h) k
theorem X.astore_4 {o0 o1 o2 o3 ox : Option Value} {tl : List (Option Value)} {x : Nat} (hd : decode cc pc = .ok (.astore 4, 2)) (hn : 4 < nL) (hg : nlg (some o3) = true) (k : X E y cc nL ret tg d nc ns (pc + 2) (o0 :: o1 :: o2 :: o3 :: some (.ref x) :: tl) st S I L R n K) : X E y cc nL ret tg d nc ns pc (o0 :: o1 :: o2 :: o3 :: ox :: tl) (.ref x :: st) S I L R n K :=
  X.passL (fun hF hL h => lv_astore hF.1 hF.2.1 hd hL hn rfl (fun ls' hl => h ls' (LH.st1 (Or.inr hg) hl))) k
theorem X.iinc_4 {o0 o1 o2 o3 : Option Value} {tl : List (Option Value)} {x v : Int32} {z : Int} (hv : Int32.ofInt z = v) (hd : decode cc pc = .ok (.iinc 4 z, 3)) (hn : 4 < nL) (hg : nlg (some o3) = true) (k : X E y cc nL ret tg d nc ns (pc + 3) (o0 :: o1 :: o2 :: o3 :: some (.int (x + v)) :: tl) st S I L R n K) : X E y cc nL ret tg d nc ns pc (o0 :: o1 :: o2 :: o3 :: some (.int x) :: tl) st S I L R n K := by
  subst hv
  refine X.passL (fun hF hL h => ?_) k
  obtain ⟨kk, hkk⟩ := List.getElem?_of_mem ((asl_mem _ 0 (4, Value.int x)).mpr ⟨4, rfl, rfl⟩ : (4, Value.int x) ∈ asl (o0 :: o1 :: o2 :: o3 :: some (.int x) :: tl) 0)
  exact lv_iinc hF.1 hF.2.1 hd hL hkk rfl hn rfl (fun ls' hl => h ls' (LH.st1 (Or.inr hg) hl))
theorem X.iload_5 {o0 o1 o2 o3 o4 : Option Value} {tl : List (Option Value)} {x : Int32} (hd : decode cc pc = .ok (.iload 5, 2)) (k : X E y cc nL ret tg d nc ns (pc + 2) (o0 :: o1 :: o2 :: o3 :: o4 :: some (.int x) :: tl) (.int x :: st) S I L R n K) : X E y cc nL ret tg d nc ns pc (o0 :: o1 :: o2 :: o3 :: o4 :: some (.int x) :: tl) st S I L R n K :=
  X.pass (fun hF hL h => lv_iload hF.1 hF.2.1 hd (hL.at (i := 5) rfl) h) k
theorem X.istore_5 {o0 o1 o2 o3 o4 ox : Option Value} {tl : List (Option Value)} {x : Int32} (hd : decode cc pc = .ok (.istore 5, 2)) (hn : 5 < nL) (hg : nlg (some o4) = true) (k : X E y cc nL ret tg d nc ns (pc + 2) (o0 :: o1 :: o2 :: o3 :: o4 :: some (.int x) :: tl) st S I L R n K) : X E y cc nL ret tg d nc ns pc (o0 :: o1 :: o2 :: o3 :: o4 :: ox :: tl) (.int x :: st) S I L R n K :=
  X.passL (fun hF hL h => lv_istore hF.1 hF.2.1 hd hL hn rfl (fun ls' hl => h ls' (LH.st1 (Or.inr hg) hl))) k
theorem X.lload_5 {o0 o1 o2 o3 o4 : Option Value} {tl : List (Option Value)} {x : Int64} (hd : decode cc pc = .ok (.lload 5, 2)) (k : X E y cc nL ret tg d nc ns (pc + 2) (o0 :: o1 :: o2 :: o3 :: o4 :: some (.long x) :: tl) (.long x :: st) S I L R n K) : X E y cc nL ret tg d nc ns pc (o0 :: o1 :: o2 :: o3 :: o4 :: some (.long x) :: tl) st S I L R n K :=
  X.pass (fun hF hL h => lv_lload hF.1 hF.2.1 hd (hL.at (i := 5) rfl) h) k
theorem X.lstore_5 {o0 o1 o2 o3 o4 ox oy : Option Value} {tl : List (Option Value)} {x : Int64} (hd : decode cc pc = .ok (.lstore 5, 2)) (hn : 6 < nL) (hg : nlg (some o4) = true) (k : X E y cc nL ret tg d nc ns (pc + 2) (o0 :: o1 :: o2 :: o3 :: o4 :: some (.long x) :: none :: tl) st S I L R n K) : X E y cc nL ret tg d nc ns pc (o0 :: o1 :: o2 :: o3 :: o4 :: ox :: oy :: tl) (.long x :: st) S I L R n K :=
  X.passL (fun hF hL h => lv_lstore hF.1 hF.2.1 hd hL hn rfl (fun ls' hl => h ls' (LH.st2 (Or.inr hg) hl))) k
theorem X.aload_5 {o0 o1 o2 o3 o4 : Option Value} {tl : List (Option Value)} {x : Nat} (hd : decode cc pc = .ok (.aload 5, 2)) (k : X E y cc nL ret tg d nc ns (pc + 2) (o0 :: o1 :: o2 :: o3 :: o4 :: some (.ref x) :: tl) (.ref x :: st) S I L R n K) : X E y cc nL ret tg d nc ns pc (o0 :: o1 :: o2 :: o3 :: o4 :: some (.ref x) :: tl) st S I L R n K :=
  X.pass (fun hF hL h => lv_aload hF.1 hF.2.1 hd (hL.at (i := 5) rfl) h) k
theorem X.astore_5 {o0 o1 o2 o3 o4 ox : Option Value} {tl : List (Option Value)} {x : Nat} (hd : decode cc pc = .ok (.astore 5, 2)) (hn : 5 < nL) (hg : nlg (some o4) = true) (k : X E y cc nL ret tg d nc ns (pc + 2) (o0 :: o1 :: o2 :: o3 :: o4 :: some (.ref x) :: tl) st S I L R n K) : X E y cc nL ret tg d nc ns pc (o0 :: o1 :: o2 :: o3 :: o4 :: ox :: tl) (.ref x :: st) S I L R n K :=
  X.passL (fun hF hL h => lv_astore hF.1 hF.2.1 hd hL hn rfl (fun ls' hl => h ls' (LH.st1 (Or.inr hg) hl))) k
theorem X.iinc_5 {o0 o1 o2 o3 o4 : Option Value} {tl : List (Option Value)} {x v : Int32} {z : Int} (hv : Int32.ofInt z = v) (hd : decode cc pc = .ok (.iinc 5 z, 3)) (hn : 5 < nL) (hg : nlg (some o4) = true) (k : X E y cc nL ret tg d nc ns (pc + 3) (o0 :: o1 :: o2 :: o3 :: o4 :: some (.int (x + v)) :: tl) st S I L R n K) : X E y cc nL ret tg d nc ns pc (o0 :: o1 :: o2 :: o3 :: o4 :: some (.int x) :: tl) st S I L R n K := by
  subst hv
  refine X.passL (fun hF hL h => ?_) k
  obtain ⟨kk, hkk⟩ := List.getElem?_of_mem ((asl_mem _ 0 (5, Value.int x)).mpr ⟨5, rfl, rfl⟩ : (5, Value.int x) ∈ asl (o0 :: o1 :: o2 :: o3 :: o4 :: some (.int x) :: tl) 0)
  exact lv_iinc hF.1 hF.2.1 hd hL hkk rfl hn rfl (fun ls' hl => h ls' (LH.st1 (Or.inr hg) hl))
theorem X.iload_6 {o0 o1 o2 o3 o4 o5 : Option Value} {tl : List (Option Value)} {x : Int32} (hd : decode cc pc = .ok (.iload 6, 2)) (k : X E y cc nL ret tg d nc ns (pc + 2) (o0 :: o1 :: o2 :: o3 :: o4 :: o5 :: some (.int x) :: tl) (.int x :: st) S I L R n K) : X E y cc nL ret tg d nc ns pc (o0 :: o1 :: o2 :: o3 :: o4 :: o5 :: some (.int x) :: tl) st S I L R n K :=
  X.pass (fun hF hL h => lv_iload hF.1 hF.2.1 hd (hL.at (i := 6) rfl) h) k
theorem X.istore_6 {o0 o1 o2 o3 o4 o5 ox : Option Value} {tl : List (Option Value)} {x : Int32} (hd : decode cc pc = .ok (.istore 6, 2)) (hn : 6 < nL) (hg : nlg (some o5) = true) (k : X E y cc nL ret tg d nc ns (pc + 2) (o0 :: o1 :: o2 :: o3 :: o4 :: o5 :: some (.int x) :: tl) st S I L R n K) : X E y cc nL ret tg d nc ns pc (o0 :: o1 :: o2 :: o3 :: o4 :: o5 :: ox :: tl) (.int x :: st) S I L R n K :=
  X.passL (fun hF hL h => lv_istore hF.1 hF.2.1 hd hL hn rfl (fun ls' hl => h ls' (LH.st1 (Or.inr hg) hl))) k
theorem X.lload_6 {o0 o1 o2 o3 o4 o5 : Option Value} {tl : List (Option Value)} {x : Int64} (hd : decode cc pc = .ok (.lload 6, 2)) (k : X E y cc nL ret tg d nc ns (pc + 2) (o0 :: o1 :: o2 :: o3 :: o4 :: o5 :: some (.long x) :: tl) (.long x :: st) S I L R n K) : X E y cc nL ret tg d nc ns pc (o0 :: o1 :: o2 :: o3 :: o4 :: o5 :: some (.long x) :: tl) st S I L R n K :=
  X.pass (fun hF hL h => lv_lload hF.1 hF.2.1 hd (hL.at (i := 6) rfl) h) k
theorem X.lstore_6 {o0 o1 o2 o3 o4 o5 ox oy : Option Value} {tl : List (Option Value)} {x : Int64} (hd : decode cc pc = .ok (.lstore 6, 2)) (hn : 7 < nL) (hg : nlg (some o5) = true) (k : X E y cc nL ret tg d nc ns (pc + 2) (o0 :: o1 :: o2 :: o3 :: o4 :: o5 :: some (.long x) :: none :: tl) st S I L R n K) : X E y cc nL ret tg d nc ns pc (o0 :: o1 :: o2 :: o3 :: o4 :: o5 :: ox :: oy :: tl) (.long x :: st) S I L R n K :=
  X.passL (fun hF hL h => lv_lstore hF.1 hF.2.1 hd hL hn rfl (fun ls' hl => h ls' (LH.st2 (Or.inr hg) hl))) k
theorem X.aload_6 {o0 o1 o2 o3 o4 o5 : Option Value} {tl : List (Option Value)} {x : Nat} (hd : decode cc pc = .ok (.aload 6, 2)) (k : X E y cc nL ret tg d nc ns (pc + 2) (o0 :: o1 :: o2 :: o3 :: o4 :: o5 :: some (.ref x) :: tl) (.ref x :: st) S I L R n K) : X E y cc nL ret tg d nc ns pc (o0 :: o1 :: o2 :: o3 :: o4 :: o5 :: some (.ref x) :: tl) st S I L R n K :=
  X.pass (fun hF hL h => lv_aload hF.1 hF.2.1 hd (hL.at (i := 6) rfl) h) k
theorem X.astore_6 {o0 o1 o2 o3 o4 o5 ox : Option Value} {tl : List (Option Value)} {x : Nat} (hd : decode cc pc = .ok (.astore 6, 2)) (hn : 6 < nL) (hg : nlg (some o5) = true) (k : X E y cc nL ret tg d nc ns (pc + 2) (o0 :: o1 :: o2 :: o3 :: o4 :: o5 :: some (.ref x) :: tl) st S I L R n K) : X E y cc nL ret tg d nc ns pc (o0 :: o1 :: o2 :: o3 :: o4 :: o5 :: ox :: tl) (.ref x :: st) S I L R n K :=
  X.passL (fun hF hL h => lv_astore hF.1 hF.2.1 hd hL hn rfl (fun ls' hl => h ls' (LH.st1 (Or.inr hg) hl))) k
theorem X.iinc_6 {o0 o1 o2 o3 o4 o5 : Option Value} {tl : List (Option Value)} {x v : Int32} {z : Int} (hv : Int32.ofInt z = v) (hd : decode cc pc = .ok (.iinc 6 z, 3)) (hn : 6 < nL) (hg : nlg (some o5) = true) (k : X E y cc nL ret tg d nc ns (pc + 3) (o0 :: o1 :: o2 :: o3 :: o4 :: o5 :: some (.int (x + v)) :: tl) st S I L R n K) : X E y cc nL ret tg d nc ns pc (o0 :: o1 :: o2 :: o3 :: o4 :: o5 :: some (.int x) :: tl) st S I L R n K := by
  subst hv
  refine X.passL (fun hF hL h => ?_) k
  obtain ⟨kk, hkk⟩ := List.getElem?_of_mem ((asl_mem _ 0 (6, Value.int x)).mpr ⟨6, rfl, rfl⟩ : (6, Value.int x) ∈ asl (o0 :: o1 :: o2 :: o3 :: o4 :: o5 :: some (.int x) :: tl) 0)
  exact lv_iinc hF.1 hF.2.1 hd hL hkk rfl hn rfl (fun ls' hl => h ls' (LH.st1 (Or.inr hg) hl))
theorem X.iload_7 {o0 o1 o2 o3 o4 o5 o6 : Option Value} {tl : List (Option Value)} {x : Int32} (hd : decode cc pc = .ok (.iload 7, 2)) (k : X E y cc nL ret tg d nc ns (pc + 2) (o0 :: o1 :: o2 :: o3 :: o4 :: o5 :: o6 :: some (.int x) :: tl) (.int x :: st) S I L R n K) : X E y cc nL ret tg d nc ns pc (o0 :: o1 :: o2 :: o3 :: o4 :: o5 :: o6 :: some (.int x) :: tl) st S I L R n K :=
  X.pass (fun hF hL h => lv_iload hF.1 hF.2.1 hd (hL.at (i := 7) rfl) h) k
theorem X.istore_7 {o0 o1 o2 o3 o4 o5 o6 ox : Option Value} {tl : List (Option Value)} {x : Int32} (hd : decode cc pc = .ok (.istore 7, 2)) (hn : 7 < nL) (hg : nlg (some o6) = true) (k : X E y cc nL ret tg d nc ns (pc + 2) (o0 :: o1 :: o2 :: o3 :: o4 :: o5 :: o6 :: some (.int x) :: tl) st S I L R n K) : X E y cc nL ret tg d nc ns pc (o0 :: o1 :: o2 :: o3 :: o4 :: o5 :: o6 :: ox :: tl) (.int x :: st) S I L R n K :=
  X.passL (fun hF hL h => lv_istore hF.1 hF.2.1 hd hL hn rfl (fun ls' hl => h ls' (LH.st1 (Or.inr hg) hl))) k
theorem X.lload_7 {o0 o1 o2 o3 o4 o5 o6 : Option Value} {tl : List (Option Value)} {x : Int64} (hd : decode cc pc = .ok (.lload 7, 2)) (k : X E y cc nL ret tg d nc ns (pc + 2) (o0 :: o1 :: o2 :: o3 :: o4 :: o5 :: o6 :: some (.long x) :: tl) (.long x :: st) S I L R n K) : X E y cc nL ret tg d nc ns pc (o0 :: o1 :: o2 :: o3 :: o4 :: o5 :: o6 :: some (.long x) :: tl) st S I L R n K :=
  X.pass (fun hF hL h => lv_lload hF.1 hF.2.1 hd (hL.at (i := 7) rfl) h) k
theorem X.lstore_7 {o0 o1 o2 o3 o4 o5 o6 ox oy : Option Value} {tl : List (Option Value)} {x : Int64} (hd : decode cc pc = .ok (.lstore 7, 2)) (hn : 8 < nL) (hg : nlg (some o6) = true) (k : X E y cc nL ret tg d nc ns (pc + 2) (o0 :: o1 :: o2 :: o3 :: o4 :: o5 :: o6 :: some (.long x) :: none :: tl) st S I L R n K) : X E y cc nL ret tg d nc ns pc (o0 :: o1 :: o2 :: o3 :: o4 :: o5 :: o6 :: ox :: oy :: tl) (.long x :: st) S I L R n K :=
  X.passL (fun hF hL h => lv_lstore hF.1 hF.2.1 hd hL hn rfl (fun ls' hl => h ls' (LH.st2 (Or.inr hg) hl))) k
theorem X.aload_7 {o0 o1 o2 o3 o4 o5 o6 : Option Value} {tl : List (Option Value)} {x : Nat} (hd : decode cc pc = .ok (.aload 7, 2)) (k : X E y cc nL ret tg d nc ns (pc + 2) (o0 :: o1 :: o2 :: o3 :: o4 :: o5 :: o6 :: some (.ref x) :: tl) (.ref x :: st) S I L R n K) : X E y cc nL ret tg d nc ns pc (o0 :: o1 :: o2 :: o3 :: o4 :: o5 :: o6 :: some (.ref x) :: tl) st S I L R n K :=
  X.pass (fun hF hL h => lv_aload hF.1 hF.2.1 hd (hL.at (i := 7) rfl) h) k
theorem X.astore_7 {o0 o1 o2 o3 o4 o5 o6 ox : Option Value} {tl : List (Option Value)} {x : Nat} (hd : decode cc pc = .ok (.astore 7, 2)) (hn : 7 < nL) (hg : nlg (some o6) = true) (k : X E y cc nL ret tg d nc ns (pc + 2) (o0 :: o1 :: o2 :: o3 :: o4 :: o5 :: o6 :: some (.ref x) :: tl) st S I L R n K) : X E y cc nL ret tg d nc ns pc (o0 :: o1 :: o2 :: o3 :: o4 :: o5 :: o6 :: ox :: tl) (.ref x :: st) S I L R n K :=
  X.passL (fun hF hL h => lv_astore hF.1 hF.2.1 hd hL hn rfl (fun ls' hl => h ls' (LH.st1 (Or.inr hg) hl))) k
theorem X.iinc_7 {o0 o1 o2 o3 o4 o5 o6 : Option Value} {tl : List (Option Value)} {x v : Int32} {z : Int} (hv : Int32.ofInt z = v) (hd : decode cc pc = .ok (.iinc 7 z, 3)) (hn : 7 < nL) (hg : nlg (some o6) = true) (k : X E y cc nL ret tg d nc ns (pc + 3) (o0 :: o1 :: o2 :: o3 :: o4 :: o5 :: o6 :: some (.int (x + v)) :: tl) st S I L R n K) : X E y cc nL ret tg d nc ns pc (o0 :: o1 :: o2 :: o3 :: o4 :: o5 :: o6 :: some (.int x) :: tl) st S I L R n K := by
  subst hv
  refine X.passL (fun hF hL h => ?_) k
  obtain ⟨kk, hkk⟩ := List.getElem?_of_mem ((asl_mem _ 0 (7, Value.int x)).mpr ⟨7, rfl, rfl⟩ : (7, Value.int x) ∈ asl (o0 :: o1 :: o2 :: o3 :: o4 :: o5 :: o6 :: some (.int x) :: tl) 0)
  exact lv_iinc hF.1 hF.2.1 hd hL hkk rfl hn rfl (fun ls' hl => h ls' (LH.st1 (Or.inr hg) hl))
theorem X.iload_8 {o0 o1 o2 o3 o4 o5 o6 o7 : Option Value} {tl : List (Option Value)} {x : Int32} (hd : decode cc pc = .ok (.iload 8, 2)) (k : X E y cc nL ret tg d nc ns (pc + 2) (o0 :: o1 :: o2 :: o3 :: o4 :: o5 :: o6 :: o7 :: some (.int x) :: tl) (.int x :: st) S I L R n K) : X E y cc nL ret tg d nc ns pc (o0 :: o1 :: o2 :: o3 :: o4 :: o5 :: o6 :: o7 :: some (.int x) :: tl) st S I L R n K :=
  X.pass (fun hF hL h => lv_iload hF.1 hF.2.1 hd (hL.at (i := 8) rfl) h) k
theorem X.istore_8 {o0 o1 o2 o3 o4 o5 o6 o7 ox : Option Value} {tl : List (Option Value)} {x : Int32} (hd : decode cc pc = .ok (.istore 8, 2)) (hn : 8 < nL) (hg : nlg (some o7) = true) (k : X E y cc nL ret tg d nc ns (pc + 2) (o0 :: o1 :: o2 :: o3 :: o4 :: o5 :: o6 :: o7 :: some (.int x) :: tl) st S I L R n K) : X E y cc nL ret tg d nc ns pc (o0 :: o1 :: o2 :: o3 :: o4 :: o5 :: o6 :: o7 :: ox :: tl) (.int x :: st) S I L R n K :=
  X.passL (fun hF hL h => lv_istore hF.1 hF.2.1 hd hL hn rfl (fun ls' hl => h ls' (LH.st1 (Or.inr hg) hl))) k
theorem X.lload_8 {o0 o1 o2 o3 o4 o5 o6 o7 : Option Value} {tl : List (Option Value)} {x : Int64} (hd : decode cc pc = .ok (.lload 8, 2)) (k : X E y cc nL ret tg d nc ns (pc + 2) (o0 :: o1 :: o2 :: o3 :: o4 :: o5 :: o6 :: o7 :: some (.long x) :: tl) (.long x :: st) S I L R n K) : X E y cc nL ret tg d nc ns pc (o0 :: o1 :: o2 :: o3 :: o4 :: o5 :: o6 :: o7 :: some (.long x) :: tl) st S I L R n K :=
  X.pass (fun hF hL h => lv_lload hF.1 hF.2.1 hd (hL.at (i := 8) rfl) h) k
theorem X.lstore_8 {o0 o1 o2 o3 o4 o5 o6 o7 ox oy : Option Value} {tl : List (Option Value)} {x : Int64} (hd : decode cc pc = .ok (.lstore 8, 2)) (hn : 9 < nL) (hg : nlg (some o7) = true) (k : X E y cc nL ret tg d nc ns (pc + 2) (o0 :: o1 :: o2 :: o3 :: o4 :: o5 :: o6 :: o7 :: some (.long x) :: none :: tl) st S I L R n K) : X E y cc nL ret tg d nc ns pc (o0 :: o1 :: o2 :: o3 :: o4 :: o5 :: o6 :: o7 :: ox :: oy :: tl) (.long x :: st) S I L R n K :=
  X.passL (fun hF hL h => lv_lstore hF.1 hF.2.1 hd hL hn rfl (fun ls' hl => h ls' (LH.st2 (Or.inr hg) hl))) k
theorem X.aload_8 {o0 o1 o2 o3 o4 o5 o6 o7 : Option Value} {tl : List (Option Value)} {x : Nat} (hd : decode cc pc = .ok (.aload 8, 2)) (k : X E y cc nL ret tg d nc ns (pc + 2) (o0 :: o1 :: o2 :: o3 :: o4 :: o5 :: o6 :: o7 :: some (.ref x) :: tl) (.ref x :: st) S I L R n K) : X E y cc nL ret tg d nc ns pc (o0 :: o1 :: o2 :: o3 :: o4 :: o5 :: o6 :: o7 :: some (.ref x) :: tl) st S I L R n K :=
  X.pass (fun hF hL h => lv_aload hF.1 hF.2.1 hd (hL.at (i := 8) rfl) h) k
theorem X.astore_8 {o0 o1 o2 o3 o4 o5 o6 o7 ox : Option Value} {tl : List (Option Value)} {x : Nat} (hd : decode cc pc = .ok (.astore 8, 2)) (hn : 8 < nL) (hg : nlg (some o7) = true) (k : X E y cc nL ret tg d nc ns (pc + 2) (o0 :: o1 :: o2 :: o3 :: o4 :: o5 :: o6 :: o7 :: some (.ref x) :: tl) st S I L R n K) : X E y cc nL ret tg d nc ns pc (o0 :: o1 :: o2 :: o3 :: o4 :: o5 :: o6 :: o7 :: ox :: tl) (.ref x :: st) S I L R n K :=
  X.passL (fun hF hL h => lv_astore hF.1 hF.2.1 hd hL hn rfl (fun ls' hl => h ls' (LH.st1 (Or.inr hg) hl))) k
theorem X.iinc_8 {o0 o1 o2 o3 o4 o5 o6 o7 : Option Value} {tl : List (Option Value)} {x v : Int32} {z : Int} (hv : Int32.ofInt z = v) (hd : decode cc pc = .ok (.iinc 8 z, 3)) (hn : 8 < nL) (hg : nlg (some o7) = true) (k : X E y cc nL ret tg d nc ns (pc + 3) (o0 :: o1 :: o2 :: o3 :: o4 :: o5 :: o6 :: o7 :: some (.int (x + v)) :: tl) st S I L R n K) : X E y cc nL ret tg d nc ns pc (o0 :: o1 :: o2 :: o3 :: o4 :: o5 :: o6 :: o7 :: some (.int x) :: tl) st S I L R n K := by
  subst hv
  refine X.passL (fun hF hL h => ?_) k
  obtain ⟨kk, hkk⟩ := List.getElem?_of_mem ((asl_mem _ 0 (8, Value.int x)).mpr ⟨8, rfl, rfl⟩ : (8, Value.int x) ∈ asl (o0 :: o1 :: o2 :: o3 :: o4 :: o5 :: o6 :: o7 :: some (.int x) :: tl) 0)
  exact lv_iinc hF.1 hF.2.1 hd hL hkk rfl hn rfl (fun ls' hl => h ls' (LH.st1 (Or.inr hg) hl))
theorem X.iload_9 {o0 o1 o2 o3 o4 o5 o6 o7 o8 : Option Value} {tl : List (Option Value)} {x : Int32} (hd : decode cc pc = .ok (.iload 9, 2)) (k : X E y cc nL ret tg d nc ns (pc + 2) (o0 :: o1 :: o2 :: o3 :: o4 :: o5 :: o6 :: o7 :: o8 :: some (.int x) :: tl) (.int x :: st) S I L R n K) : X E y cc nL ret tg d nc ns pc (o0 :: o1 :: o2 :: o3 :: o4 :: o5 :: o6 :: o7 :: o8 :: some (.int x) :: tl) st S I L R n K :=
  X.pass (fun hF hL h => lv_iload hF.1 hF.2.1 hd (hL.at (i := 9) rfl) h) k
theorem X.istore_9 {o0 o1 o2 o3 o4 o5 o6 o7 o8 ox : Option Value} {tl : List (Option Value)} {x : Int32} (hd : decode cc pc = .ok (.istore 9, 2)) (hn : 9 < nL) (hg : nlg (some o8) = true) (k : X E y cc nL ret tg d nc ns (pc + 2) (o0 :: o1 :: o2 :: o3 :: o4 :: o5 :: o6 :: o7 :: o8 :: some (.int x) :: tl) st S I L R n K) : X E y cc nL ret tg d nc ns pc (o0 :: o1 :: o2 :: o3 :: o4 :: o5 :: o6 :: o7 :: o8 :: ox :: tl) (.int x :: st) S I L R n K :=
  X.passL (fun hF hL h => lv_istore hF.1 hF.2.1 hd hL hn rfl (fun ls' hl => h ls' (LH.st1 (Or.inr hg) hl))) k
theorem X.lload_9 {o0 o1 o2 o3 o4 o5 o6 o7 o8 : Option Value} {tl : List (Option Value)} {x : Int64} (hd : decode cc pc = .ok (.lload 9, 2)) (k : X E y cc nL ret tg d nc ns (pc + 2) (o0 :: o1 :: o2 :: o3 :: o4 :: o5 :: o6 :: o7 :: o8 :: some (.long x) :: tl) (.long x :: st) S I L R n K) : X E y cc nL ret tg d nc ns pc (o0 :: o1 :: o2 :: o3 :: o4 :: o5 :: o6 :: o7 :: o8 :: some (.long x) :: tl) st S I L R n K :=
  X.pass (fun hF hL h => lv_lload hF.1 hF.2.1 hd (hL.at (i := 9) rfl) h) k
theorem X.lstore_9 {o0 o1 o2 o3 o4 o5 o6 o7 o8 ox oy : Option Value} {tl : List (Option Value)} {x : Int64} (hd : decode cc pc = .ok (.lstore 9, 2)) (hn : 10 < nL) (hg : nlg (some o8) = true) (k : X E y cc nL ret tg d nc ns (pc + 2) (o0 :: o1 :: o2 :: o3 :: o4 :: o5 :: o6 :: o7 :: o8 :: some (.long x) :: none :: tl) st S I L R n K) : X E y cc nL ret tg d nc ns pc (o0 :: o1 :: o2 :: o3 :: o4 :: o5 :: o6 :: o7 :: o8 :: ox :: oy :: tl) (.long x :: st) S I L R n K :=
  X.passL (fun hF hL h => lv_lstore hF.1 hF.2.1 hd hL hn rfl (fun ls' hl => h ls' (LH.st2 (Or.inr hg) hl))) k
theorem X.aload_9 {o0 o1 o2 o3 o4 o5 o6 o7 o8 : Option Value} {tl : List (Option Value)} {x : Nat} (hd : decode cc pc = .ok (.aload 9, 2)) (k : X E y cc nL ret tg d nc ns (pc + 2) (o0 :: o1 :: o2 :: o3 :: o4 :: o5 :: o6 :: o7 :: o8 :: some (.ref x) :: tl) (.ref x :: st) S I L R n K) : X E y cc nL ret tg d nc ns pc (o0 :: o1 :: o2 :: o3 :: o4 :: o5 :: o6 :: o7 :: o8 :: some (.ref x) :: tl) st S I L R n K :=
  X.pass (fun hF hL h => lv_aload hF.1 hF.2.1 hd (hL.at (i := 9) rfl) h) k
theorem X.astore_9 {o0 o1 o2 o3 o4 o5 o6 o7 o8 ox : Option Value} {tl : List (Option Value)} {x : Nat} (hd : decode cc pc = .ok (.astore 9, 2)) (hn : 9 < nL) (hg : nlg (some o8) = true) (k : X E y cc nL ret tg d nc ns (pc + 2) (o0 :: o1 :: o2 :: o3 :: o4 :: o5 :: o6 :: o7 :: o8 :: some (.ref x) :: tl) st S I L R n K) : X E y cc nL ret tg d nc ns pc (o0 :: o1 :: o2 :: o3 :: o4 :: o5 :: o6 :: o7 :: o8 :: ox :: tl) (.ref x :: st) S I L R n K :=
  X.passL (fun hF hL h => lv_astore hF.1 hF.2.1 hd hL hn rfl (fun ls' hl => h ls' (LH.st1 (Or.inr hg) hl))) k
theorem X.iinc_9 {o0 o1 o2 o3 o4 o5 o6 o7 o8 : Option Value} {tl : List (Option Value)} {x v : Int32} {z : Int} (hv : Int32.ofInt z = v) (hd : decode cc pc = .ok (.iinc 9 z, 3)) (hn : 9 < nL) (hg : nlg (some o8) = true) (k : X E y cc nL ret tg d nc ns (pc + 3) (o0 :: o1 :: o2 :: o3 :: o4 :: o5 :: o6 :: o7 :: o8 :: some (.int (x + v)) :: tl) st S I L R n K) : X E y cc nL ret tg d nc ns pc (o0 :: o1 :: o2 :: o3 :: o4 :: o5 :: o6 :: o7 :: o8 :: some (.int x) :: tl) st S I L R n K := by
  subst hv
  refine X.passL (fun hF hL h => ?_) k
  obtain ⟨kk, hkk⟩ := List.getElem?_of_mem ((asl_mem _ 0 (9, Value.int x)).mpr ⟨9, rfl, rfl⟩ : (9, Value.int x) ∈ asl (o0 :: o1 :: o2 :: o3 :: o4 :: o5 :: o6 :: o7 :: o8 :: some (.int x) :: tl) 0)
  exact lv_iinc hF.1 hF.2.1 hd hL hkk rfl hn rfl (fun ls' hl => h ls' (LH.st1 (Or.inr hg) hl))
theorem X.iload_10 {o0 o1 o2 o3 o4 o5 o6 o7 o8 o9 : Option Value} {tl : List (Option Value)} {x : Int32} (hd : decode cc pc = .ok (.iload 10, 2)) (k : X E y cc nL ret tg d nc ns (pc + 2) (o0 :: o1 :: o2 :: o3 :: o4 :: o5 :: o6 :: o7 :: o8 :: o9 :: some (.int x) :: tl) (.int x :: st) S I L R n K) : X E y cc nL ret tg d nc ns pc (o0 :: o1 :: o2 :: o3 :: o4 :: o5 :: o6 :: o7 :: o8 :: o9 :: some (.int x) :: tl) st S I L R n K :=
  X.pass (fun hF hL h => lv_iload hF.1 hF.2.1 hd (hL.at (i := 10) rfl) h) k
theorem X.istore_10 {o0 o1 o2 o3 o4 o5 o6 o7 o8 o9 ox : Option Value} {tl : List (Option Value)} {x : Int32} (hd : decode cc pc = .ok (.istore 10, 2)) (hn : 10 < nL) (hg : nlg (some o9) = true) (k : X E y cc nL ret tg d nc ns (pc + 2) (o0 :: o1 :: o2 :: o3 :: o4 :: o5 :: o6 :: o7 :: o8 :: o9 :: some (.int x) :: tl) st S I L R n K) : X E y cc nL ret tg d nc ns pc (o0 :: o1 :: o2 :: o3 :: o4 :: o5 :: o6 :: o7 :: o8 :: o9 :: ox :: tl) (.int x :: st) S I L R n K :=
  X.passL (fun hF hL h => lv_istore hF.1 hF.2.1 hd hL hn rfl (fun ls' hl => h ls' (LH.st1 (Or.inr hg) hl))) k
theorem X.lload_10 {o0 o1 o2 o3 o4 o5 o6 o7 o8 o9 : Option Value} {tl : List (Option Value)} {x : Int64} (hd : decode cc pc = .ok (.lload 10, 2)) (k : X E y cc nL ret tg d nc ns (pc + 2) (o0 :: o1 :: o2 :: o3 :: o4 :: o5 :: o6 :: o7 :: o8 :: o9 :: some (.long x) :: tl) (.long x :: st) S I L R n K) : X E y cc nL ret tg d nc ns pc (o0 :: o1 :: o2 :: o3 :: o4 :: o5 :: o6 :: o7 :: o8 :: o9 :: some (.long x) :: tl) st S I L R n K :=
  X.pass (fun hF hL h => lv_lload hF.1 hF.2.1 hd (hL.at (i := 10) rfl) h) k
theorem X.lstore_10 {o0 o1 o2 o3 o4 o5 o6 o7 o8 o9 ox oy : Option Value} {tl : List (Option Value)} {x : Int64} (hd : decode cc pc = .ok (.lstore 10, 2)) (hn : 11 < nL) (hg : nlg (some o9) = true) (k : X E y cc nL ret tg d nc ns (pc + 2) (o0 :: o1 :: o2 :: o3 :: o4 :: o5 :: o6 :: o7 :: o8 :: o9 :: some (.long x) :: none :: tl) st S I L R n K) : X E y cc nL ret tg d nc ns pc (o0 :: o1 :: o2 :: o3 :: o4 :: o5 :: o6 :: o7 :: o8 :: o9 :: ox :: oy :: tl) (.long x :: st) S I L R n K :=
  X.passL (fun hF hL h => lv_lstore hF.1 hF.2.1 hd hL hn rfl (fun ls' hl => h ls' (LH.st2 (Or.inr hg) hl))) k
theorem X.aload_10 {o0 o1 o2 o3 o4 o5 o6 o7 o8 o9 : Option Value} {tl : List (Option Value)} {x : Nat} (hd : decode cc pc = .ok (.aload 10, 2)) (k : X E y cc nL ret tg d nc ns (pc + 2) (o0 :: o1 :: o2 :: o3 :: o4 :: o5 :: o6 :: o7 :: o8 :: o9 :: some (.ref x) :: tl) (.ref x :: st) S I L R n K) : X E y cc nL ret tg d nc ns pc (o0 :: o1 :: o2 :: o3 :: o4 :: o5 :: o6 :: o7 :: o8 :: o9 :: some (.ref x) :: tl) st S I L R n K :=
  X.pass (fun hF hL h => lv_aload hF.1 hF.2.1 hd (hL.at (i := 10) rfl) h) k
theorem X.astore_10 {o0 o1 o2 o3 o4 o5 o6 o7 o8 o9 ox : Option Value} {tl : List (Option Value)} {x : Nat} (hd : decode cc pc = .ok (.astore 10, 2)) (hn : 10 < nL) (hg : nlg (some o9) = true) (k : X E y cc nL ret tg d nc ns (pc + 2) (o0 :: o1 :: o2 :: o3 :: o4 :: o5 :: o6 :: o7 :: o8 :: o9 :: some (.ref x) :: tl) st S I L R n K) : X E y cc nL ret tg d nc ns pc (o0 :: o1 :: o2 :: o3 :: o4 :: o5 :: o6 :: o7 :: o8 :: o9 :: ox :: tl) (.ref x :: st) S I L R n K :=
  X.passL (fun hF hL h => lv_astore hF.1 hF.2.1 hd hL hn rfl (fun ls' hl => h ls' (LH.st1 (Or.inr hg) hl))) k
theorem X.iinc_10 {o0 o1 o2 o3 o4 o5 o6 o7 o8 o9 : Option Value} {tl : List (Option Value)} {x v : Int32} {z : Int} (hv : Int32.ofInt z = v) (hd : decode cc pc = .ok (.iinc 10 z, 3)) (hn : 10 < nL) (hg : nlg (some o9) = true) (k : X E y cc nL ret tg d nc ns (pc + 3) (o0 :: o1 :: o2 :: o3 :: o4 :: o5 :: o6 :: o7 :: o8 :: o9 :: some (.int (x + v)) :: tl) st S I L R n K) : X E y cc nL ret tg d nc ns pc (o0 :: o1 :: o2 :: o3 :: o4 :: o5 :: o6 :: o7 :: o8 :: o9 :: some (.int x) :: tl) st S I L R n K := by
  subst hv
  refine X.passL (fun hF hL h => ?_) k
  obtain ⟨kk, hkk⟩ := List.getElem?_of_mem ((asl_mem _ 0 (10, Value.int x)).mpr ⟨10, rfl, rfl⟩ : (10, Value.int x) ∈ asl (o0 :: o1 :: o2 :: o3 :: o4 :: o5 :: o6 :: o7 :: o8 :: o9 :: some (.int x) :: tl) 0)
  exact lv_iinc hF.1 hF.2.1 hd hL hkk rfl hn rfl (fun ls' hl => h ls' (LH.st1 (Or.inr hg) hl))
theorem X.iload_11 {o0 o1 o2 o3 o4 o5 o6 o7 o8 o9 o10 : Option Value} {tl : List (Option Value)} {x : Int32} (hd : decode cc pc = .ok (.iload 11, 2)) (k : X E y cc nL ret tg d nc ns (pc + 2) (o0 :: o1 :: o2 :: o3 :: o4 :: o5 :: o6 :: o7 :: o8 :: o9 :: o10 :: some (.int x) :: tl) (.int x :: st) S I L R n K) : X E y cc nL ret tg d nc ns pc (o0 :: o1 :: o2 :: o3 :: o4 :: o5 :: o6 :: o7 :: o8 :: o9 :: o10 :: some (.int x) :: tl) st S I L R n K :=
  X.pass (fun hF hL h => lv_iload hF.1 hF.2.1 hd (hL.at (i := 11) rfl) h) k
theorem X.istore_11 {o0 o1 o2 o3 o4 o5 o6 o7 o8 o9 o10 ox : Option Value} {tl : List (Option Value)} {x : Int32} (hd : decode cc pc = .ok (.istore 11, 2)) (hn : 11 < nL) (hg : nlg (some o10) = true) (k : X E y cc nL ret tg d nc ns (pc + 2) (o0 :: o1 :: o2 :: o3 :: o4 :: o5 :: o6 :: o7 :: o8 :: o9 :: o10 :: some (.int x) :: tl) st S I L R n K) : X E y cc nL ret tg d nc ns pc (o0 :: o1 :: o2 :: o3 :: o4 :: o5 :: o6 :: o7 :: o8 :: o9 :: o10 :: ox :: tl) (.int x :: st) S I L R n K :=
  X.passL (fun hF hL h => lv_istore hF.1 hF.2.1 hd hL hn rfl (fun ls' hl => h ls' (LH.st1 (Or.inr hg) hl))) k
theorem X.lload_11 {o0 o1 o2 o3 o4 o5 o6 o7 o8 o9 o10 : Option Value} {tl : List (Option Value)} {x : Int64} (hd : decode cc pc = .ok (.lload 11, 2)) (k : X E y cc nL ret tg d nc ns (pc + 2) (o0 :: o1 :: o2 :: o3 :: o4 :: o5 :: o6 :: o7 :: o8 :: o9 :: o10 :: some (.long x) :: tl) (.long x :: st) S I L R n K) : X E y cc nL ret tg d nc ns pc (o0 :: o1 :: o2 :: o3 :: o4 :: o5 :: o6 :: o7 :: o8 :: o9 :: o10 :: some (.long x) :: tl) st S I L R n K :=
  X.pass (fun hF hL h => lv_lload hF.1 hF.2.1 hd (hL.at (i := 11) rfl) h) k
theorem X.lstore_11 {o0 o1 o2 o3 o4 o5 o6 o7 o8 o9 o10 ox oy : Option Value} {tl : List (Option Value)} {x : Int64} (hd : decode cc pc = .ok (.lstore 11, 2)) (hn : 12 < nL) (hg : nlg (some o10) = true) (k : X E y cc nL ret tg d nc ns (pc + 2) (o0 :: o1 :: o2 :: o3 :: o4 :: o5 :: o6 :: o7 :: o8 :: o9 :: o10 :: some (.long x) :: none :: tl) st S I L R n K) : X E y cc nL ret tg d nc ns pc (o0 :: o1 :: o2 :: o3 :: o4 :: o5 :: o6 :: o7 :: o8 :: o9 :: o10 :: ox :: oy :: tl) (.long x :: st) S I L R n K :=
  X.passL (fun hF hL h => lv_lstore hF.1 hF.2.1 hd hL hn rfl (fun ls' hl => h ls' (LH.st2 (Or.inr hg) hl))) k
theorem X.aload_11 {o0 o1 o2 o3 o4 o5 o6 o7 o8 o9 o10 : Option Value} {tl : List (Option Value)} {x : Nat} (hd : decode cc pc = .ok (.aload 11, 2)) (k : X E y cc nL ret tg d nc ns (pc + 2) (o0 :: o1 :: o2 :: o3 :: o4 :: o5 :: o6 :: o7 :: o8 :: o9 :: o10 :: some (.ref x) :: tl) (.ref x :: st) S I L R n K) : X E y cc nL ret tg d nc ns pc (o0 :: o1 :: o2 :: o3 :: o4 :: o5 :: o6 :: o7 :: o8 :: o9 :: o10 :: some (.ref x) :: tl) st S I L R n K :=
  X.pass (fun hF hL h => lv_aload hF.1 hF.2.1 hd (hL.at (i := 11) rfl) h) k
theorem X.astore_11 {o0 o1 o2 o3 o4 o5 o6 o7 o8 o9 o10 ox : Option Value} {tl : List (Option Value)} {x : Nat} (hd : decode cc pc = .ok (.astore 11, 2)) (hn : 11 < nL) (hg : nlg (some o10) = true) (k : X E y cc nL ret tg d nc ns (pc + 2) (o0 :: o1 :: o2 :: o3 :: o4 :: o5 :: o6 :: o7 :: o8 :: o9 :: o10 :: some (.ref x) :: tl) st S I L R n K) : X E y cc nL ret tg d nc ns pc (o0 :: o1 :: o2 :: o3 :: o4 :: o5 :: o6 :: o7 :: o8 :: o9 :: o10 :: ox :: tl) (.ref x :: st) S I L R n K :=
  X.passL (fun hF hL h => lv_astore hF.1 hF.2.1 hd hL hn rfl (fun ls' hl => h ls' (LH.st1 (Or.inr hg) hl))) k
theorem X.iinc_11 {o0 o1 o2 o3 o4 o5 o6 o7 o8 o9 o10 : Option Value} {tl : List (Option Value)} {x v : Int32} {z : Int} (hv : Int32.ofInt z = v) (hd : decode cc pc = .ok (.iinc 11 z, 3)) (hn : 11 < nL) (hg : nlg (some o10) = true) (k : X E y cc nL ret tg d nc ns (pc + 3) (o0 :: o1 :: o2 :: o3 :: o4 :: o5 :: o6 :: o7 :: o8 :: o9 :: o10 :: some (.int (x + v)) :: tl) st S I L R n K) : X E y cc nL ret tg d nc ns pc (o0 :: o1 :: o2 :: o3 :: o4 :: o5 :: o6 :: o7 :: o8 :: o9 :: o10 :: some (.int x) :: tl) st S I L R n K := by
  subst hv
  refine X.passL (fun hF hL h => ?_) k
  obtain ⟨kk, hkk⟩ := List.getElem?_of_mem ((asl_mem _ 0 (11, Value.int x)).mpr ⟨11, rfl, rfl⟩ : (11, Value.int x) ∈ asl (o0 :: o1 :: o2 :: o3 :: o4 :: o5 :: o6 :: o7 :: o8 :: o9 :: o10 :: some (.int x) :: tl) 0)
  exact lv_iinc hF.1 hF.2.1 hd hL hkk rfl hn rfl (fun ls' hl => h ls' (LH.st1 (Or.inr hg) hl))
theorem X.iload_12 {o0 o1 o2 o3 o4 o5 o6 o7 o8 o9 o10 o11 : Option Value} {tl : List (Option Value)} {x : Int32} (hd : decode cc pc = .ok (.iload 12, 2)) (k : X E y cc nL ret tg d nc ns (pc + 2) (o0 :: o1 :: o2 :: o3 :: o4 :: o5 :: o6 :: o7 :: o8 :: o9 :: o10 :: o11 :: some (.int x) :: tl) (.int x :: st) S I L R n K) : X E y cc nL ret tg d nc ns pc (o0 :: o1 :: o2 :: o3 :: o4 :: o5 :: o6 :: o7 :: o8 :: o9 :: o10 :: o11 :: some (.int x) :: tl) st S I L R n K :=
  X.pass (fun hF hL h => lv_iload hF.1 hF.2.1 hd (hL.at (i := 12) rfl) h) k
theorem X.istore_12 {o0 o1 o2 o3 o4 o5 o6 o7 o8 o9 o10 o11 ox : Option Value} {tl : List (Option Value)} {x : Int32} (hd : decode cc pc = .ok (.istore 12, 2)) (hn : 12 < nL) (hg : nlg (some o11) = true) (k : X E y cc nL ret tg d nc ns (pc + 2) (o0 :: o1 :: o2 :: o3 :: o4 :: o5 :: o6 :: o7 :: o8 :: o9 :: o10 :: o11 :: some (.int x) :: tl) st S I L R n K) : X E y cc nL ret tg d nc ns pc (o0 :: o1 :: o2 :: o3 :: o4 :: o5 :: o6 :: o7 :: o8 :: o9 :: o10 :: o11 :: ox :: tl) (.int x :: st) S I L R n K :=
  X.passL (fun hF hL h => lv_istore hF.1 hF.2.1 hd hL hn rfl (fun ls' hl => h ls' (LH.st1 (Or.inr hg) hl))) k
theorem X.lload_12 {o0 o1 o2 o3 o4 o5 o6 o7 o8 o9 o10 o11 : Option Value} {tl : List (Option Value)} {x : Int64} (hd : decode cc pc = .ok (.lload 12, 2)) (k : X E y cc nL ret tg d nc ns (pc + 2) (o0 :: o1 :: o2 :: o3 :: o4 :: o5 :: o6 :: o7 :: o8 :: o9 :: o10 :: o11 :: some (.long x) :: tl) (.long x :: st) S I L R n K) : X E y cc nL ret tg d nc ns pc (o0 :: o1 :: o2 :: o3 :: o4 :: o5 :: o6 :: o7 :: o8 :: o9 :: o10 :: o11 :: some (.long x) :: tl) st S I L R n K :=
  X.pass (fun hF hL h => lv_lload hF.1 hF.2.1 hd (hL.at (i := 12) rfl) h) k
theorem X.lstore_12 {o0 o1 o2 o3 o4 o5 o6 o7 o8 o9 o10 o11 ox oy : Option Value} {tl : List (Option Value)} {x : Int64} (hd : decode cc pc = .ok (.lstore 12, 2)) (hn : 13 < nL) (hg : nlg (some o11) = true) (k : X E y cc nL ret tg d nc ns (pc + 2) (o0 :: o1 :: o2 :: o3 :: o4 :: o5 :: o6 :: o7 :: o8 :: o9 :: o10 :: o11 :: some (.long x) :: none :: tl) st S I L R n K) : X E y cc nL ret tg d nc ns pc (o0 :: o1 :: o2 :: o3 :: o4 :: o5 :: o6 :: o7 :: o8 :: o9 :: o10 :: o11 :: ox :: oy :: tl) (.long x :: st) S I L R n K :=
  X.passL (fun hF hL h => lv_lstore hF.1 hF.2.1 hd hL hn rfl (fun ls' hl => h ls' (LH.st2 (Or.inr hg) hl))) k
theorem X.aload_12 {o0 o1 o2 o3 o4 o5 o6 o7 o8 o9 o10 o11 : Option Value} {tl : List (Option Value)} {x : Nat} (hd : decode cc pc = .ok (.aload 12, 2)) (k : X E y cc nL ret tg d nc ns (pc + 2) (o0 :: o1 :: o2 :: o3 :: o4 :: o5 :: o6 :: o7 :: o8 :: o9 :: o10 :: o11 :: some (.ref x) :: tl) (.ref x :: st) S I L R n K) : X E y cc nL ret tg d nc ns pc (o0 :: o1 :: o2 :: o3 :: o4 :: o5 :: o6 :: o7 :: o8 :: o9 :: o10 :: o11 :: some (.ref x) :: tl) st S I L R n K :=
  X.pass (fun hF hL h => lv_aload hF.1 hF.2.1 hd (hL.at (i := 12) rfl) h) k
theorem X.astore_12 {o0 o1 o2 o3 o4 o5 o6 o7 o8 o9 o10 o11 ox : Option Value} {tl : List (Option Value)} {x : Nat} (hd : decode cc pc = .ok (.astore 12, 2)) (hn : 12 < nL) (hg : nlg (some o11) = true) (k : X E y cc nL ret tg d nc ns (pc + 2) (o0 :: o1 :: o2 :: o3 :: o4 :: o5 :: o6 :: o7 :: o8 :: o9 :: o10 :: o11 :: some (.ref x) :: tl) st S I L R n K) : X E y cc nL ret tg d nc ns pc (o0 :: o1 :: o2 :: o3 :: o4 :: o5 :: o6 :: o7 :: o8 :: o9 :: o10 :: o11 :: ox :: tl) (.ref x :: st) S I L R n K :=
  X.passL (fun hF hL h => lv_astore hF.1 hF.2.1 hd hL hn rfl (fun ls' hl => h ls' (LH.st1 (Or.inr hg) hl))) k
theorem X.iinc_12 {o0 o1 o2 o3 o4 o5 o6 o7 o8 o9 o10 o11 : Option Value} {tl : List (Option Value)} {x v : Int32} {z : Int} (hv : Int32.ofInt z = v) (hd : decode cc pc = .ok (.iinc 12 z, 3)) (hn : 12 < nL) (hg : nlg (some o11) = true) (k : X E y cc nL ret tg d nc ns (pc + 3) (o0 :: o1 :: o2 :: o3 :: o4 :: o5 :: o6 :: o7 :: o8 :: o9 :: o10 :: o11 :: some (.int (x + v)) :: tl) st S I L R n K) : X E y cc nL ret tg d nc ns pc (o0 :: o1 :: o2 :: o3 :: o4 :: o5 :: o6 :: o7 :: o8 :: o9 :: o10 :: o11 :: some (.int x) :: tl) st S I L R n K := by
  subst hv
  refine X.passL (fun hF hL h => ?_) k
  obtain ⟨kk, hkk⟩ := List.getElem?_of_mem ((asl_mem _ 0 (12, Value.int x)).mpr ⟨12, rfl, rfl⟩ : (12, Value.int x) ∈ asl (o0 :: o1 :: o2 :: o3 :: o4 :: o5 :: o6 :: o7 :: o8 :: o9 :: o10 :: o11 :: some (.int x) :: tl) 0)
  exact lv_iinc hF.1 hF.2.1 hd hL hkk rfl hn rfl (fun ls' hl => h ls' (LH.st1 (Or.inr hg) hl))
theorem X.iload_13 {o0 o1 o2 o3 o4 o5 o6 o7 o8 o9 o10 o11 o12 : Option Value} {tl : List (Option Value)} {x : Int32} (hd : decode cc pc = .ok (.iload 13, 2)) (k : X E y cc nL ret tg d nc ns (pc + 2) (o0 :: o1 :: o2 :: o3 :: o4 :: o5 :: o6 :: o7 :: o8 :: o9 :: o10 :: o11 :: o12 :: some (.int x) :: tl) (.int x :: st) S I L R n K) : X E y cc nL ret tg d nc ns pc (o0 :: o1 :: o2 :: o3 :: o4 :: o5 :: o6 :: o7 :: o8 :: o9 :: o10 :: o11 :: o12 :: some (.int x) :: tl) st S I L R n K :=
  X.pass (fun hF hL h => lv_iload hF.1 hF.2.1 hd (hL.at (i := 13) rfl) h) k
theorem X.istore_13 {o0 o1 o2 o3 o4 o5 o6 o7 o8 o9 o10 o11 o12 ox : Option Value} {tl : List (Option Value)} {x : Int32} (hd : decode cc pc = .ok (.istore 13, 2)) (hn : 13 < nL) (hg : nlg (some o12) = true) (k : X E y cc nL ret tg d nc ns (pc + 2) (o0 :: o1 :: o2 :: o3 :: o4 :: o5 :: o6 :: o7 :: o8 :: o9 :: o10 :: o11 :: o12 :: some (.int x) :: tl) st S I L R n K) : X E y cc nL ret tg d nc ns pc (o0 :: o1 :: o2 :: o3 :: o4 :: o5 :: o6 :: o7 :: o8 :: o9 :: o10 :: o11 :: o12 :: ox :: tl) (.int x :: st) S I L R n K :=
  X.passL (fun hF hL h => lv_istore hF.1 hF.2.1 hd hL hn rfl (fun ls' hl => h ls' (LH.st1 (Or.inr hg) hl))) k
theorem X.lload_13 {o0 o1 o2 o3 o4 o5 o6 o7 o8 o9 o10 o11 o12 : Option Value} {tl : List (Option Value)} {x : Int64} (hd : decode cc pc = .ok (.lload 13, 2)) (k : X E y cc nL ret tg d nc ns (pc + 2) (o0 :: o1 :: o2 :: o3 :: o4 :: o5 :: o6 :: o7 :: o8 :: o9 :: o10 :: o11 :: o12 :: some (.long x) :: tl) (.long x :: st) S I L R n K) : X E y cc nL ret tg d nc ns pc (o0 :: o1 :: o2 :: o3 :: o4 :: o5 :: o6 :: o7 :: o8 :: o9 :: o10 :: o11 :: o12 :: some (.long x) :: tl) st S I L R n K :=
  X.pass (fun hF hL h => lv_lload hF.1 hF.2.1 hd (hL.at (i := 13) rfl) h) k
theorem X.lstore_13 {o0 o1 o2 o3 o4 o5 o6 o7 o8 o9 o10 o11 o12 ox oy : Option Value} {tl : List (Option Value)} {x : Int64} (hd : decode cc pc = .ok (.lstore 13, 2)) (hn : 14 < nL) (hg : nlg (some o12) = true) (k : X E y cc nL ret tg d nc ns (pc + 2) (o0 :: o1 :: o2 :: o3 :: o4 :: o5 :: o6 :: o7 :: o8 :: o9 :: o10 :: o11 :: o12 :: some (.long x) :: none :: tl) st S I L R n K) : X E y cc nL ret tg d nc ns pc (o0 :: o1 :: o2 :: o3 :: o4 :: o5 :: o6 :: o7 :: o8 :: o9 :: o10 :: o11 :: o12 :: ox :: oy :: tl) (.long x :: st) S I L R n K :=
  X.passL (fun hF hL h => lv_lstore hF.1 hF.2.1 hd hL hn rfl (fun ls' hl => h ls' (LH.st2 (Or.inr hg) hl))) k
theorem X.aload_13 {o0 o1 o2 o3 o4 o5 o6 o7 o8 o9 o10 o11 o12 : Option Value} {tl : List (Option Value)} {x : Nat} (hd : decode cc pc = .ok (.aload 13, 2)) (k : X E y cc nL ret tg d nc ns (pc + 2) (o0 :: o1 :: o2 :: o3 :: o4 :: o5 :: o6 :: o7 :: o8 :: o9 :: o10 :: o11 :: o12 :: some (.ref x) :: tl) (.ref x :: st) S I L R n K) : X E y cc nL ret tg d nc ns pc (o0 :: o1 :: o2 :: o3 :: o4 :: o5 :: o6 :: o7 :: o8 :: o9 :: o10 :: o11 :: o12 :: some (.ref x) :: tl) st S I L R n K :=
  X.pass (fun hF hL h => lv_aload hF.1 hF.2.1 hd (hL.at (i := 13) rfl) h) k
theorem X.astore_13 {o0 o1 o2 o3 o4 o5 o6 o7 o8 o9 o10 o11 o12 ox : Option Value} {tl : List (Option Value)} {x : Nat} (hd : decode cc pc = .ok (.astore 13, 2)) (hn : 13 < nL) (hg : nlg (some o12) = true) (k : X E y cc nL ret tg d nc ns (pc + 2) (o0 :: o1 :: o2 :: o3 :: o4 :: o5 :: o6 :: o7 :: o8 :: o9 :: o10 :: o11 :: o12 :: some (.ref x) :: tl) st S I L R n K) : X E y cc nL ret tg d nc ns pc (o0 :: o1 :: o2 :: o3 :: o4 :: o5 :: o6 :: o7 :: o8 :: o9 :: o10 :: o11 :: o12 :: ox :: tl) (.ref x :: st) S I L R n K :=
  X.passL (fun hF hL h => lv_astore hF.1 hF.2.1 hd hL hn rfl (fun ls' hl => h ls' (LH.st1 (Or.inr hg) hl))) k
theorem X.iinc_13 {o0 o1 o2 o3 o4 o5 o6 o7 o8 o9 o10 o11 o12 : Option Value} {tl : List (Option Value)} {x v : Int32} {z : Int} (hv : Int32.ofInt z = v) (hd : decode cc pc = .ok (.iinc 13 z, 3)) (hn : 13 < nL) (hg : nlg (some o12) = true) (k : X E y cc nL ret tg d nc ns (pc + 3) (o0 :: o1 :: o2 :: o3 :: o4 :: o5 :: o6 :: o7 :: o8 :: o9 :: o10 :: o11 :: o12 :: some (.int (x + v)) :: tl) st S I L R n K) : X E y cc nL ret tg d nc ns pc (o0 :: o1 :: o2 :: o3 :: o4 :: o5 :: o6 :: o7 :: o8 :: o9 :: o10 :: o11 :: o12 :: some (.int x) :: tl) st S I L R n K := by
  subst hv
  refine X.passL (fun hF hL h => ?_) k
  obtain ⟨kk, hkk⟩ := List.getElem?_of_mem ((asl_mem _ 0 (13, Value.int x)).mpr ⟨13, rfl, rfl⟩ : (13, Value.int x) ∈ asl (o0 :: o1 :: o2 :: o3 :: o4 :: o5 :: o6 :: o7 :: o8 :: o9 :: o10 :: o11 :: o12 :: some (.int x) :: tl) 0)
  exact lv_iinc hF.1 hF.2.1 hd hL hkk rfl hn rfl (fun ls' hl => h ls' (LH.st1 (Or.inr hg) hl))
end XR
