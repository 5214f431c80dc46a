section XC
variable {E : Env} {y : MethodName} {cc : ByteArray} {nL : Nat} {ret : Option FieldType} {tg : Bool} {d nc ns pc : Nat} {o : List (Option Value)} {st : List Value} {S : MS} {I : MI} {L : ML} {R : MR} {n : Nat} {K : KT}
theorem X.ireturn {x : Int32} (hd : decode cc pc = .ok (.ireturn, 1)) (hr : ∃ ty, ret = some ty ∧ narrow ty (.int x) = .int x) (hk : K (some (.int x)) S I L R n) : X E y cc nL ret tg d nc ns pc o [.int x] S I L R n K :=
  fun p e Rm s m args below meth c Zs H locs cells slots ls hF h1 h2 hZ hW hS0 hc hs hL => hZ (some (.int x)) S I L R n H locs cells slots pc ls hk hW hS0 (by omega) (by omega) ⟨hr, hd⟩
theorem X.lreturn {x : Int64} (hd : decode cc pc = .ok (.lreturn, 1)) (hr : ret = some .long) (hk : K (some (.long x)) S I L R n) : X E y cc nL ret tg d nc ns pc o [.long x] S I L R n K :=
  fun p e Rm s m args below meth c Zs H locs cells slots ls hF h1 h2 hZ hW hS0 hc hs hL => hZ (some (.long x)) S I L R n H locs cells slots pc ls hk hW hS0 (by omega) (by omega) ⟨hr, hd⟩
theorem X.vreturn (hd : decode cc pc = .ok (.return_, 1)) (hr : ret = none) (hk : K none S I L R n) : X E y cc nL ret tg d nc ns pc o [] S I L R n K :=
  fun p e Rm s m args below meth c Zs H locs cells slots ls hF h1 h2 hZ hW hS0 hc hs hL => hZ none S I L R n H locs cells slots pc ls hk hW hS0 (by omega) (by omega) ⟨hr, hd⟩
theorem X.tabIn {dflt lo hi : Int} {offs : Array Int} {len : Nat} {x : Int32} {off : Int} {tgt : Nat} (hd : decode cc pc = .ok (.tableswitch dflt lo hi offs, len)) (h1 : ¬ x.toInt < lo) (h2 : ¬ hi < x.toInt) (ho : offs[(x.toInt - lo).toNat]? = some off) (ht : (pc : Int) + off = (tgt : Int))
    (k : X E y cc nL ret tg d nc ns tgt o st S I L R n K) : X E y cc nL ret tg d nc ns pc o (.int x :: st) S I L R n K :=
  X.pass (fun hF _ h => lv_tableIn hF.1 hF.2.1 hd h1 h2 ho ht h) k
theorem X.tabOut {dflt lo hi : Int} {offs : Array Int} {len : Nat} {x : Int32} {tgt : Nat} (hd : decode cc pc = .ok (.tableswitch dflt lo hi offs, len)) (h : x.toInt < lo ∨ hi < x.toInt) (ht : (pc : Int) + dflt = (tgt : Int))
    (k : X E y cc nL ret tg d nc ns tgt o st S I L R n K) : X E y cc nL ret tg d nc ns pc o (.int x :: st) S I L R n K :=
  X.pass (fun hF _ h' => lv_tableOut hF.1 hF.2.1 hd h ht h') k
theorem X.lookup {dflt : Int} {ps : Array (Int × Int)} {len : Nat} {x : Int32} {off : Int} {tgt : Nat} (hd : decode cc pc = .ok (.lookupswitch dflt ps, len)) (hp : (ps.toList.zip (ps.toList.drop 1)).all (fun (a, next) => a.1 < next.1) = true) (ho : Op.lookupswitch.offset ps.toList dflt x.toInt = off) (ht : (pc : Int) + off = (tgt : Int))
    (k : X E y cc nL ret tg d nc ns tgt o st S I L R n K) : X E y cc nL ret tg d nc ns pc o (.int x :: st) S I L R n K :=
  X.pass (fun hF _ h => lv_lookup hF.1 hF.2.1 hd hp ho ht h) k
theorem X.objInit {x a : Nat} (hd : decode cc pc = .ok (.invokespecial x, 3)) (hl : Cond.methodLink y.cls x Lib.objectInit ∈ wsG) (hi : Cond.instanceMethod Lib.objectInit ∈ wsG) (hc : Cond.code Lib.objectInit ⟨#[0xb1]⟩ 1 none ∈ wsG) (hdd : 1 ≤ d) (hsum : (st.map fun v => v.category).sum ≤ 8)
    (k : X E y cc nL ret tg d nc ns (pc + 3) o st S I L R n K) : X E y cc nL ret tg d nc ns pc o (.ref a :: st) S I L R n K := by
  intro p e Rm s m args below meth c Zs H locs cells slots ls hF h1 h2 hZ hW hS0 hc0 hs hL
  refine W.objInit hF.1 hF.2.1 hF.2.2.2.1 (hF.2.2.2.2.1 _ hl) (hF.2.2.2.2.1 _ hi) (hF.2.2.2.2.1 _ hc) rfl (by rw [hF.2.2.1]; exact hL.1) rfl hd (by omega) ?_ (k p e Rm s m args below meth c Zs H locs cells slots ls hF h1 h2 hZ hW hS0 hc0 hs hL)
  have h9 := lv_room (m := m) (pc := pc) (ls := ls) (rest := .ref a :: st) hsum
  omega
/-! calls -/
def MW (y' : MethodName) (cc' : ByteArray) (nL' : Nat) (ret' : Option FieldType) (k : Nat) : Prop := Cond.initialized y'.cls ∈ wsG ∧ Cond.code y' cc' nL' ret' ∈ wsG ∧ (y'.cls ≠ "java/lang/invoke/MethodHandle" ∧ y'.cls ≠ "java/lang/invoke/VarHandle" ∧ (parseMethodDescriptor y'.desc).map (fun d => d.parameters.length) = some k) ∧ nL' ≤ 41
def LK (own : String) (x : Nat) (y' : MethodName) : Prop := Cond.methodLink own x y' ∈ wsG ∨ ∃ h : String, (own, x, y', h) ∈ nestM
theorem va_go {K' : KT} {mc ms : Nat} {stk : List Value}
    {p : Program} {e : Jvm.Env} {Rm : Room} {s : State} {m : MethodId} {args : Array Value} {below : List Frame} {meth : Method} {c : Code} {Zs : State → Prop} {H : Heap} {locs : List Loc} {cells slots : Nat} {ls : Array Slot}
    (hr : va_Run p E.1 e Rm s m args below meth c H locs cells slots mc ms (F0 m pc ls stk) st (fun (st : State) (oc : Outcome) (t : State) => ∃ (v : Option Value) (S' : MS) (I' : MI) (L' : ML) (R' : MR) (n' : Nat), oc = .returned v ∧ K' v S' I' L' R' n' ∧ WR E tg S' I' L' R' n' t.heap ∧ st.heap.size ≤ t.heap.size) (aA E))
    (kk : ∀ v S' I' L' R' n', K' v S' I' L' R' n' → X E y cc nL ret tg d nc ns (pc + 3) o (v.toList ++ st) S' I' L' R' n' K)
    (hF : Fx E y cc nL ret p s m args meth c) (h1 : d ≤ Rm.frames) (h2 : 60 * d ≤ Rm.locals)
    (hZ : ∀ (v : Option Value) (S' : MS) (I' : MI) (L' : ML) (R' : MR) (n' : Nat) (H' : Heap) (locs' : List Loc) (cells' slots' pc' : Nat) (ls' : Array Slot), K v S' I' L' R' n' → WR E tg S' I' L' R' n' H' → va_S (aA E) s.heap H' locs' → cells' ≤ Rm.cells → slots' ≤ Rm.slots → RetAt cc ret pc' v →
      W p E.1 e Rm s m args below meth c H' locs' cells' slots' Zs (F0 m pc' ls' v.toList))
    (hS0 : va_S (aA E) s.heap H locs) (hW : HB E H) (hc : cells + (mc + nc) ≤ Rm.cells) (hs : slots + (ms + ns) ≤ Rm.slots) (hL : LH ls nL o) : W p E.1 e Rm s m args below meth c H locs cells slots Zs (F0 m pc ls stk) := by
  intro T hT XX
  obtain ⟨v, st₀, t, T', L', h0, X', hL', e1, e2, ⟨v', S', I', L1, R', n', hv, hK', hW', hsz⟩, stp⟩ := hr T hT XX
  cases hv
  rw [h0] at hsz
  have hsz' : H.size ≤ T'.heap.size := by rw [e1]; exact hsz
  obtain ⟨t2, a1, b1⟩ := kk v S' I' L1 R' n' hK' p e Rm s m args below meth c Zs T'.heap (locs ++ L') (cells + mc) (slots + ms) ls hF h1 h2 hZ (by rw [e1]; exact hW')
    ⟨Nat.le_trans hS0.1 hsz', fun q g1 g2 => by
      have hb : q < e_b E := Nat.lt_of_not_le g2
      rw [e1, hW'.2.1.2 q hb, hF.2.2.2.2.2.2.2.2.2.2 q hb], fun q hq => by
      rcases List.mem_append.mp hq with h | h
      · exact hS0.2.2 q h
      · exact hL' q h⟩ (by omega) (by omega) hL T' rfl X'
  exact ⟨t2, stp t2 a1, b1⟩
theorem pcBlind {as : List Value} : FrameBlind (fun (a : Array Value) (U : State) => a = as.toArray ∧ VMok E U ∧ WR E tg S I L R n U.heap) := fun a U g mk h => ⟨h.1, VMok.same rfl h.2.1, h.2.2⟩
theorem X.callV {x b ci d' mc ms : Nat} {y' : MethodName} {cc' : ByteArray} {nL' : Nat} {ret' : Option FieldType} {K' : KT} {As stk : List Value}
    (hw : MW y' cc' nL' ret' As.length ∧ LK y.cls x y' ∧ Cond.instanceMethod y' ∈ wsG ∧ Cond.selects y'.cls y' y' ∈ wsG) (hd : decode cc pc = .ok (.invokevirtual x, 3)) (hS : (S b).1 = ci) (hci : ci < 13 ∧ clR ci = y'.cls) (hdd : d' + 1 ≤ d)
    (hC : C E y' cc' nL' ret' tg d' mc ms (.ref (e_b E + b) :: As) S I L R n K') (hst : stk = As.reverse ++ .ref (e_b E + b) :: st) (hsum : (st.map fun v => v.category).sum ≤ 8)
    (kk : ∀ v S' I' L' R' n', K' v S' I' L' R' n' → X E y cc nL ret tg d nc ns (pc + 3) o (v.toList ++ st) S' I' L' R' n' K) : X E y cc nL ret tg d (mc + nc) (ms + ns) pc o stk S I L R n K := by
  intro p e Rm s m args below meth c Zs H locs cells slots ls hF h1 h2 hZ hW hS0 hc hs hL
  obtain ⟨⟨g1, g2, g3, g4⟩, g5, g6, g7⟩ := hw
  have hts := hF.2.2.2.2.1
  have hvm := hF.2.2.2.2.2.2.2.2.1
  have hat := memL_at (E := E) (S := S) (I := I) (L := L) (R := R) (hW.lt hS (by omega))
  rw [cel_o hS (by omega)] at hat
  have hrecv := va_recv (q := (clR ci, clT ci, cN ci)) hvm.1 hW.1 (cl_ok ci hci.1).1 hat
  rw [show ((clR ci, clT ci, cN ci) : vw_C).1 = y'.cls from hci.2] at hrecv
  have hpre : PreV s H y'.cls (e_b E + b) (fun (a : Array Value) (U : State) => a = (Value.ref (e_b E + b) :: As).toArray ∧ VMok E U ∧ WR E tg S I L R n U.heap) As :=
    ⟨pcBlind, hrecv, fun U hU hWm => ⟨rfl, hvm.warm hWm, by rw [hU]; exact hW⟩⟩
  have hRm : d' + 1 ≤ Rm.frames ∧ 8 + (nL' + 11) + 60 * d' ≤ Rm.locals := by omega
  rcases g5 with g5 | ⟨h, g5⟩
  · refine va_go (va_runV (n := As.length) ⟨hF.1, hF.2.1, hF.2.2.1, hF.2.2.2.1, hts⟩ hC ⟨callB_of As.length hts (goodG _ _ _ _ g2) rfl rfl rfl (hts _ g1) (hts _ g5) g3 hRm, hts _ g6, hts _ g7⟩ hpre rfl rfl hL.1 hst (lv_room hsum) hd (by omega)) kk hF h1 h2 hZ hS0 hW.2.1 hc hs hL
  · refine va_go (va_runVN (n := As.length) ⟨hF.1, hF.2.1, hF.2.2.1, hF.2.2.2.1, hts⟩ hC ⟨va_cnB As.length hts (goodG _ _ _ _ g2) rfl rfl rfl (hvm.2.2.1 _ g5) (hts _ g1) g3 hRm, hts _ g6, hts _ g7⟩ hpre rfl rfl hL.1 hst (lv_room hsum) hd (by omega)) kk hF h1 h2 hZ hS0 hW.2.1 hc hs hL
theorem X.callS {x d' mc ms : Nat} {y' : MethodName} {cc' : ByteArray} {nL' : Nat} {ret' : Option FieldType} {K' : KT} {As stk : List Value}
    (hw : MW y' cc' nL' ret' As.length ∧ LK y.cls x y' ∧ Cond.static y' ∈ wsG) (hd : decode cc pc = .ok (.invokestatic x, 3)) (hdd : d' + 1 ≤ d)
    (hC : C E y' cc' nL' ret' tg d' mc ms As S I L R n K') (hst : stk = As.reverse ++ st) (hsum : (st.map fun v => v.category).sum ≤ 8)
    (kk : ∀ v S' I' L' R' n', K' v S' I' L' R' n' → X E y cc nL ret tg d nc ns (pc + 3) o (v.toList ++ st) S' I' L' R' n' K) : X E y cc nL ret tg d (mc + nc) (ms + ns) pc o stk S I L R n K := by
  intro p e Rm s m args below meth c Zs H locs cells slots ls hF h1 h2 hZ hW hS0 hc hs hL
  obtain ⟨⟨g1, g2, g3, g4⟩, g5, g6⟩ := hw
  have hts := hF.2.2.2.2.1
  have hvm := hF.2.2.2.2.2.2.2.2.1
  have hpre : PreS s H (fun (a : Array Value) (U : State) => a = As.toArray ∧ VMok E U ∧ WR E tg S I L R n U.heap) As :=
    ⟨pcBlind, fun U hU hWm => ⟨rfl, hvm.warm hWm, by rw [hU]; exact hW⟩⟩
  have hRm : d' + 1 ≤ Rm.frames ∧ 8 + (nL' + 11) + 60 * d' ≤ Rm.locals := by omega
  rcases g5 with g5 | ⟨h, g5⟩
  · exact va_go (va_runS (n := As.length) ⟨hF.1, hF.2.1, hF.2.2.1, hF.2.2.2.1, hts⟩ hC ⟨callB_of As.length hts (goodG _ _ _ _ g2) rfl rfl rfl (hts _ g1) (hts _ g5) g3 hRm, hts _ g6⟩ hpre rfl rfl hL.1 hst (lv_room hsum) hd (by omega)) kk hF h1 h2 hZ hS0 hW.2.1 hc hs hL
  · exact va_go (va_runSN (n := As.length) ⟨hF.1, hF.2.1, hF.2.2.1, hF.2.2.2.1, hts⟩ hC ⟨va_cnB As.length hts (goodG _ _ _ _ g2) rfl rfl rfl (hvm.2.2.1 _ g5) (hts _ g1) g3 hRm, hts _ g6, trivial⟩ hpre rfl rfl hL.1 hst (lv_room hsum) hd (by omega)) kk hF h1 h2 hZ hS0 hW.2.1 hc hs hL
theorem X.callI {x b d' mc ms : Nat} {y' : MethodName} {cc' : ByteArray} {nL' : Nat} {K' : KT} {As stk : List Value}
    (hw : MW y' cc' nL' none As.length ∧ LK y.cls x y' ∧ Cond.instanceMethod y' ∈ wsG ∧ y'.name = "<init>") (hd : decode cc pc = .ok (.invokespecial x, 3)) (hdd : d' + 1 ≤ d)
    (hC : C E y' cc' nL' none tg d' mc ms (.ref (e_b E + b) :: As) S I L R n K') (hst : stk = As.reverse ++ .ref (e_b E + b) :: st) (hsum : (st.map fun v => v.category).sum ≤ 8)
    (kk : ∀ v S' I' L' R' n', K' v S' I' L' R' n' → X E y cc nL ret tg d nc ns (pc + 3) o (v.toList ++ st) S' I' L' R' n' K) : X E y cc nL ret tg d (mc + nc) (ms + ns) pc o stk S I L R n K := by
  intro p e Rm s m args below meth c Zs H locs cells slots ls hF h1 h2 hZ hW hS0 hc hs hL
  obtain ⟨⟨g1, g2, g3, g4⟩, g5, g6, g7⟩ := hw
  have hts := hF.2.2.2.2.1
  have hvm := hF.2.2.2.2.2.2.2.2.1
  have hpre : PreS s H (fun (a : Array Value) (U : State) => a = (Value.ref (e_b E + b) :: As).toArray ∧ VMok E U ∧ WR E tg S I L R n U.heap) (.ref (e_b E + b) :: As) :=
    ⟨pcBlind, fun U hU hWm => ⟨rfl, hvm.warm hWm, by rw [hU]; exact hW⟩⟩
  have hRm : d' + 1 ≤ Rm.frames ∧ 8 + (nL' + 11) + 60 * d' ≤ Rm.locals := by omega
  rcases g5 with g5 | ⟨h, g5⟩
  · exact va_go (va_runI (n := As.length) ⟨hF.1, hF.2.1, hF.2.2.1, hF.2.2.2.1, hts⟩ hC ⟨callB_of As.length hts (goodG _ _ _ _ g2) rfl rfl rfl (hts _ g1) (hts _ g5) g3 hRm, g7, hts _ g6⟩ hpre rfl rfl hL.1 hst (lv_room hsum) hd (by omega)) kk hF h1 h2 hZ hS0 hW.2.1 hc hs hL
  · exact va_go (va_runIN (n := As.length) ⟨hF.1, hF.2.1, hF.2.2.1, hF.2.2.2.1, hts⟩ hC ⟨va_cnB As.length hts (goodG _ _ _ _ g2) rfl rfl rfl (hvm.2.2.1 _ g5) (hts _ g1) g3 hRm, g7, hts _ g6⟩ hpre rfl rfl hL.1 hst (lv_room hsum) hd (by omega)) kk hF h1 h2 hZ hS0 hW.2.1 hc hs hL
end XC
