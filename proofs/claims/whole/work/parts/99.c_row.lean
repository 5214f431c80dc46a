/-! law.row: the class's own refusal is caught -/
theorem vp0 {N : Nat} (h : 0 < N) : vp_in 0 N := fun z => by
  have h0 : Int32.toNatClampNeg 0 = 0 := by decide
  rcases z with z | z
  · exact absurd z (by decide)
  · rw [h0] at z
    omega
theorem mw_GWL_row : MW y_GWL_row b_GWL_row 2 (some .long) 1 := ⟨(wg 1 (by decide +kernel) rfl), (wg 1015 (by decide +kernel) rfl), ⟨by decide, by decide, by decide +kernel⟩, by decide⟩
theorem cv_Law_7 : MW y_GWL_row b_GWL_row 2 (some .long) 1 ∧ LK "GuideWalksLastLaw" 7 y_GWL_row ∧ Cond.instanceMethod y_GWL_row ∈ wsG ∧ Cond.selects y_GWL_row.cls y_GWL_row y_GWL_row ∈ wsG := ⟨mw_GWL_row, Or.inl (wg 1012 (by decide +kernel) rfl), (wg 1013 (by decide +kernel) rfl), (wg 1014 (by decide +kernel) rfl)⟩
theorem mw_Numbers_at : MW y_Numbers_at b_Numbers_at 2 (some .long) 1 := ⟨(wg 3 (by decide +kernel) rfl), (wg 1080 (by decide +kernel) rfl), ⟨by decide, by decide, by decide +kernel⟩, by decide⟩
theorem cv_GWL_407 : MW y_Numbers_at b_Numbers_at 2 (some .long) 1 ∧ LK "GuideWalksLast" 407 y_Numbers_at ∧ Cond.instanceMethod y_Numbers_at ∈ wsG ∧ Cond.selects y_Numbers_at.cls y_Numbers_at y_Numbers_at ∈ wsG := ⟨mw_Numbers_at, Or.inl (wg 1077 (by decide +kernel) rfl), (wg 1078 (by decide +kernel) rfl), (wg 1079 (by decide +kernel) rfl)⟩
set_option maxRecDepth 100000 in
theorem c_GWL_row {E : Env} (hE : OKE E) {tg : Bool} {d : Nat} (hd : 1 ≤ d) {S : MS} {I : MI} {L : ML} {R : MR} {n : Nat} {t b : Nat} {p1 : Int32} {v : Int64} (hS : (S t).1 = 11) (hb : R t 1 = some b) (hSb : (S b).1 = 4) (h0 : ¬ p1 < 0) (h1 : p1 < I b 1) (h : f_Numbers_at S R I L b p1 = some v) : C E y_GWL_row b_GWL_row 2 (some .long) tg d 0 0 [.ref (e_b E + t), .int p1] S I L R n (Kq (some (.long v)) S I L R n) := by
  refine C.of (o := [some (.ref (e_b E + t)), some (.int p1)]) (by decide) rfl (Nat.le_of_ble_eq_true rfl) ?_
  refine X.iload_1 (pc := 0) (by decide +kernel) ?_
  refine X.if_lt_f (pc := 1) (off := 14) (tgt := 15) h0 rfl (by decide +kernel) ?_
  refine X.iload_1 (pc := 4) (by decide +kernel) ?_
  refine X.aload_0 (pc := 5) (by decide +kernel) ?_
  refine X.getR (pc := 6) (k := 1) fw_GWL_19 (by decide +kernel) (fun _ => rfl) hS hb ?_
  refine X.getI (pc := 9) (k := 1) fw_GWL_403 (by decide +kernel) (fun _ => rfl) hSb ?_
  refine X.icmp_lt_t (pc := 12) (off := 11) (tgt := 23) h1 rfl (by decide +kernel) ?_
  refine X.aload_0 (pc := 23) (by decide +kernel) ?_
  refine X.getR (pc := 24) (k := 1) fw_GWL_19 (by decide +kernel) (fun _ => rfl) hS hb ?_
  refine X.iload_1 (pc := 27) (by decide +kernel) ?_
  refine X.callVl (pc := 28) (nc := 0) (ns := 0) (c_Numbers_at hE (dle hd (Nat.le_of_ble_eq_true rfl)) hSb h) cv_GWL_407 (by decide +kernel) hSb ⟨by decide, rfl⟩ (ddd hd (Nat.le_of_ble_eq_true rfl)) rfl (Nat.le_of_ble_eq_true rfl) rfl rfl ?_
  exact X.lreturn (pc := 31) (by decide +kernel) rfl ⟨rfl, rfl, rfl, rfl, rfl, rfl⟩
/-! the throw -/
def nsX : String := "java/util/NoSuchElementException"
def nsN : List String := ["java/lang/RuntimeException", "java/lang/Exception"]
set_option maxRecDepth 20000 in
theorem nx_in : ∀ w ∈ (vx_at0 "GuideWalksLast" 406 nsX nsN).filter goodWord, w ∈ lw_tbl := by decide +kernel
def nxB : List Cond := [Cond.castable nsX nsX, Cond.declares (Bundle.init0 "java/lang/RuntimeException"), Cond.declares (Bundle.init0 "java/lang/Exception"), Cond.declares (Bundle.init0 Bundle.tN)]
theorem nx_bad : ∀ w ∈ (vx_at0 "GuideWalksLast" 406 nsX nsN).filter (fun w => !goodWord w), w ∈ nxB := by decide +kernel
set_option maxRecDepth 20000 in
theorem nx_bin : ∀ w ∈ nxB, w ∈ lw_tbl := by decide +kernel
theorem nx_ot : ∀ w ∈ Cond.classLink "GuideWalksLast" 404 nsX :: Cond.initialized nsX :: vx_at0 "GuideWalksLast" 406 nsX nsN, vx_ot w = true := by decide +kernel
theorem nx_tr {E : Env} (hE : OKE E) : E.1.stackTraces = false := by
  unfold Launch.stackTraces
  rw [hE.2.2.2.2.2.1]
  decide
theorem nx_cast {E : Env} (hE : OKE E) {s : State} (hv : VMok E s) (args : Array Value) : (Cond.castable nsX nsX).before args s = true := by
  have h := hE.2.2.2.2.2.2.2 _ (tb_at (w := Cond.castable nsX nsX) 1018 (by decide +kernel))
  refine va_tabs (A := #[Value.ref (E.2.2.2 9)]) rfl (rfl : (E.2.1.setVm s.vm).vm = s.vm) ?_
  rw [Cond.castable_setVm hv.2.2.2.2.2.2]
  exact h
theorem nx_dec {E : Env} (hE : OKE E) {s : State} (hv : VMok E s) (args : Array Value) {x : MethodName} (hx : Cond.declares x ∈ nxB) : (Cond.declares x).before args s = true := by
  have h := hE.2.2.2.2.2.2.2 _ (nx_bin _ hx)
  refine va_tabs (A := #[Value.ref (E.2.2.2 9)]) rfl (rfl : (E.2.1.setVm s.vm).vm = s.vm) ?_
  rw [Cond.declares_setVm hv.2.2.2.2.2.2]
  exact h
theorem nx_all {E : Env} (hE : OKE E) {s : State} (hv : VMok E s) (args : Array Value) : ∀ w ∈ nxB, w.before args s = true := by
  intro w hw
  rcases List.mem_cons.mp hw with rfl | h
  · exact nx_cast hE hv args
  rcases List.mem_cons.mp h with rfl | h
  · exact nx_dec hE hv args hw
  rcases List.mem_cons.mp h with rfl | h
  · exact nx_dec hE hv args hw
  rcases List.mem_cons.mp h with rfl | h
  · exact nx_dec hE hv args hw
  cases h
theorem nx_st {E : Env} (hE : OKE E) {s : State} (hv : VMok E s) (hH : HB E s.heap) {n d : String} (h1 : Cond.laysStatic Bundle.tN n d ∈ lw_tbl) (h2 : (Cond.isRef (.static Bundle.tN n d)).before #[Value.ref (E.2.2.2 9)] E.2.1 = true) : vx_Zq Bundle.tN n d (aA E) s s.heap := by
  have hw := hE.2.2.2.2.2.2.2
  have h0 : vx_Zq Bundle.tN n d (aA E) E.2.1 E.2.1.heap := vx_Zqof (hw _ h1) (hw _ (tb_at (w := Cond.initialized Bundle.tN) 23 (by decide +kernel))) h2 (fun a ha (z : e_b E ≤ a) => by
    have : e_b E = E.2.1.heap.size := rfl
    omega)
  exact (vx_Zq.moved hv.2.2.2.2.2.2 h0).kept (fun a ha _ => hH.2 a ha)
theorem WR.more {E : Env} {tg : Bool} {S : MS} {I : MI} {L : ML} {R : MR} {n : Nat} {H H1 : Heap} (h : WR E tg S I L R n H) (hz : H.size ≤ H1.size) (hq : ∀ q, q < H.size → H1[q]? = H[q]?) : WR E false S I L R n H1 :=
  ⟨h.1.kept fun k x hx => hq _ ((h.1 k x hx).lt), h.2.1.of hz (fun q hb => hq q (by have := h.2.1.1; omega)), h.2.2.1, Nat.le_trans h.2.2.2.1 hz, fun z => (nomatch z)⟩
def rQ (E : Env) : Array Value → State → Outcome → State → Prop := va_Ql (S := Unit) (fun _ _ => False) (fun _ _ => True) (aA E)
def rX (E : Env) (S : MS) (I : MI) (L : ML) (R : MR) (n : Nat) : String → State → State → Prop := vx_X (S := Unit) (fun _ => True) (fun X _ t => X = nsX ∧ WR E false S I L R n t.heap) (aA E)
theorem gr_throw {E : Env} (hE : OKE E) {d : Nat} (hd : 8 ≤ d) {o : List (Option Value)} {S : MS} {I : MI} {L : ML} {R : MR} {n : Nat} : XZ E y_GWL_row b_GWL_row 2 (some .long) false d 1 6 15 o [] S I L R n
    (fun _ _ Rm s _ args below _ c Zs => Zs = vx_MQ below (rQ E) (rX E S I L R n) args s 1 6 (aA E) ∧ (∀ x ∈ c.exceptionTable.toList, False) ∧ Rm.cells = 1 ∧ Rm.slots = 6) := by
  intro p e Rm s m args below meth c Zs H locs cells slots ls hF h1 h2 hZ hW hS0 hc hs hL
  obtain ⟨rfl, ht, r1, r2⟩ := hZ
  have hts := hF.2.2.2.2.1
  have hvm := hF.2.2.2.2.2.2.2.2.1
  have hH := hF.2.2.2.2.2.2.2.2.2
  have hg := hE.2.2.2.2.2.2.1
  have hat : ∀ w ∈ vx_at0 "GuideWalksLast" 406 nsX nsN, w.before args s = true := vx_hat (fun w hw => hts w (wsG_mem (nx_in w hw) (List.mem_filter.mp hw).2)) nx_bad (nx_all hE hvm args)
  refine vx_throw0 (own := "GuideWalksLast") (cls := nsX) (names := nsN) (ik := 404) (ic := 406) (A := aA E) hF.1 hF.2.1 (nx_tr hE) hF.2.2.2.1 (by decide +kernel) (by decide +kernel) (hts _ (wg 1016 (by decide +kernel) rfl)) (hts _ (wg 26 (by decide +kernel) rfl)) hat nx_ot
    (nx_st hE hvm hH (tb_at 1043 (by decide +kernel)) (flat_of_before _ hg _ (by decide +kernel))) (nx_st hE hvm hH (tb_at 1045 (by decide +kernel)) (flat_of_before _ hg _ (by decide +kernel))) hS0 (hL.1.trans hF.2.2.1.symm)
    (by decide +kernel) (by decide +kernel) (by decide +kernel) (by decide +kernel) (fun x hx => (ht x hx).elim) (by show 2 + 3 < Rm.frames; omega) (by show 0 + (13 * (2 + 1) + 42) ≤ Rm.locals; omega) (by omega) (by omega) hF.2.2.2.2.2.2.1
    (fun t _ hz hq => ⟨(), trivial, ⟨rfl, hW.more hz hq⟩, ⟨Nat.le_trans hS0.1 hz, fun q g1 g2 => (hq q (Nat.lt_of_lt_of_le g1 hS0.1)).trans (hS0.2.1 q g1 g2)⟩⟩) hS0.2.2 (by omega) (by omega)
theorem t_GWL_row {E : Env} (hE : OKE E) {S : MS} {I : MI} {L : ML} {R : MR} {n : Nat} {t b : Nat} {p1 : Int32} (hS : (S t).1 = 11) (hb : R t 1 = some b) (hSb : (S b).1 = 4) (hc : p1 < 0 ∨ I b 1 ≤ p1) :
    vx_Met E.1 y_GWL_row (Cond.code y_GWL_row b_GWL_row 2 (some .long) :: wsG) { frames := 8, cells := 1, slots := 6, locals := 60 * 8 } (fun a U => a = ([.ref (e_b E + t), .int p1] : List Value).toArray ∧ VMok E U ∧ WR E false S I L R n U.heap) (rQ E) (rX E S I L R n) 1 6 (aA E) := by
  refine vx_ofW (cc := b_GWL_row) (maxL := 2) (ret := some .long) (by decide) rfl ?_
  intro p e s m args below meth c s₁ B hml ht hv
  obtain ⟨rfl, hvm, hW⟩ := hv
  have hts := atoms_spec (ws := Cond.code y_GWL_row b_GWL_row 2 (some .long) :: wsG) B.pre
  have hl := lv_entry ([.ref (e_b E + t), .int p1] : List Value) (n := 2) (Nat.le_of_ble_eq_true rfl)
  have K : XZ E y_GWL_row b_GWL_row 2 (some .long) false 8 1 6 0 [some (.ref (e_b E + t)), some (.int p1)] [] S I L R n
    (fun _ _ Rm s _ args below _ c Zs => Zs = vx_MQ below (rQ E) (rX E S I L R n) args s 1 6 (aA E) ∧ (∀ x ∈ c.exceptionTable.toList, False) ∧ Rm.cells = 1 ∧ Rm.slots = 6) := by
    refine XZ.iload_1 (pc := 0) (by decide +kernel) ?_
    refine XZ.if_lt (pc := 1) (off := 14) (tgt := 15) rfl (by decide +kernel) (fun _ => gr_throw hE (Nat.le_refl _)) (fun h0 => ?_)
    refine XZ.iload_1 (pc := 4) (by decide +kernel) ?_
    refine XZ.aload_0 (pc := 5) (by decide +kernel) ?_
    refine XZ.getR (pc := 6) (k := 1) fw_GWL_19 (by decide +kernel) (fun _ => rfl) hS hb ?_
    refine XZ.getI (pc := 9) (k := 1) fw_GWL_403 (by decide +kernel) (fun _ => rfl) hSb ?_
    refine XZ.icmp_lt (pc := 12) (off := 11) (tgt := 23) rfl (by decide +kernel) (fun h1 => ?_) (fun _ => gr_throw hE (Nat.le_refl _))
    exfalso
    rcases hc with hc | hc
    · exact h0 hc
    · exact Int32.not_lt.mpr hc h1
  rw [lg_entry_eq]
  refine K p e _ s m ([.ref (e_b E + t), .int p1] : List Value).toArray below meth c _ s.heap [] 0 0 _ ⟨B.exec, B.bytes, hml, findClass_of_methodNamed B.named, fun w hw => hts w (List.mem_cons_of_mem _ hw), B.returns, B.notSynchronized, (name_of_methodNamed B.named B.method).1, hvm, hW.2.1⟩ (Nat.le_refl _) (Nat.le_refl _) ⟨rfl, ht, rfl, rfl⟩ hW va_S.rf (Nat.le_refl _) (Nat.le_refl _) ?_
  exact lv_has.mem hl fun q hq => entL_mem [.ref (e_b E + t), .int p1] 0 [] q (fun x hx => nomatch hx) hq
/-! a contract of a method with a table of its own -/
def CW (E : Env) (y : MethodName) (cc : ByteArray) (nL : Nat) (ret : Option FieldType) (hh : List (Nat × Nat × Nat × Nat)) (tg : Bool) (d nc ns : Nat) (as : List Value) (S : MS) (I : MI) (L : ML) (R : MR) (n : Nat) (K : KT) : Prop :=
  Met E.1 y (Cond.codeWith y cc nL ret hh :: wsG) { frames := d, cells := nc, slots := ns, locals := 60 * d } (fun a U => a = as.toArray ∧ VMok E U ∧ WR E tg S I L R n U.heap)
    (fun _ st oc t => ∃ (v : Option Value) (S' : MS) (I' : MI) (L' : ML) (R' : MR) (n' : Nat), oc = .returned v ∧ K v S' I' L' R' n' ∧ WR E tg S' I' L' R' n' t.heap ∧ st.heap.size ≤ t.heap.size) nc ns (aA E)
theorem CW.of {E : Env} {y : MethodName} {cc : ByteArray} {nL : Nat} {ret : Option FieldType} {hh : List (Nat × Nat × Nat × Nat)} {tg : Bool} {d nc ns : Nat} {as : List Value} {o : List (Option Value)} {S : MS} {I : MI} {L : ML} {R : MR} {n : Nat} {K : KT}
    (hy : plainName y.cls = true) (ho : entL nL as = o) (hn : (lg_sl as).length ≤ nL) (h : XZ E y cc nL ret tg d nc ns 0 o [] S I L R n (fun p e Rm s m args below meth c Zs => HK E cc ret tg K p e Rm s m args below meth c Zs ∧ c.exceptionTable.toList = tableOf hh)) : CW E y cc nL ret hh tg d nc ns as S I L R n K := by
  refine va_MetW (cc := cc) (maxL := nL) (ret := ret) (hh := hh) hy rfl ?_
  intro p e s m args below meth c s₁ B hml hv
  obtain ⟨rfl, hvm, hW⟩ := hv
  have hown : s.vm.findClass y.cls = some m.cls := findClass_of_methodNamed B.named
  have hts := atoms_spec (ws := Cond.codeWith y cc nL ret hh :: wsG) B.pre
  have hr : meth.sig.returnType = ret := B.returns
  have hlocks : meth.locks = false := B.notSynchronized
  have hnm : meth.name = y.name := (name_of_methodNamed B.named B.method).1
  have htab := vx_table (x := y) B (hts _ List.mem_cons_self)
  have hl := lv_entry as (n := nL) hn
  rw [lg_entry_eq]
  refine h p e _ s m as.toArray below meth c _ s.heap [] 0 0 _ ⟨B.exec, B.bytes, hml, hown, fun w hw => hts w (List.mem_cons_of_mem _ hw), hr, hlocks, hnm, hvm, hW.2.1⟩ (Nat.le_refl _) (Nat.le_refl _) ⟨?_, htab⟩ hW va_S.rf (by show 0 + nc ≤ nc; omega) (by show 0 + ns ≤ ns; omega) ?_
  · intro v S' I' L' R' n' H' locs' cells' slots' pc' ls' hK hW' hS' hc' hs' hra
    refine W.widen (k := nc) (n := ns) hc' hs' ?_
    have hq : ∀ t : State, t.heap = H' → s.WarmedH t.vm → (fun (_ : Array Value) (st : State) (oc : Outcome) (t : State) => ∃ (v : Option Value) (S' : MS) (I' : MI) (L' : ML) (R' : MR) (n' : Nat), oc = .returned v ∧ K v S' I' L' R' n' ∧ WR E tg S' I' L' R' n' t.heap ∧ st.heap.size ≤ t.heap.size) as.toArray s (.returned v) t :=
      fun t ht _ => ⟨v, S', I', L', R', n', rfl, hK, by rw [ht]; exact hW', by rw [ht]; exact hS'.1⟩
    match v, hra, hq with
    | none, hra, hq =>
      exact W.vret B.exec B.bytes (hr.trans hra.1) hq hS'.2.2 hra.2 hlocks
    | some (.int x), hra, hq =>
      obtain ⟨⟨ty, e1, e2⟩, e3⟩ := hra
      exact W.zret B.exec B.bytes (hr.trans e1) e2 hq hS'.2.2 e3 hlocks
    | some (.long x), hra, hq =>
      exact W.lret B.exec B.bytes (hr.trans hra.1) hq hS'.2.2 hra.2 hlocks
  · subst ho
    refine lv_has.mem hl fun q hq => ?_
    exact entL_mem as 0 _ q (fun x hx => (List.mem_replicate.mp hx).2) hq
section XSH
variable {E : Env} {y : MethodName} {cc : ByteArray} {nL : Nat} {ret : Option FieldType} {tg : Bool} {d nc ns pc : Nat} {o : List (Option Value)} {st : List Value} {S : MS} {I : MI} {L : ML} {R : MR} {n : Nat} {K : KT}
theorem X.callSH {x d' mc ms : Nat} {y' : MethodName} {cc' : ByteArray} {nL' : Nat} {ret' : Option FieldType} {hh : List (Nat × Nat × Nat × Nat)} {K' : KT} {As stk : List Value}
    (hw : (Cond.initialized y'.cls ∈ wsG ∧ Cond.codeWith y' cc' nL' ret' hh ∈ wsG ∧ (y'.cls ≠ "java/lang/invoke/MethodHandle" ∧ y'.cls ≠ "java/lang/invoke/VarHandle" ∧ (parseMethodDescriptor y'.desc).map (fun d => d.parameters.length) = some As.length) ∧ nL' ≤ 41) ∧ Cond.methodLink y.cls x y' ∈ wsG ∧ Cond.static y' ∈ wsG) (hd : decode cc pc = .ok (.invokestatic x, 3)) (hdd : d' + 1 ≤ d)
    (hC : CW E y' cc' nL' ret' hh tg d' mc ms As S I L R n K') (hst : stk = As.reverse ++ st) (hsum : (st.map fun v => v.category).sum ≤ 8)
    (kk : ∀ v S' I' L' R' n', K' v S' I' L' R' n' → X E y cc nL ret tg d nc ns (pc + 3) o (v.toList ++ st) S' I' L' R' n' K) : X E y cc nL ret tg d (mc + nc) (ms + ns) pc o stk S I L R n K := by
  intro p e Rm s m args below meth c Zs H locs cells slots ls hF h1 h2 hZ hW hS0 hc hs hL
  obtain ⟨⟨g1, g2, g3, g4⟩, g5, g6⟩ := hw
  have hts := hF.2.2.2.2.1
  have hvm := hF.2.2.2.2.2.2.2.2.1
  have hpre : PreS s H (fun (a : Array Value) (U : State) => a = As.toArray ∧ VMok E U ∧ WR E tg S I L R n U.heap) As :=
    ⟨pcBlind, fun U hU hWm => ⟨rfl, hvm.warm hWm, by rw [hU]; exact hW⟩⟩
  have hRm : d' + 1 ≤ Rm.frames ∧ 8 + (nL' + 11) + 60 * d' ≤ Rm.locals := by omega
  have hT : GoodIn wsG (va_wsS y.cls x y' (Cond.codeWith y' cc' nL' ret' hh :: wsG)) := fun w hw => by
    unfold va_wsS at hw
    have hm : w ∈ wsG := by
      rcases List.mem_append.mp hw with h | h
      · rcases List.mem_cons.mp h with rfl | h
        · exact g5
        rcases List.mem_cons.mp h with rfl | h
        · exact g6
        rcases List.mem_cons.mp h with rfl | h
        · exact g1
        cases h
      · rcases List.mem_cons.mp h with rfl | h
        · exact g2
        · exact h
    exact ⟨hm, wsG_good _ hm⟩
  exact va_go (vx_runSW (n := As.length) ⟨hF.1, hF.2.1, hF.2.2.1, hF.2.2.2.1, hts⟩ hC (vx_cwSW (ws' := wsG) As.length hts hT rfl rfl rfl g3 hRm) hpre rfl rfl hL.1 hst (lv_room hsum) hd (by omega)) kk hF h1 h2 hZ hS0 hW.2.1 hc hs hL
end XSH
noncomputable def f_Law_row (S : MS) (R : MR) (I : MI) (L : ML) (p1 : Nat) (p2 : Int32) (p3 : Nat) : Option (Int32 × ML) :=
  bnd1 (R p1 1) fun b =>
  asrt ((S p1).1 = 11 ∧ (S b).1 = 4 ∧ (S p3).1 = 21 ∧ 0 < (S p3).2) <|
  ifb (p2 < 0 ∨ I b 1 ≤ p2) (some (1, L)) <|
  bnd1 (f_Numbers_at S R I L b p2) fun v =>
  some (0, wL L p3 0 v)
abbrev lrH : List (Nat × Nat × Nat × Nat) := [(0, 8, 11, 13)]
theorem lr_throw {E : Env} (hE : OKE E) {d : Nat} (hd : 10 ≤ d) {S : MS} {I : MI} {L : ML} {R : MR} {n : Nat} {p1 p3 b : Nat} {p2 : Int32} (hS : (S p1).1 = 11) (hb : R p1 1 = some b) (hSb : (S b).1 = 4) (hcc : p2 < 0 ∨ I b 1 ≤ p2) :
    XZ E y_Law_row b_Law_row 4 (some .int) false d 1 6 4 [some (.ref (e_b E + p1)), some (.int p2), some (.ref (e_b E + p3)), none] [.int p2, .ref (e_b E + p1), .int 0, .ref (e_b E + p3)] S I L R n
      (fun p e Rm s m args below meth c Zs => HK E b_Law_row (some .int) false (Kq (some (.int 1)) S I L R n) p e Rm s m args below meth c Zs ∧ c.exceptionTable.toList = tableOf lrH) := by
  intro p e Rm s m args below meth c Zs H locs cells slots ls hF h1 h2 hZ hW hS0 hc hs hL
  obtain ⟨hz, ht⟩ := hZ
  obtain ⟨⟨g1, g2, g3, g4⟩, g5, g6, g7⟩ := cv_Law_7
  have hts := hF.2.2.2.2.1
  have hvm := hF.2.2.2.2.2.2.2.2.1
  have hat := memL_at (E := E) (S := S) (I := I) (L := L) (R := R) (hW.lt hS (by omega))
  rw [cel_o hS (by omega)] at hat
  have hrecv := va_recv (q := (clR 11, clT 11, cN 11)) hvm.1 hW.1 (cl_ok 11 (by decide)).1 hat
  have hpre : PreV s H y_GWL_row.cls (e_b E + p1) (fun (a : Array Value) (U : State) => a = (Value.ref (e_b E + p1) :: [Value.int p2]).toArray ∧ VMok E U ∧ WR E false S I L R n U.heap) [Value.int p2] :=
    ⟨pcBlind, hrecv, fun U hU hWm => ⟨rfl, hvm.warm hWm, by rw [hU]; exact hW⟩⟩
  have hRm : 8 + 1 ≤ Rm.frames ∧ 8 + (2 + 11) + 60 * 8 ≤ Rm.locals := by omega
  have g5' : Cond.methodLink "GuideWalksLastLaw" 7 y_GWL_row ∈ wsG := wg 1012 (by decide +kernel) rfl
  have hr := vx_runV (p := p) (l := E.1) (e := e) (R := Rm) (s := s) (m := m) (args := args) (below := below) (meth := meth) (c := c) (H := H) (locs := locs) (cells := cells) (slots := slots) (n := 1) (g := F0 m 4 ls [.int p2, .ref (e_b E + p1), .int 0, .ref (e_b E + p3)]) (rest := [.int 0, .ref (e_b E + p3)])
    ⟨hF.1, hF.2.1, hF.2.2.1, hF.2.2.2.1, hts⟩ (t_GWL_row hE (n := n) (L := L) hS hb hSb hcc) ⟨callB_of 1 hts (goodG _ _ _ _ g2) rfl rfl rfl (hts _ g1) (hts _ g5') g3 hRm, hts _ g6, hts _ g7⟩ hpre rfl rfl hL.1 rfl (lv_room (Nat.le_of_ble_eq_true rfl)) (by show decode b_Law_row 4 = .ok (.invokevirtual 7, 3); decide +kernel) (by omega)
  refine vx_calll hr hS0 (fun q _ h => h) (fun q h => h) (fun q _ h => h) ?_ ?_
  · intro X ce q9 u t H1 locs1 e1 e2 _ hB z1 k1 hS1 hce hcv hcl
    obtain ⟨rfl, hW1⟩ := hB
    rw [e1] at hW1
    refine vx_catch (own := "GuideWalksLastLaw") (name := nsX) hF.2.2.2.1 [] ⟨0, 8, 11, 13⟩ [] ht (fun z hz => nomatch hz) (by decide) (by decide) (hts _ (wg 1011 (by decide +kernel) rfl)) (nx_cast hE hvm args) hce hcv hcl ?_
    have T : X E y_Law_row b_Law_row 4 (some .int) false d 0 0 11 [some (.ref (e_b E + p1)), some (.int p2), some (.ref (e_b E + p3)), none] [.ref q9] S I L R n (Kq (some (.int 1)) S I L R n) := by
      refine X.astore_3 (pc := 11) (by decide +kernel) (by decide) rfl ?_
      refine X.iconst (pc := 12) (i := 1) (v := 1) ic_1 (by decide +kernel) ?_
      exact X.ireturn (pc := 13) (by decide +kernel) ⟨_, rfl, rfl⟩ ⟨rfl, rfl, rfl, rfl, rfl, rfl⟩
    exact T p e Rm s m args below meth c Zs H1 locs1 (cells + 1) (slots + 6) ls hF h1 h2 hz hW1 hS1 (by omega) (by omega) hL
  · intro r u t H1 locs1 _ _ hp _ _ _ _
    exact hp.elim
theorem c_Law_row {E : Env} (hE : OKE E) {d : Nat} (hd : 10 ≤ d) {S : MS} {I : MI} {L : ML} {R : MR} {n : Nat} {p1 p3 : Nat} {p2 v : Int32} {L' : ML} (h : f_Law_row S R I L p1 p2 p3 = some (v, L')) :
    CW E y_Law_row b_Law_row 4 (some .int) lrH false d 1 6 [.ref (e_b E + p1), .int p2, .ref (e_b E + p3)] S I L R n (Kq (some (.int v)) S I L' R n) := by
  unfold f_Law_row at h
  obtain ⟨b, hb, h⟩ := bnd1_some h
  obtain ⟨⟨hS, hSb, hS3, hp3⟩, h⟩ := asrt_some h
  refine CW.of (o := [some (.ref (e_b E + p1)), some (.int p2), some (.ref (e_b E + p3)), none]) (by decide) rfl (Nat.le_of_ble_eq_true rfl) ?_
  rcases ifb_some h with ⟨hq, h⟩ | ⟨hq, h⟩
  · have j0 := Option.some.inj h
    obtain ⟨i0, j1⟩ := Prod.mk.inj j0
    subst i0
    subst j1
    refine XZ.aload_2 (pc := 0) (by decide +kernel) ?_
    refine XZ.iconst (pc := 1) (i := 0) (v := 0) ic_0 (by decide +kernel) ?_
    refine XZ.aload_0 (pc := 2) (by decide +kernel) ?_
    refine XZ.iload_1 (pc := 3) (by decide +kernel) ?_
    exact lr_throw hE hd hS hb hSb hq
  · obtain ⟨w, hw, h⟩ := bnd1_some h
    have j0 := Option.some.inj h
    obtain ⟨i0, j1⟩ := Prod.mk.inj j0
    subst i0
    subst j1
    refine XZ.of (K' := Kq (some (.int 0)) S I (wL L p3 0 w) R n) ?_ (fun _ _ _ _ _ _ _ _ _ _ z => z.1)
    refine X.widen (nc' := 0) (ns' := 0) (Nat.zero_le _) (Nat.zero_le _) ?_
    refine X.aload_2 (pc := 0) (by decide +kernel) ?_
    refine X.iconst (pc := 1) (i := 0) (v := 0) ic_0 (by decide +kernel) ?_
    refine X.aload_0 (pc := 2) (by decide +kernel) ?_
    refine X.iload_1 (pc := 3) (by decide +kernel) ?_
    have hd2 : 2 ≤ d := by omega
    refine X.callVl (pc := 4) (nc := 0) (ns := 0) (c_GWL_row hE (dle hd2 (Nat.le_of_ble_eq_true rfl)) hS hb hSb (fun z => hq (Or.inl z)) (Int32.not_le.mp (fun z => hq (Or.inr z))) hw) cv_Law_7 (by decide +kernel) hS ⟨by decide, rfl⟩ (ddd hd2 (Nat.le_of_ble_eq_true rfl)) rfl (Nat.le_of_ble_eq_true rfl) rfl rfl ?_
    refine X.lastore (pc := 7) (by decide +kernel) hS3 (vp0 hp3) ?_
    refine X.goto (pc := 8) (off := 6) (tgt := 14) (by decide +kernel) rfl ?_
    refine X.iconst (pc := 14) (i := 0) (v := 0) ic_0 (by decide +kernel) ?_
    exact X.ireturn (pc := 15) (by decide +kernel) ⟨_, rfl, rfl⟩ ⟨rfl, rfl, rfl, rfl, rfl, rfl⟩
theorem X.callRow {E : Env} (hE : OKE E) {d f pc : Nat} (hd : 200 ≤ d) {o : List (Option Value)} {S : MS} {I : MI} {L : ML} {R : MR} {n : Nat} {K : KT} {p1 p3 : Nat} {p2 v : Int32} {L' : ML}
    (hv : f_Law_row S R I L p1 p2 p3 = some (v, L')) (hdec : decode b_Law_law pc = .ok (.invokestatic 215, 3))
    (kk : X E y_Law_law b_Law_law 8 (some .boolean) false d f (f * 6) (pc + 3) o [.int v] S I L' R n K) :
    X E y_Law_law b_Law_law 8 (some .boolean) false d (f + 1) ((f + 1) * 6) pc o [.ref (e_b E + p3), .int p2, .ref (e_b E + p1)] S I L R n K := by
  have hw : (Cond.initialized y_Law_row.cls ∈ wsG ∧ Cond.codeWith y_Law_row b_Law_row 4 (some .int) lrH ∈ wsG ∧ (y_Law_row.cls ≠ "java/lang/invoke/MethodHandle" ∧ y_Law_row.cls ≠ "java/lang/invoke/VarHandle" ∧ (parseMethodDescriptor y_Law_row.desc).map (fun d => d.parameters.length) = some 3) ∧ 4 ≤ 41) ∧ Cond.methodLink y_Law_law.cls 215 y_Law_row ∈ wsG ∧ Cond.static y_Law_row ∈ wsG :=
    ⟨⟨wg 0 (by decide +kernel) rfl, wg 1010 (by decide +kernel) rfl, ⟨by decide, by decide, by decide +kernel⟩, by decide⟩, wg 1008 (by decide +kernel) rfl, wg 1009 (by decide +kernel) rfl⟩
  rw [show f + 1 = 1 + f by omega, show (1 + f) * 6 = 6 + f * 6 by omega]
  refine X.callSH (As := [.ref (e_b E + p1), .int p2, .ref (e_b E + p3)]) (st := []) hw hdec (d' := d - 1) (by omega) (c_Law_row hE (by omega) hv) rfl (Nat.le_of_ble_eq_true rfl) (fun v1 S1 I1 L1 R1 n1 hk => ?_)
  obtain ⟨rfl, rfl, rfl, rfl, rfl, rfl⟩ := hk
  exact kk
