theorem Met.ofWF {l : Launch} {y : MethodName} {ws ws' : List Cond} {rm : Room} {Pc : Array Value → State → Prop} {Qc : Array Value → State → Outcome → State → Prop} {mc ms : Nat} {free : Addr → Prop} {cc : ByteArray} {maxL : Nat} {ret : Option FieldType}
    (hy : plainFor y = true) (hw : ws = Cond.code y cc maxL ret :: ws')
    (body : ∀ p e s m args below meth c s₁, BodyLoose p l y (headSpec ws rm) cc maxL ret e s m args below meth c s₁ → c.maxLocals = maxL → Pc args s →
      W p l e (headSpec ws rm).room s m args below meth c s.heap [] 0 0 (MQ below Qc args s mc ms free) (entryFrame m args maxL)) : Met l y ws rm Pc Qc mc ms free := by
  refine MetFree.of_bodySF (code := cc) (maxLocals := maxL) (ret := ret) hy ?_ ?_
  · intro args s m h hn
    obtain ⟨meth, c, h1, h2, h3, h4, h5, h6, -, -⟩ := Cond.code_spec hn (atoms_spec (ws := ws) h _ (by rw [hw]; exact List.mem_cons_self))
    exact ⟨meth, c, h1, h2, h3, h4, h5, h6⟩
  · intro p e s m args below meth c s₁ B hml hP _
    have hh0 : s₁.heap = s.heap := by rw [B.state]; rfl
    obtain ⟨t, a1, o, b1, b2, b3⟩ := body p e s m args below meth c s₁ B hml hP s₁ hh0 (Stand.of_body B)
    exact ⟨t, o, a1, b1, b2, ⟨b3.1, b3.2⟩⟩
theorem C.ofF {E : Env} {y : MethodName} {cc : ByteArray} {nL : Nat} {ret : Option FieldType} {tg : Bool} {d nc ns : Nat} {as : List Value} {o : List (Option Value)} {S : MS} {I : MI} {L : ML} {R : MR} {n : Nat} {K : KT}
    (hy : plainFor y = true) (ho : entL nL as = o) (hn : (lg_sl as).length ≤ nL) (h : X E y cc nL ret tg d nc ns 0 o [] S I L R n K) : C E y cc nL ret tg d nc ns as S I L R n K := by
  refine Met.ofWF (cc := cc) (maxL := nL) (ret := ret) hy rfl ?_
  intro p e s m args below meth c s₁ B hml hv
  obtain ⟨rfl, hvm, hW⟩ := hv
  have hown : s.vm.findClass y.cls = some m.cls := findClass_of_methodNamed B.named
  have hts := atoms_spec (ws := Cond.code y cc nL ret :: wsG) B.pre
  have hr : meth.sig.returnType = ret := B.returns
  have hlocks : meth.locks = false := B.notSynchronized
  have hnm : meth.name = y.name := (name_of_methodNamed B.named B.method).1
  have hl := lv_entry as (n := nL) hn
  rw [lg_entry_eq]
  refine h p e _ s m as.toArray below meth c _ s.heap [] 0 0 _ ⟨B.exec, B.bytes, hml, hown, fun w hw => hts w (List.mem_cons_of_mem _ hw), hr, hlocks, hnm, hvm, hW.2.1⟩ (Nat.le_refl _) (Nat.le_refl _) ?_ hW va_S.rf (by show 0 + nc ≤ nc; omega) (by show 0 + ns ≤ ns; omega) ?_
  · intro v S' I' L' R' n' H' locs' cells' slots' pc' ls' hK hW' hS' hc' hs' hra
    refine W.widen (k := nc) (n := ns) hc' hs' ?_
    have hq : ∀ t : State, t.heap = H' → s.WarmedH t.vm → (fun (_ : Array Value) (st : State) (oc : Outcome) (t : State) => ∃ (v : Option Value) (S' : MS) (I' : MI) (L' : ML) (R' : MR) (n' : Nat), oc = .returned v ∧ K v S' I' L' R' n' ∧ WR E tg S' I' L' R' n' t.heap ∧ st.heap.size ≤ t.heap.size) as.toArray s (.returned v) t :=
      fun t ht _ => ⟨v, S', I', L', R', n', rfl, hK, by rw [ht]; exact hW', by rw [ht]; exact hS'.1⟩
    match v, hra, hq with
    | none, hra, hq =>
      exact W.vret B.exec B.bytes (hr.trans hra.1) hq hS'.2.2 hra.2 hlocks
    | some (.int x), hra, hq =>
      obtain ⟨⟨ty, e1, e2⟩, e3⟩ := hra
      exact W.zret B.exec B.bytes (hr.trans e1) e2 hq hS'.2.2 e3 hlocks
    | some (.long x), hra, hq =>
      exact W.lret B.exec B.bytes (hr.trans hra.1) hq hS'.2.2 hra.2 hlocks
  · subst ho
    refine lv_has.mem hl fun q hq => ?_
    exact entL_mem as 0 _ q (fun x hx => (List.mem_replicate.mp hx).2) hq
theorem tabn {x : Int32} {N : Nat} (h : ∀ k : Nat, k < N → ¬ x = Int32.ofNat k) : x.toInt < 0 ∨ (N : Int) - 1 < x.toInt := by
  by_cases h0 : x.toInt < 0
  · exact Or.inl h0
  · right
    refine Int.not_le.mp fun h1 => ?_
    refine h x.toInt.toNat (by omega) ?_
    apply Int32.toInt_inj.mp
    have h2 := Int32.toInt_lt x
    rw [Int32.toInt_ofNat_of_lt (by omega)]
    omega
section XS
variable {E : Env} {y : MethodName} {cc : ByteArray} {nL : Nat} {ret : Option FieldType} {tg : Bool} {d nc ns pc : Nat} {o : List (Option Value)} {st : List Value} {S : MS} {I : MI} {L : ML} {R : MR} {n : Nat} {K : KT}
theorem X.ldcS {x ix : Nat} {tx : String} (hw : (y.cls, x, tx, ix) ∈ strK) (hd : decode cc pc = .ok (.ldc x, 2)) (k : X E y cc nL ret tg d nc ns (pc + 2) o (.ref (E.2.2.2 ix) :: st) S I L R n K) : X E y cc nL ret tg d nc ns pc o st S I L R n K :=
  X.pass (fun hF _ h => va_ldcS hF.1 hF.2.1 hF.2.2.2.1 (hF.2.2.2.2.2.2.2.2.1.2.2.2.1 _ hw) hd h) k
theorem X.ldcwS {x ix : Nat} {tx : String} (hw : (y.cls, x, tx, ix) ∈ strK) (hd : decode cc pc = .ok (.ldc_w x, 3)) (k : X E y cc nL ret tg d nc ns (pc + 3) o (.ref (E.2.2.2 ix) :: st) S I L R n K) : X E y cc nL ret tg d nc ns pc o st S I L R n K := by
  refine X.pass (fun {p e Rm s m args below meth c Zs H locs cells slots ls} hF _ h => ?_) k
  intro T hT XX
  obtain ⟨t, a1, b1⟩ := h T hT XX
  have hZ := hF.2.2.2.2.2.2.2.2.1.2.2.2.1 _ hw
  exact ⟨t, XX.ldcStringW hF.1 hF.2.2.2.1 (text := tx) (a := E.2.2.2 ix) hZ.1 hZ.2 (g := F0 m pc ls st) rfl (by rw [hF.2.1]; exact hd) t a1, b1⟩
end XS
abbrev b_GWL_new : ByteArray := prog_1_method_1_code
def y_GWL_new : MethodName := ⟨"GuideWalksLast", "<init>", "()V"⟩
abbrev b_Signs_new : ByteArray := prog_10_method_1_code
def y_Signs_new : MethodName := ⟨"GuideWalksLast$Signs", "<init>", "()V"⟩
abbrev b_Numbers_new : ByteArray := prog_6_method_1_code
def y_Numbers_new : MethodName := ⟨"GuideWalksLast$Numbers", "<init>", "()V"⟩
abbrev b_Past_new : ByteArray := prog_8_method_1_code
def y_Past_new : MethodName := ⟨"GuideWalksLast$Past", "<init>", "()V"⟩
abbrev b_Party_new : ByteArray := prog_7_method_1_code
def y_Party_new : MethodName := ⟨"GuideWalksLast$Party", "<init>", "()V"⟩
abbrev b_JArr_fill : ByteArray := prog_30_method_103_code
def y_JArr_fill : MethodName := ⟨"java/util/Arrays", "fill", "([II)V"⟩
abbrev b_Fee_new : ByteArray := prog_2_method_1_code
def y_Fee_new : MethodName := ⟨"GuideWalksLast$Fee", "<init>", "()V"⟩
abbrev b_Spread_new : ByteArray := prog_11_method_1_code
def y_Spread_new : MethodName := ⟨"GuideWalksLast$Spread", "<init>", "()V"⟩
abbrev b_Market_new : ByteArray := prog_5_method_1_code
def y_Market_new : MethodName := ⟨"GuideWalksLast$Market", "<init>", "()V"⟩
abbrev b_Land_new : ByteArray := prog_4_method_1_code
def y_Land_new : MethodName := ⟨"GuideWalksLast$Land", "<init>", "()V"⟩
abbrev b_Guide_new : ByteArray := prog_3_method_1_code
def y_Guide_new : MethodName := ⟨"GuideWalksLast$Guide", "<init>", "(LGuideWalksLast$Land;[I)V"⟩
abbrev b_Trail_new : ByteArray := prog_12_method_1_code
def y_Trail_new : MethodName := ⟨"GuideWalksLast$Trail", "<init>", "(LGuideWalksLast$Land;LGuideWalksLast$Party;)V"⟩
abbrev b_Prints_new : ByteArray := prog_9_method_1_code
def y_Prints_new : MethodName := ⟨"GuideWalksLast$Prints", "<init>", "(LGuideWalksLast$Land;[I)V"⟩
abbrev b_GWL_sign : ByteArray := prog_1_method_2_code
def y_GWL_sign : MethodName := ⟨"GuideWalksLast", "sign", "(I)I"⟩
abbrev b_Signs_addFour : ByteArray := prog_10_method_4_code
def y_Signs_addFour : MethodName := ⟨"GuideWalksLast$Signs", "addFour", "(I)Z"⟩
abbrev b_Signs_length : ByteArray := prog_10_method_2_code
def y_Signs_length : MethodName := ⟨"GuideWalksLast$Signs", "length", "()I"⟩
abbrev b_GWL_end : ByteArray := prog_1_method_3_code
def y_GWL_end : MethodName := ⟨"GuideWalksLast", "end", "(I)Z"⟩
abbrev b_Signs_cut : ByteArray := prog_10_method_5_code
def y_Signs_cut : MethodName := ⟨"GuideWalksLast$Signs", "cut", "(I)Z"⟩
abbrev b_GWL_moor : ByteArray := prog_1_method_4_code
def y_GWL_moor : MethodName := ⟨"GuideWalksLast", "moor", "()I"⟩
abbrev b_Land_faultOf : ByteArray := prog_4_method_9_code
def y_Land_faultOf : MethodName := ⟨"GuideWalksLast$Land", "faultOf", "(LGuideWalksLast$Signs;)I"⟩
abbrev b_Signs_at : ByteArray := prog_10_method_3_code
def y_Signs_at : MethodName := ⟨"GuideWalksLast$Signs", "at", "(I)I"⟩
abbrev b_Land_kindTold : ByteArray := prog_4_method_11_code
def y_Land_kindTold : MethodName := ⟨"GuideWalksLast$Land", "kindTold", "(I)I"⟩
abbrev b_Land_isWhole : ByteArray := prog_4_method_10_code
def y_Land_isWhole : MethodName := ⟨"GuideWalksLast$Land", "isWhole", "(III)Z"⟩
abbrev b_Land_learn : ByteArray := prog_4_method_12_code
def y_Land_learn : MethodName := ⟨"GuideWalksLast$Land", "learn", "(LGuideWalksLast$Signs;)V"⟩
abbrev b_Land_survey : ByteArray := prog_4_method_14_code
def y_Land_survey : MethodName := ⟨"GuideWalksLast$Land", "survey", "()V"⟩
abbrev b_Land_across : ByteArray := prog_4_method_15_code
def y_Land_across : MethodName := ⟨"GuideWalksLast$Land", "across", "(III)I"⟩
abbrev b_Land_kindOf : ByteArray := prog_4_method_4_code
def y_Land_kindOf : MethodName := ⟨"GuideWalksLast$Land", "kindOf", "(I)I"⟩
abbrev b_Party_begin : ByteArray := prog_7_method_4_code
def y_Party_begin : MethodName := ⟨"GuideWalksLast$Party", "begin", "(II)V"⟩
abbrev b_Party_washTracks : ByteArray := prog_7_method_9_code
def y_Party_washTracks : MethodName := ⟨"GuideWalksLast$Party", "washTracks", "()I"⟩
abbrev b_Prints_forget : ByteArray := prog_9_method_5_code
def y_Prints_forget : MethodName := ⟨"GuideWalksLast$Prints", "forget", "()I"⟩
abbrev b_Past_forget : ByteArray := prog_8_method_4_code
def y_Past_forget : MethodName := ⟨"GuideWalksLast$Past", "forget", "()V"⟩
abbrev b_Signs_empty : ByteArray := prog_10_method_6_code
def y_Signs_empty : MethodName := ⟨"GuideWalksLast$Signs", "empty", "()V"⟩
abbrev b_Land_size : ByteArray := prog_4_method_2_code
def y_Land_size : MethodName := ⟨"GuideWalksLast$Land", "size", "()I"⟩
abbrev b_GWL_fee : ByteArray := prog_1_method_5_code
def y_GWL_fee : MethodName := ⟨"GuideWalksLast", "fee", "()I"⟩
abbrev b_Fee_learn : ByteArray := prog_2_method_5_code
def y_Fee_learn : MethodName := ⟨"GuideWalksLast$Fee", "learn", "(LGuideWalksLast$Signs;)I"⟩
abbrev b_Fee_want : ByteArray := prog_2_method_3_code
def y_Fee_want : MethodName := ⟨"GuideWalksLast$Fee", "want", "(IIII)V"⟩
abbrev b_Fee_isLetter : ByteArray := prog_2_method_6_code
def y_Fee_isLetter : MethodName := ⟨"GuideWalksLast$Fee", "isLetter", "(I)Z"⟩
abbrev b_Fee_addTo : ByteArray := prog_2_method_7_code
def y_Fee_addTo : MethodName := ⟨"GuideWalksLast$Fee", "addTo", "(II)V"⟩
abbrev b_Fee_takeFrom : ByteArray := prog_2_method_2_code
def y_Fee_takeFrom : MethodName := ⟨"GuideWalksLast$Fee", "takeFrom", "(LGuideWalksLast$Fee;)V"⟩
abbrev b_GWL_cell : ByteArray := prog_1_method_6_code
def y_GWL_cell : MethodName := ⟨"GuideWalksLast", "cell", "(I)I"⟩
abbrev b_GWL_put : ByteArray := prog_1_method_7_code
def y_GWL_put : MethodName := ⟨"GuideWalksLast", "put", "(II)I"⟩
abbrev b_Land_has : ByteArray := prog_4_method_3_code
def y_Land_has : MethodName := ⟨"GuideWalksLast$Land", "has", "(I)Z"⟩
abbrev b_Land_become : ByteArray := prog_4_method_7_code
def y_Land_become : MethodName := ⟨"GuideWalksLast$Land", "become", "(II)V"⟩
abbrev b_GWL_go : ByteArray := prog_1_method_8_code
def y_GWL_go : MethodName := ⟨"GuideWalksLast", "go", "(II)Z"⟩
abbrev b_GWL_weights : ByteArray := prog_1_method_9_code
def y_GWL_weights : MethodName := ⟨"GuideWalksLast", "weights", "(II)Z"⟩
abbrev b_GWL_set : ByteArray := prog_1_method_10_code
def y_GWL_set : MethodName := ⟨"GuideWalksLast", "set", "(II)I"⟩
abbrev b_GWL_sheet : ByteArray := prog_1_method_11_code
def y_GWL_sheet : MethodName := ⟨"GuideWalksLast", "sheet", "(IIII)I"⟩
abbrev b_Land_spreadOut : ByteArray := prog_4_method_8_code
def y_Land_spreadOut : MethodName := ⟨"GuideWalksLast$Land", "spreadOut", "(IIII)I"⟩
abbrev b_GWL_step : ByteArray := prog_1_method_12_code
def y_GWL_step : MethodName := ⟨"GuideWalksLast", "step", "(I)I"⟩
abbrev b_GWL_isTurn : ByteArray := prog_1_method_50_code
def y_GWL_isTurn : MethodName := ⟨"GuideWalksLast", "isTurn", "(I)Z"⟩
abbrev b_GWL_isOver : ByteArray := prog_1_method_58_code
def y_GWL_isOver : MethodName := ⟨"GuideWalksLast", "isOver", "()Z"⟩
abbrev b_Land_endsAt : ByteArray := prog_4_method_5_code
def y_Land_endsAt : MethodName := ⟨"GuideWalksLast$Land", "endsAt", "(I)Z"⟩
abbrev b_Past_remember : ByteArray := prog_8_method_2_code
def y_Past_remember : MethodName := ⟨"GuideWalksLast$Past", "remember", "(LGuideWalksLast$Party;)V"⟩
abbrev b_Party_takeFrom : ByteArray := prog_7_method_2_code
def y_Party_takeFrom : MethodName := ⟨"GuideWalksLast$Party", "takeFrom", "(LGuideWalksLast$Party;)V"⟩
abbrev b_Party_tread : ByteArray := prog_7_method_7_code
def y_Party_tread : MethodName := ⟨"GuideWalksLast$Party", "tread", "(LGuideWalksLast$Land;I)V"⟩
abbrev b_Party_stance : ByteArray := prog_7_method_3_code
def y_Party_stance : MethodName := ⟨"GuideWalksLast$Party", "stance", "()I"⟩
abbrev b_Land_after : ByteArray := prog_4_method_13_code
def y_Land_after : MethodName := ⟨"GuideWalksLast$Land", "after", "(II)I"⟩
abbrev b_GWL_cellOf : ByteArray := prog_1_method_53_code
def y_GWL_cellOf : MethodName := ⟨"GuideWalksLast", "cellOf", "(I)I"⟩
abbrev b_GWL_alone : ByteArray := prog_1_method_13_code
def y_GWL_alone : MethodName := ⟨"GuideWalksLast", "alone", "()I"⟩
abbrev b_Party_turnByWeights : ByteArray := prog_7_method_6_code
def y_Party_turnByWeights : MethodName := ⟨"GuideWalksLast$Party", "turnByWeights", "([I)I"⟩
abbrev b_Party_drawTenths : ByteArray := prog_7_method_5_code
def y_Party_drawTenths : MethodName := ⟨"GuideWalksLast$Party", "drawTenths", "()I"⟩
abbrev b_GWL_tenthsOf : ByteArray := prog_1_method_55_code
def y_GWL_tenthsOf : MethodName := ⟨"GuideWalksLast", "tenthsOf", "([II)I"⟩
abbrev b_Numbers_begin : ByteArray := prog_6_method_2_code
def y_Numbers_begin : MethodName := ⟨"GuideWalksLast$Numbers", "begin", "()V"⟩
abbrev b_Numbers_add : ByteArray := prog_6_method_3_code
def y_Numbers_add : MethodName := ⟨"GuideWalksLast$Numbers", "add", "(J)V"⟩
abbrev b_GWL_ask : ByteArray := prog_1_method_14_code
def y_GWL_ask : MethodName := ⟨"GuideWalksLast", "ask", "(I)I"⟩
abbrev b_GWL_undo : ByteArray := prog_1_method_15_code
def y_GWL_undo : MethodName := ⟨"GuideWalksLast", "undo", "()I"⟩
abbrev b_Past_recall : ByteArray := prog_8_method_3_code
def y_Past_recall : MethodName := ⟨"GuideWalksLast$Past", "recall", "(LGuideWalksLast$Party;)Z"⟩
abbrev b_GWL_look : ByteArray := prog_1_method_16_code
def y_GWL_look : MethodName := ⟨"GuideWalksLast", "look", "()I"⟩
abbrev b_GWL_walkFault : ByteArray := prog_1_method_60_code
def y_GWL_walkFault : MethodName := ⟨"GuideWalksLast", "walkFault", "()I"⟩
abbrev b_GWL_turnOf : ByteArray := prog_1_method_56_code
def y_GWL_turnOf : MethodName := ⟨"GuideWalksLast", "turnOf", "(I)I"⟩
abbrev b_GWL_fate : ByteArray := prog_1_method_59_code
def y_GWL_fate : MethodName := ⟨"GuideWalksLast", "fate", "(I)I"⟩
abbrev b_GWL_way : ByteArray := prog_1_method_17_code
def y_GWL_way : MethodName := ⟨"GuideWalksLast", "way", "()I"⟩
abbrev b_Land_measure : ByteArray := prog_4_method_16_code
def y_Land_measure : MethodName := ⟨"GuideWalksLast$Land", "measure", "()V"⟩
abbrev b_Land_widen : ByteArray := prog_4_method_18_code
def y_Land_widen : MethodName := ⟨"GuideWalksLast$Land", "widen", "(I)Z"⟩
abbrev b_Land_turnTowards : ByteArray := prog_4_method_19_code
def y_Land_turnTowards : MethodName := ⟨"GuideWalksLast$Land", "turnTowards", "(II)I"⟩
abbrev b_Land_stepsHome : ByteArray := prog_4_method_17_code
def y_Land_stepsHome : MethodName := ⟨"GuideWalksLast$Land", "stepsHome", "(I)I"⟩
abbrev b_GWL_reach : ByteArray := prog_1_method_18_code
def y_GWL_reach : MethodName := ⟨"GuideWalksLast", "reach", "()I"⟩
abbrev b_Spread_from : ByteArray := prog_11_method_2_code
def y_Spread_from : MethodName := ⟨"GuideWalksLast$Spread", "from", "(LGuideWalksLast$Land;III)V"⟩
abbrev b_Spread_find : ByteArray := prog_11_method_3_code
def y_Spread_find : MethodName := ⟨"GuideWalksLast$Spread", "find", "(II)V"⟩
abbrev b_Spread_depthOf : ByteArray := prog_11_method_4_code
def y_Spread_depthOf : MethodName := ⟨"GuideWalksLast$Spread", "depthOf", "(I)I"⟩
abbrev b_Spread_cells : ByteArray := prog_11_method_7_code
def y_Spread_cells : MethodName := ⟨"GuideWalksLast$Spread", "cells", "()J"⟩
abbrev b_GWL_tellCells : ByteArray := prog_1_method_61_code
def y_GWL_tellCells : MethodName := ⟨"GuideWalksLast", "tellCells", "(J)I"⟩
abbrev b_JLong_bitCount : ByteArray := prog_20_method_50_code
def y_JLong_bitCount : MethodName := ⟨"java/lang/Long", "bitCount", "(J)I"⟩
abbrev b_GWL_never : ByteArray := prog_1_method_19_code
def y_GWL_never : MethodName := ⟨"GuideWalksLast", "never", "(I)I"⟩
abbrev b_GWL_isLength : ByteArray := prog_1_method_52_code
def y_GWL_isLength : MethodName := ⟨"GuideWalksLast", "isLength", "(II)Z"⟩
abbrev b_Guide_lead : ByteArray := prog_3_method_2_code
def y_Guide_lead : MethodName := ⟨"GuideWalksLast$Guide", "lead", "(LGuideWalksLast$Fee;IIII)V"⟩
abbrev b_Guide_swapLayers : ByteArray := prog_3_method_3_code
def y_Guide_swapLayers : MethodName := ⟨"GuideWalksLast$Guide", "swapLayers", "()V"⟩
abbrev b_JMath_min : ByteArray := prog_21_method_69_code
def y_JMath_min : MethodName := ⟨"java/lang/Math", "min", "(II)I"⟩
abbrev b_Spread_within : ByteArray := prog_11_method_5_code
def y_Spread_within : MethodName := ⟨"GuideWalksLast$Spread", "within", "(I)I"⟩
abbrev b_Spread_stanceAt : ByteArray := prog_11_method_6_code
def y_Spread_stanceAt : MethodName := ⟨"GuideWalksLast$Spread", "stanceAt", "(I)I"⟩
abbrev b_Guide_decide : ByteArray := prog_3_method_4_code
def y_Guide_decide : MethodName := ⟨"GuideWalksLast$Guide", "decide", "(III)V"⟩
abbrev b_GWL_hundreds : ByteArray := prog_1_method_54_code
def y_GWL_hundreds : MethodName := ⟨"GuideWalksLast", "hundreds", "(I)J"⟩
abbrev b_Fee_endsWith : ByteArray := prog_2_method_4_code
def y_Fee_endsWith : MethodName := ⟨"GuideWalksLast$Fee", "endsWith", "(II)I"⟩
abbrev b_Guide_lay : ByteArray := prog_3_method_5_code
def y_Guide_lay : MethodName := ⟨"GuideWalksLast$Guide", "lay", "(IIJJ)V"⟩
abbrev b_Guide_byItself : ByteArray := prog_3_method_7_code
def y_Guide_byItself : MethodName := ⟨"GuideWalksLast$Guide", "byItself", "([JII)J"⟩
abbrev b_Guide_laidAt : ByteArray := prog_3_method_6_code
def y_Guide_laidAt : MethodName := ⟨"GuideWalksLast$Guide", "laidAt", "([JII)J"⟩
abbrev b_Guide_luckOf : ByteArray := prog_3_method_9_code
def y_Guide_luckOf : MethodName := ⟨"GuideWalksLast$Guide", "luckOf", "(I)J"⟩
abbrev b_Numbers_addFraction : ByteArray := prog_6_method_4_code
def y_Numbers_addFraction : MethodName := ⟨"GuideWalksLast$Numbers", "addFraction", "(JJ)V"⟩
abbrev b_Numbers_commonDivisor : ByteArray := prog_6_method_6_code
def y_Numbers_commonDivisor : MethodName := ⟨"GuideWalksLast$Numbers", "commonDivisor", "(JJ)J"⟩
abbrev b_Guide_payOf : ByteArray := prog_3_method_8_code
def y_Guide_payOf : MethodName := ⟨"GuideWalksLast$Guide", "payOf", "(I)J"⟩
abbrev b_GWL_best : ByteArray := prog_1_method_20_code
def y_GWL_best : MethodName := ⟨"GuideWalksLast", "best", "(I)I"⟩
abbrev b_GWL_bestChance : ByteArray := prog_1_method_63_code
def y_GWL_bestChance : MethodName := ⟨"GuideWalksLast", "bestChance", "(II)J"⟩
abbrev b_GWL_fewest : ByteArray := prog_1_method_21_code
def y_GWL_fewest : MethodName := ⟨"GuideWalksLast", "fewest", "(II)I"⟩
abbrev b_GWL_should : ByteArray := prog_1_method_22_code
def y_GWL_should : MethodName := ⟨"GuideWalksLast", "should", "(I)I"⟩
abbrev b_GWL_safest : ByteArray := prog_1_method_23_code
def y_GWL_safest : MethodName := ⟨"GuideWalksLast", "safest", "(I)I"⟩
abbrev b_GWL_perils : ByteArray := prog_1_method_24_code
def y_GWL_perils : MethodName := ⟨"GuideWalksLast", "perils", "(I)I"⟩
abbrev b_GWL_turnsWithWeight : ByteArray := prog_1_method_62_code
def y_GWL_turnsWithWeight : MethodName := ⟨"GuideWalksLast", "turnsWithWeight", "()I"⟩
abbrev b_Land_cellsThatAre : ByteArray := prog_4_method_6_code
def y_Land_cellsThatAre : MethodName := ⟨"GuideWalksLast$Land", "cellsThatAre", "(I)J"⟩
abbrev b_GWL_behind : ByteArray := prog_1_method_25_code
def y_GWL_behind : MethodName := ⟨"GuideWalksLast", "behind", "(II)I"⟩
abbrev b_GWL_loud : ByteArray := prog_1_method_26_code
def y_GWL_loud : MethodName := ⟨"GuideWalksLast", "loud", "(II)I"⟩
abbrev b_GWL_owed : ByteArray := prog_1_method_27_code
def y_GWL_owed : MethodName := ⟨"GuideWalksLast", "owed", "()I"⟩
abbrev b_GWL_greed : ByteArray := prog_1_method_28_code
def y_GWL_greed : MethodName := ⟨"GuideWalksLast", "greed", "(I)I"⟩
abbrev b_GWL_greedyChance : ByteArray := prog_1_method_64_code
def y_GWL_greedyChance : MethodName := ⟨"GuideWalksLast", "greedyChance", "(LGuideWalksLast$Fee;I)J"⟩
abbrev b_GWL_honest : ByteArray := prog_1_method_29_code
def y_GWL_honest : MethodName := ⟨"GuideWalksLast", "honest", "(I)I"⟩
abbrev b_GWL_shelf : ByteArray := prog_1_method_30_code
def y_GWL_shelf : MethodName := ⟨"GuideWalksLast", "shelf", "(I)Z"⟩
abbrev b_GWL_isPlace : ByteArray := prog_1_method_51_code
def y_GWL_isPlace : MethodName := ⟨"GuideWalksLast", "isPlace", "(I)Z"⟩
abbrev b_GWL_fairest : ByteArray := prog_1_method_31_code
def y_GWL_fairest : MethodName := ⟨"GuideWalksLast", "fairest", "(I)I"⟩
abbrev b_GWL_track : ByteArray := prog_1_method_32_code
def y_GWL_track : MethodName := ⟨"GuideWalksLast", "track", "(I)I"⟩
abbrev b_Party_trackFrom : ByteArray := prog_7_method_8_code
def y_Party_trackFrom : MethodName := ⟨"GuideWalksLast$Party", "trackFrom", "(I)I"⟩
abbrev b_GWL_rain : ByteArray := prog_1_method_33_code
def y_GWL_rain : MethodName := ⟨"GuideWalksLast", "rain", "()I"⟩
abbrev b_GWL_follow : ByteArray := prog_1_method_34_code
def y_GWL_follow : MethodName := ⟨"GuideWalksLast", "follow", "(I)I"⟩
abbrev b_Trail_runFrom : ByteArray := prog_12_method_2_code
def y_Trail_runFrom : MethodName := ⟨"GuideWalksLast$Trail", "runFrom", "(I)V"⟩
abbrev b_GWL_warned : ByteArray := prog_1_method_35_code
def y_GWL_warned : MethodName := ⟨"GuideWalksLast", "warned", "()I"⟩
abbrev b_Trail_misleads : ByteArray := prog_12_method_3_code
def y_Trail_misleads : MethodName := ⟨"GuideWalksLast$Trail", "misleads", "(I)Z"⟩
abbrev b_Land_hasWayFrom : ByteArray := prog_4_method_20_code
def y_Land_hasWayFrom : MethodName := ⟨"GuideWalksLast$Land", "hasWayFrom", "(I)Z"⟩
abbrev b_GWL_codes : ByteArray := prog_1_method_36_code
def y_GWL_codes : MethodName := ⟨"GuideWalksLast", "codes", "(II)I"⟩
abbrev b_GWL_isFarFromAll : ByteArray := prog_1_method_57_code
def y_GWL_isFarFromAll : MethodName := ⟨"GuideWalksLast", "isFarFromAll", "(III)Z"⟩
abbrev b_JInt_bitCount : ByteArray := prog_19_method_49_code
def y_JInt_bitCount : MethodName := ⟨"java/lang/Integer", "bitCount", "(I)I"⟩
abbrev b_GWL_meant : ByteArray := prog_1_method_37_code
def y_GWL_meant : MethodName := ⟨"GuideWalksLast", "meant", "(IIII)I"⟩
abbrev b_GWL_print : ByteArray := prog_1_method_38_code
def y_GWL_print : MethodName := ⟨"GuideWalksLast", "print", "(II)I"⟩
abbrev b_Prints_tell : ByteArray := prog_9_method_2_code
def y_Prints_tell : MethodName := ⟨"GuideWalksLast$Prints", "tell", "(II)Z"⟩
abbrev b_Prints_cellAt : ByteArray := prog_9_method_4_code
def y_Prints_cellAt : MethodName := ⟨"GuideWalksLast$Prints", "cellAt", "(I)I"⟩
abbrev b_Prints_isStepOn : ByteArray := prog_9_method_3_code
def y_Prints_isStepOn : MethodName := ⟨"GuideWalksLast$Prints", "isStepOn", "(II)Z"⟩
abbrev b_GWL_wipe : ByteArray := prog_1_method_39_code
def y_GWL_wipe : MethodName := ⟨"GuideWalksLast", "wipe", "()I"⟩
abbrev b_GWL_rows : ByteArray := prog_1_method_40_code
def y_GWL_rows : MethodName := ⟨"GuideWalksLast", "rows", "()J"⟩
abbrev b_Prints_trace : ByteArray := prog_9_method_6_code
def y_Prints_trace : MethodName := ⟨"GuideWalksLast$Prints", "trace", "(Z)V"⟩
abbrev b_Prints_traceOn : ByteArray := prog_9_method_7_code
def y_Prints_traceOn : MethodName := ⟨"GuideWalksLast$Prints", "traceOn", "(III)V"⟩
abbrev b_Prints_placeBehind : ByteArray := prog_9_method_8_code
def y_Prints_placeBehind : MethodName := ⟨"GuideWalksLast$Prints", "placeBehind", "(III)I"⟩
abbrev b_Prints_falseCalls : ByteArray := prog_9_method_9_code
def y_Prints_falseCalls : MethodName := ⟨"GuideWalksLast$Prints", "falseCalls", "(III)I"⟩
abbrev b_Prints_isFalse : ByteArray := prog_9_method_10_code
def y_Prints_isFalse : MethodName := ⟨"GuideWalksLast$Prints", "isFalse", "(II)Z"⟩
abbrev b_Prints_tellLeast : ByteArray := prog_9_method_13_code
def y_Prints_tellLeast : MethodName := ⟨"GuideWalksLast$Prints", "tellLeast", "(LGuideWalksLast$Numbers;)V"⟩
abbrev b_Prints_fewestFalse : ByteArray := prog_9_method_12_code
def y_Prints_fewestFalse : MethodName := ⟨"GuideWalksLast$Prints", "fewestFalse", "()I"⟩
abbrev b_Prints_leastTurn : ByteArray := prog_9_method_14_code
def y_Prints_leastTurn : MethodName := ⟨"GuideWalksLast$Prints", "leastTurn", "(II)I"⟩
abbrev b_Prints_manyRows : ByteArray := prog_9_method_11_code
def y_Prints_manyRows : MethodName := ⟨"GuideWalksLast$Prints", "manyRows", "()J"⟩
abbrev b_GWL_lies : ByteArray := prog_1_method_41_code
def y_GWL_lies : MethodName := ⟨"GuideWalksLast", "lies", "()I"⟩
abbrev b_GWL_worth : ByteArray := prog_1_method_42_code
def y_GWL_worth : MethodName := ⟨"GuideWalksLast", "worth", "(III)I"⟩
abbrev b_Market_isOne : ByteArray := prog_5_method_2_code
def y_Market_isOne : MethodName := ⟨"GuideWalksLast$Market", "isOne", "(I)Z"⟩
abbrev b_Market_value : ByteArray := prog_5_method_3_code
def y_Market_value : MethodName := ⟨"GuideWalksLast$Market", "value", "(III)I"⟩
abbrev b_GWL_hire : ByteArray := prog_1_method_43_code
def y_GWL_hire : MethodName := ⟨"GuideWalksLast", "hire", "(I)I"⟩
abbrev b_Market_most : ByteArray := prog_5_method_4_code
def y_Market_most : MethodName := ⟨"GuideWalksLast$Market", "most", "(II)I"⟩
abbrev b_Market_mostBy : ByteArray := prog_5_method_5_code
def y_Market_mostBy : MethodName := ⟨"GuideWalksLast$Market", "mostBy", "(II)I"⟩
abbrev b_JMath_max_II : ByteArray := prog_21_method_65_code
def y_JMath_max_II : MethodName := ⟨"java/lang/Math", "max", "(II)I"⟩
abbrev b_Market_tellGuides : ByteArray := prog_5_method_6_code
def y_Market_tellGuides : MethodName := ⟨"GuideWalksLast$Market", "tellGuides", "(LGuideWalksLast$Numbers;)V"⟩
abbrev b_Market_leastGuide : ByteArray := prog_5_method_7_code
def y_Market_leastGuide : MethodName := ⟨"GuideWalksLast$Market", "leastGuide", "(I)I"⟩
abbrev b_GWL_hoarse : ByteArray := prog_1_method_44_code
def y_GWL_hoarse : MethodName := ⟨"GuideWalksLast", "hoarse", "(II)I"⟩
abbrev b_GWL_seed : ByteArray := prog_1_method_45_code
def y_GWL_seed : MethodName := ⟨"GuideWalksLast", "seed", "(I)I"⟩
abbrev b_GWL_keep : ByteArray := prog_1_method_46_code
def y_GWL_keep : MethodName := ⟨"GuideWalksLast", "keep", "(I)Z"⟩
abbrev b_GWL_again : ByteArray := prog_1_method_47_code
def y_GWL_again : MethodName := ⟨"GuideWalksLast", "again", "(I)Z"⟩
abbrev b_GWL_count : ByteArray := prog_1_method_48_code
def y_GWL_count : MethodName := ⟨"GuideWalksLast", "count", "(I)I"⟩
abbrev b_GWL_row : ByteArray := prog_1_method_49_code
def y_GWL_row : MethodName := ⟨"GuideWalksLast", "row", "(I)J"⟩
abbrev b_Numbers_at : ByteArray := prog_6_method_5_code
def y_Numbers_at : MethodName := ⟨"GuideWalksLast$Numbers", "at", "(I)J"⟩
abbrev b_Mod_thrown : ByteArray := prog_14_method_1_code
def y_Mod_thrown : MethodName := ⟨"GuideWalksLastModel", "thrown", "()I"⟩
abbrev b_Mod_new : ByteArray := prog_14_method_9_code
def y_Mod_new : MethodName := ⟨"GuideWalksLastModel", "<init>", "()V"⟩
abbrev b_Mod_clearsTracks : ByteArray := prog_14_method_12_code
def y_Mod_clearsTracks : MethodName := ⟨"GuideWalksLastModel", "clearsTracks", "()I"⟩
abbrev b_Mod_flag : ByteArray := prog_14_method_5_code
def y_Mod_flag : MethodName := ⟨"GuideWalksLastModel", "flag", "(Z)I"⟩
abbrev b_Mod_sign : ByteArray := prog_14_method_13_code
def y_Mod_sign : MethodName := ⟨"GuideWalksLastModel", "sign", "(I)I"⟩
abbrev b_Mod_end : ByteArray := prog_14_method_14_code
def y_Mod_end : MethodName := ⟨"GuideWalksLastModel", "end", "(I)Z"⟩
abbrev b_Mod_in : ByteArray := prog_14_method_3_code
def y_Mod_in : MethodName := ⟨"GuideWalksLastModel", "in", "(JJJ)Z"⟩
abbrev b_Mod_moor : ByteArray := prog_14_method_19_code
def y_Mod_moor : MethodName := ⟨"GuideWalksLastModel", "moor", "()I"⟩
abbrev b_Mod_begins_I : ByteArray := prog_14_method_15_code
def y_Mod_begins_I : MethodName := ⟨"GuideWalksLastModel", "begins", "(I)I"⟩
abbrev b_Mod_among : ByteArray := prog_14_method_17_code
def y_Mod_among : MethodName := ⟨"GuideWalksLastModel", "among", "(Ljava/lang/String;I)I"⟩
abbrev b_JStr_length : ByteArray := prog_23_method_54_code
def y_JStr_length : MethodName := ⟨"java/lang/String", "length", "()I"⟩
abbrev b_JStr_coder : ByteArray := prog_23_method_152_code
def y_JStr_coder : MethodName := ⟨"java/lang/String", "coder", "()B"⟩
abbrev b_JStr_charAt : ByteArray := prog_23_method_56_code
def y_JStr_charAt : MethodName := ⟨"java/lang/String", "charAt", "(I)C"⟩
abbrev b_JStr_isLatin1 : ByteArray := prog_23_method_154_code
def y_JStr_isLatin1 : MethodName := ⟨"java/lang/String", "isLatin1", "()Z"⟩
abbrev b_JSL1_charAt : ByteArray := prog_24_method_2_code
def y_JSL1_charAt : MethodName := ⟨"java/lang/StringLatin1", "charAt", "([BI)C"⟩
abbrev b_JStr_checkIndex : ByteArray := prog_23_method_155_code
def y_JStr_checkIndex : MethodName := ⟨"java/lang/String", "checkIndex", "(II)V"⟩
abbrev b_JPre_checkIndex : ByteArray := prog_32_method_11_code
def y_JPre_checkIndex : MethodName := ⟨"jdk/internal/util/Preconditions", "checkIndex", "(IILjava/util/function/BiFunction;)I"⟩
abbrev b_Mod_takes : ByteArray := prog_14_method_16_code
def y_Mod_takes : MethodName := ⟨"GuideWalksLastModel", "takes", "(I)Z"⟩
abbrev b_Mod_begins_II : ByteArray := prog_14_method_20_code
def y_Mod_begins_II : MethodName := ⟨"GuideWalksLastModel", "begins", "(II)V"⟩
abbrev b_Mod_fee : ByteArray := prog_14_method_23_code
def y_Mod_fee : MethodName := ⟨"GuideWalksLastModel", "fee", "()I"⟩
abbrev b_Mod_readsThing : ByteArray := prog_14_method_21_code
def y_Mod_readsThing : MethodName := ⟨"GuideWalksLastModel", "readsThing", "(I)Z"⟩
abbrev b_Mod_isDigit : ByteArray := prog_14_method_22_code
def y_Mod_isDigit : MethodName := ⟨"GuideWalksLastModel", "isDigit", "()Z"⟩
abbrev b_Mod_faultOf : ByteArray := prog_14_method_18_code
def y_Mod_faultOf : MethodName := ⟨"GuideWalksLastModel", "faultOf", "(IIZ)I"⟩
abbrev b_Mod_cell : ByteArray := prog_14_method_24_code
def y_Mod_cell : MethodName := ⟨"GuideWalksLastModel", "cell", "(I)I"⟩
abbrev b_Mod_isCell : ByteArray := prog_14_method_11_code
def y_Mod_isCell : MethodName := ⟨"GuideWalksLastModel", "isCell", "(I)Z"⟩
abbrev b_Mod_cells : ByteArray := prog_14_method_10_code
def y_Mod_cells : MethodName := ⟨"GuideWalksLastModel", "cells", "()I"⟩
abbrev b_Mod_put : ByteArray := prog_14_method_25_code
def y_Mod_put : MethodName := ⟨"GuideWalksLastModel", "put", "(II)I"⟩
abbrev b_Mod_go : ByteArray := prog_14_method_26_code
def y_Mod_go : MethodName := ⟨"GuideWalksLastModel", "go", "(II)Z"⟩
abbrev b_Mod_weights : ByteArray := prog_14_method_27_code
def y_Mod_weights : MethodName := ⟨"GuideWalksLastModel", "weights", "(II)Z"⟩
abbrev b_Mod_set : ByteArray := prog_14_method_28_code
def y_Mod_set : MethodName := ⟨"GuideWalksLastModel", "set", "(II)I"⟩
abbrev b_Mod_sheet : ByteArray := prog_14_method_29_code
def y_Mod_sheet : MethodName := ⟨"GuideWalksLastModel", "sheet", "(IIII)I"⟩
abbrev b_Mod_step : ByteArray := prog_14_method_40_code
def y_Mod_step : MethodName := ⟨"GuideWalksLastModel", "step", "(I)I"⟩
abbrev b_Mod_isTurn : ByteArray := prog_14_method_39_code
def y_Mod_isTurn : MethodName := ⟨"GuideWalksLastModel", "isTurn", "(I)Z"⟩
abbrev b_Mod_isEnd : ByteArray := prog_14_method_32_code
def y_Mod_isEnd : MethodName := ⟨"GuideWalksLastModel", "isEnd", "(I)Z"⟩
abbrev b_Mod_putsBy : ByteArray := prog_14_method_35_code
def y_Mod_putsBy : MethodName := ⟨"GuideWalksLastModel", "putsBy", "()V"⟩
abbrev b_Mod_puts : ByteArray := prog_14_method_33_code
def y_Mod_puts : MethodName := ⟨"GuideWalksLastModel", "puts", "([II)V"⟩
abbrev b_Mod_steps : ByteArray := prog_14_method_36_code
def y_Mod_steps : MethodName := ⟨"GuideWalksLastModel", "steps", "(I)I"⟩
abbrev b_Mod_turned : ByteArray := prog_14_method_30_code
def y_Mod_turned : MethodName := ⟨"GuideWalksLastModel", "turned", "(II)I"⟩
abbrev b_Mod_cellBy : ByteArray := prog_14_method_31_code
def y_Mod_cellBy : MethodName := ⟨"GuideWalksLastModel", "cellBy", "(II)I"⟩
abbrev b_Mod_alone : ByteArray := prog_14_method_41_code
def y_Mod_alone : MethodName := ⟨"GuideWalksLastModel", "alone", "()I"⟩
abbrev b_Mod_turnByWeights : ByteArray := prog_14_method_38_code
def y_Mod_turnByWeights : MethodName := ⟨"GuideWalksLastModel", "turnByWeights", "()I"⟩
abbrev b_Mod_draws : ByteArray := prog_14_method_37_code
def y_Mod_draws : MethodName := ⟨"GuideWalksLastModel", "draws", "(I)I"⟩
abbrev b_Mod_enters : ByteArray := prog_14_method_7_code
def y_Mod_enters : MethodName := ⟨"GuideWalksLastModel", "enters", "(J)V"⟩
abbrev b_Mod_ask : ByteArray := prog_14_method_42_code
def y_Mod_ask : MethodName := ⟨"GuideWalksLastModel", "ask", "(I)I"⟩
abbrev b_Mod_undo : ByteArray := prog_14_method_43_code
def y_Mod_undo : MethodName := ⟨"GuideWalksLastModel", "undo", "()I"⟩
abbrev b_Mod_takesBack : ByteArray := prog_14_method_34_code
def y_Mod_takesBack : MethodName := ⟨"GuideWalksLastModel", "takesBack", "([II)V"⟩
abbrev b_Mod_look : ByteArray := prog_14_method_45_code
def y_Mod_look : MethodName := ⟨"GuideWalksLastModel", "look", "()I"⟩
abbrev b_Mod_endOf : ByteArray := prog_14_method_44_code
def y_Mod_endOf : MethodName := ⟨"GuideWalksLastModel", "endOf", "(I)I"⟩
abbrev b_Mod_way : ByteArray := prog_14_method_48_code
def y_Mod_way : MethodName := ⟨"GuideWalksLastModel", "way", "()I"⟩
abbrev b_Mod_measures : ByteArray := prog_14_method_46_code
def y_Mod_measures : MethodName := ⟨"GuideWalksLastModel", "measures", "()V"⟩
abbrev b_Mod_farBehind : ByteArray := prog_14_method_47_code
def y_Mod_farBehind : MethodName := ⟨"GuideWalksLastModel", "farBehind", "(III)I"⟩
abbrev b_Mod_reach : ByteArray := prog_14_method_52_code
def y_Mod_reach : MethodName := ⟨"GuideWalksLastModel", "reach", "()I"⟩
abbrev b_Mod_seesHere : ByteArray := prog_14_method_50_code
def y_Mod_seesHere : MethodName := ⟨"GuideWalksLastModel", "seesHere", "()V"⟩
abbrev b_Mod_spreads : ByteArray := prog_14_method_49_code
def y_Mod_spreads : MethodName := ⟨"GuideWalksLastModel", "spreads", "(Z)Z"⟩
abbrev b_Mod_tellsSeen : ByteArray := prog_14_method_51_code
def y_Mod_tellsSeen : MethodName := ⟨"GuideWalksLastModel", "tellsSeen", "(Z)I"⟩
abbrev b_Mod_never : ByteArray := prog_14_method_62_code
def y_Mod_never : MethodName := ⟨"GuideWalksLastModel", "never", "(I)I"⟩
abbrev b_Mod_areSteps : ByteArray := prog_14_method_61_code
def y_Mod_areSteps : MethodName := ⟨"GuideWalksLastModel", "areSteps", "(I)Z"⟩
abbrev b_Mod_works : ByteArray := prog_14_method_59_code
def y_Mod_works : MethodName := ⟨"GuideWalksLastModel", "works", "(IZZ)V"⟩
abbrev b_Mod_laysOut : ByteArray := prog_14_method_57_code
def y_Mod_laysOut : MethodName := ⟨"GuideWalksLastModel", "laysOut", "(Z)V"⟩
abbrev b_Mod_stateOf : ByteArray := prog_14_method_54_code
def y_Mod_stateOf : MethodName := ⟨"GuideWalksLastModel", "stateOf", "(III)I"⟩
abbrev b_Mod_goesBack : ByteArray := prog_14_method_58_code
def y_Mod_goesBack : MethodName := ⟨"GuideWalksLastModel", "goesBack", "(Z)V"⟩
abbrev b_Mod_comesOf : ByteArray := prog_14_method_55_code
def y_Mod_comesOf : MethodName := ⟨"GuideWalksLastModel", "comesOf", "(IIII[J)J"⟩
abbrev b_Mod_partOf : ByteArray := prog_14_method_56_code
def y_Mod_partOf : MethodName := ⟨"GuideWalksLastModel", "partOf", "(II)I"⟩
abbrev b_JMath_max_JJ : ByteArray := prog_21_method_66_code
def y_JMath_max_JJ : MethodName := ⟨"java/lang/Math", "max", "(JJ)J"⟩
abbrev b_Mod_chanceNow : ByteArray := prog_14_method_60_code
def y_Mod_chanceNow : MethodName := ⟨"GuideWalksLastModel", "chanceNow", "(I)J"⟩
abbrev b_Mod_whole : ByteArray := prog_14_method_53_code
def y_Mod_whole : MethodName := ⟨"GuideWalksLastModel", "whole", "(I)J"⟩
abbrev b_Mod_entersFraction : ByteArray := prog_14_method_8_code
def y_Mod_entersFraction : MethodName := ⟨"GuideWalksLastModel", "entersFraction", "(JJ)V"⟩
abbrev b_Mod_common : ByteArray := prog_14_method_6_code
def y_Mod_common : MethodName := ⟨"GuideWalksLastModel", "common", "(JJ)J"⟩
abbrev b_JMath_abs_J : ByteArray := prog_21_method_61_code
def y_JMath_abs_J : MethodName := ⟨"java/lang/Math", "abs", "(J)J"⟩
abbrev b_Mod_best : ByteArray := prog_14_method_63_code
def y_Mod_best : MethodName := ⟨"GuideWalksLastModel", "best", "(I)I"⟩
abbrev b_Mod_fewest : ByteArray := prog_14_method_64_code
def y_Mod_fewest : MethodName := ⟨"GuideWalksLastModel", "fewest", "(II)I"⟩
abbrev b_Mod_should : ByteArray := prog_14_method_65_code
def y_Mod_should : MethodName := ⟨"GuideWalksLastModel", "should", "(I)I"⟩
abbrev b_Mod_safest : ByteArray := prog_14_method_66_code
def y_Mod_safest : MethodName := ⟨"GuideWalksLastModel", "safest", "(I)I"⟩
abbrev b_Mod_perils : ByteArray := prog_14_method_67_code
def y_Mod_perils : MethodName := ⟨"GuideWalksLastModel", "perils", "(I)I"⟩
abbrev b_Mod_behind : ByteArray := prog_14_method_70_code
def y_Mod_behind : MethodName := ⟨"GuideWalksLastModel", "behind", "(II)I"⟩
abbrev b_Mod_massOn : ByteArray := prog_14_method_69_code
def y_Mod_massOn : MethodName := ⟨"GuideWalksLastModel", "massOn", "(I)J"⟩
abbrev b_Mod_goesOn : ByteArray := prog_14_method_68_code
def y_Mod_goesOn : MethodName := ⟨"GuideWalksLastModel", "goesOn", "()V"⟩
abbrev b_Mod_loud : ByteArray := prog_14_method_71_code
def y_Mod_loud : MethodName := ⟨"GuideWalksLastModel", "loud", "(II)I"⟩
abbrev b_Mod_owed : ByteArray := prog_14_method_72_code
def y_Mod_owed : MethodName := ⟨"GuideWalksLastModel", "owed", "()I"⟩
abbrev b_Mod_greed : ByteArray := prog_14_method_77_code
def y_Mod_greed : MethodName := ⟨"GuideWalksLastModel", "greed", "(I)I"⟩
abbrev b_Mod_areFew : ByteArray := prog_14_method_76_code
def y_Mod_areFew : MethodName := ⟨"GuideWalksLastModel", "areFew", "(I)Z"⟩
abbrev b_Mod_wants : ByteArray := prog_14_method_73_code
def y_Mod_wants : MethodName := ⟨"GuideWalksLastModel", "wants", "([II)V"⟩
abbrev b_Mod_wantsBack : ByteArray := prog_14_method_74_code
def y_Mod_wantsBack : MethodName := ⟨"GuideWalksLastModel", "wantsBack", "([IJ)V"⟩
abbrev b_Mod_wantsAt : ByteArray := prog_14_method_75_code
def y_Mod_wantsAt : MethodName := ⟨"GuideWalksLastModel", "wantsAt", "([IJIII)V"⟩
abbrev b_Mod_honest : ByteArray := prog_14_method_78_code
def y_Mod_honest : MethodName := ⟨"GuideWalksLastModel", "honest", "(I)I"⟩
abbrev b_Mod_shelf : ByteArray := prog_14_method_79_code
def y_Mod_shelf : MethodName := ⟨"GuideWalksLastModel", "shelf", "(I)Z"⟩
abbrev b_Mod_fairest : ByteArray := prog_14_method_80_code
def y_Mod_fairest : MethodName := ⟨"GuideWalksLastModel", "fairest", "(I)I"⟩
abbrev b_Mod_track : ByteArray := prog_14_method_81_code
def y_Mod_track : MethodName := ⟨"GuideWalksLastModel", "track", "(I)I"⟩
abbrev b_Mod_rain : ByteArray := prog_14_method_82_code
def y_Mod_rain : MethodName := ⟨"GuideWalksLastModel", "rain", "()I"⟩
abbrev b_Mod_follow : ByteArray := prog_14_method_84_code
def y_Mod_follow : MethodName := ⟨"GuideWalksLastModel", "follow", "(I)I"⟩
abbrev b_Mod_followed : ByteArray := prog_14_method_83_code
def y_Mod_followed : MethodName := ⟨"GuideWalksLastModel", "followed", "(I)I"⟩
abbrev b_Mod_warned : ByteArray := prog_14_method_85_code
def y_Mod_warned : MethodName := ⟨"GuideWalksLastModel", "warned", "()I"⟩
abbrev b_Mod_codes : ByteArray := prog_14_method_88_code
def y_Mod_codes : MethodName := ⟨"GuideWalksLastModel", "codes", "(II)I"⟩
abbrev b_Mod_chooses : ByteArray := prog_14_method_87_code
def y_Mod_chooses : MethodName := ⟨"GuideWalksLastModel", "chooses", "(III)V"⟩
abbrev b_Mod_boundOf : ByteArray := prog_14_method_86_code
def y_Mod_boundOf : MethodName := ⟨"GuideWalksLastModel", "boundOf", "(II)I"⟩
abbrev b_JInt_numberOfTrailingZeros : ByteArray := prog_19_method_48_code
def y_JInt_numberOfTrailingZeros : MethodName := ⟨"java/lang/Integer", "numberOfTrailingZeros", "(I)I"⟩
abbrev b_Mod_has : ByteArray := prog_14_method_4_code
def y_Mod_has : MethodName := ⟨"GuideWalksLastModel", "has", "(II)Z"⟩
abbrev b_Mod_meant : ByteArray := prog_14_method_89_code
def y_Mod_meant : MethodName := ⟨"GuideWalksLastModel", "meant", "(IIII)I"⟩
abbrev b_Mod_print : ByteArray := prog_14_method_91_code
def y_Mod_print : MethodName := ⟨"GuideWalksLastModel", "print", "(II)I"⟩
abbrev b_Mod_isBeside : ByteArray := prog_14_method_90_code
def y_Mod_isBeside : MethodName := ⟨"GuideWalksLastModel", "isBeside", "(II)Z"⟩
abbrev b_JMath_abs_I : ByteArray := prog_21_method_59_code
def y_JMath_abs_I : MethodName := ⟨"java/lang/Math", "abs", "(I)I"⟩
abbrev b_Mod_wipe : ByteArray := prog_14_method_92_code
def y_Mod_wipe : MethodName := ⟨"GuideWalksLastModel", "wipe", "()I"⟩
abbrev b_Mod_rows : ByteArray := prog_14_method_96_code
def y_Mod_rows : MethodName := ⟨"GuideWalksLastModel", "rows", "()J"⟩
abbrev b_Mod_looksBack : ByteArray := prog_14_method_95_code
def y_Mod_looksBack : MethodName := ⟨"GuideWalksLastModel", "looksBack", "()V"⟩
abbrev b_Mod_leads : ByteArray := prog_14_method_93_code
def y_Mod_leads : MethodName := ⟨"GuideWalksLastModel", "leads", "(III)Z"⟩
abbrev b_Mod_isLie : ByteArray := prog_14_method_94_code
def y_Mod_isLie : MethodName := ⟨"GuideWalksLastModel", "isLie", "(III)Z"⟩
abbrev b_Mod_lies : ByteArray := prog_14_method_97_code
def y_Mod_lies : MethodName := ⟨"GuideWalksLastModel", "lies", "()I"⟩
abbrev b_Mod_worth : ByteArray := prog_14_method_98_code
def y_Mod_worth : MethodName := ⟨"GuideWalksLastModel", "worth", "(III)I"⟩
abbrev b_Mod_hire : ByteArray := prog_14_method_101_code
def y_Mod_hire : MethodName := ⟨"GuideWalksLastModel", "hire", "(I)I"⟩
abbrev b_Mod_hiresBy : ByteArray := prog_14_method_100_code
def y_Mod_hiresBy : MethodName := ⟨"GuideWalksLastModel", "hiresBy", "(II)I"⟩
abbrev b_Mod_hires : ByteArray := prog_14_method_99_code
def y_Mod_hires : MethodName := ⟨"GuideWalksLastModel", "hires", "(IIIII)V"⟩
abbrev b_Mod_hoarse : ByteArray := prog_14_method_102_code
def y_Mod_hoarse : MethodName := ⟨"GuideWalksLastModel", "hoarse", "(II)I"⟩
abbrev b_Mod_seed : ByteArray := prog_14_method_103_code
def y_Mod_seed : MethodName := ⟨"GuideWalksLastModel", "seed", "(I)I"⟩
abbrev b_Mod_keep : ByteArray := prog_14_method_104_code
def y_Mod_keep : MethodName := ⟨"GuideWalksLastModel", "keep", "(I)Z"⟩
abbrev b_Mod_again : ByteArray := prog_14_method_105_code
def y_Mod_again : MethodName := ⟨"GuideWalksLastModel", "again", "(I)Z"⟩
abbrev b_Mod_count : ByteArray := prog_14_method_106_code
def y_Mod_count : MethodName := ⟨"GuideWalksLastModel", "count", "(I)I"⟩
abbrev b_Mod_row : ByteArray := prog_14_method_107_code
def y_Mod_row : MethodName := ⟨"GuideWalksLastModel", "row", "(I)J"⟩
abbrev b_Mod_refuse : ByteArray := prog_14_method_2_code
def y_Mod_refuse : MethodName := ⟨"GuideWalksLastModel", "refuse", "()J"⟩
abbrev b_Law_law : ByteArray := code
def y_Law_law : MethodName := ⟨"GuideWalksLastLaw", "law", "([I)Z"⟩
abbrev b_Law_row : ByteArray := method_3_code
def y_Law_row : MethodName := ⟨"GuideWalksLastLaw", "row", "(LGuideWalksLast;I[J)I"⟩
theorem ic_m8 : Int32.ofInt (-8) = (-8) := by decide +kernel
theorem ic_m1 : Int32.ofInt (-1) = (-1) := by decide +kernel
theorem ic_0 : Int32.ofInt 0 = 0 := by decide +kernel
theorem ic_1 : Int32.ofInt 1 = 1 := by decide +kernel
theorem ic_2 : Int32.ofInt 2 = 2 := by decide +kernel
theorem ic_3 : Int32.ofInt 3 = 3 := by decide +kernel
theorem ic_4 : Int32.ofInt 4 = 4 := by decide +kernel
theorem ic_5 : Int32.ofInt 5 = 5 := by decide +kernel
theorem ic_8 : Int32.ofInt 8 = 8 := by decide +kernel
theorem ic_16 : Int32.ofInt 16 = 16 := by decide +kernel
theorem bp_m4 : (Int8.ofInt (-4)).toInt32 = (-4) := by decide +kernel
theorem bp_m3 : (Int8.ofInt (-3)).toInt32 = (-3) := by decide +kernel
theorem bp_m2 : (Int8.ofInt (-2)).toInt32 = (-2) := by decide +kernel
theorem bp_6 : (Int8.ofInt 6).toInt32 = 6 := by decide +kernel
theorem bp_7 : (Int8.ofInt 7).toInt32 = 7 := by decide +kernel
theorem bp_8 : (Int8.ofInt 8).toInt32 = 8 := by decide +kernel
theorem bp_9 : (Int8.ofInt 9).toInt32 = 9 := by decide +kernel
theorem bp_10 : (Int8.ofInt 10).toInt32 = 10 := by decide +kernel
theorem bp_12 : (Int8.ofInt 12).toInt32 = 12 := by decide +kernel
theorem bp_15 : (Int8.ofInt 15).toInt32 = 15 := by decide +kernel
theorem bp_16 : (Int8.ofInt 16).toInt32 = 16 := by decide +kernel
theorem bp_18 : (Int8.ofInt 18).toInt32 = 18 := by decide +kernel
theorem bp_19 : (Int8.ofInt 19).toInt32 = 19 := by decide +kernel
theorem bp_20 : (Int8.ofInt 20).toInt32 = 20 := by decide +kernel
theorem bp_24 : (Int8.ofInt 24).toInt32 = 24 := by decide +kernel
theorem bp_25 : (Int8.ofInt 25).toInt32 = 25 := by decide +kernel
theorem bp_30 : (Int8.ofInt 30).toInt32 = 30 := by decide +kernel
theorem bp_32 : (Int8.ofInt 32).toInt32 = 32 := by decide +kernel
theorem bp_36 : (Int8.ofInt 36).toInt32 = 36 := by decide +kernel
theorem bp_42 : (Int8.ofInt 42).toInt32 = 42 := by decide +kernel
theorem bp_43 : (Int8.ofInt 43).toInt32 = 43 := by decide +kernel
theorem bp_45 : (Int8.ofInt 45).toInt32 = 45 := by decide +kernel
theorem bp_47 : (Int8.ofInt 47).toInt32 = 47 := by decide +kernel
theorem bp_48 : (Int8.ofInt 48).toInt32 = 48 := by decide +kernel
theorem bp_52 : (Int8.ofInt 52).toInt32 = 52 := by decide +kernel
theorem bp_57 : (Int8.ofInt 57).toInt32 = 57 := by decide +kernel
theorem bp_63 : (Int8.ofInt 63).toInt32 = 63 := by decide +kernel
theorem bp_76 : (Int8.ofInt 76).toInt32 = 76 := by decide +kernel
theorem bp_80 : (Int8.ofInt 80).toInt32 = 80 := by decide +kernel
theorem bp_97 : (Int8.ofInt 97).toInt32 = 97 := by decide +kernel
theorem bp_99 : (Int8.ofInt 99).toInt32 = 99 := by decide +kernel
theorem bp_100 : (Int8.ofInt 100).toInt32 = 100 := by decide +kernel
theorem bp_104 : (Int8.ofInt 104).toInt32 = 104 := by decide +kernel
theorem bp_115 : (Int8.ofInt 115).toInt32 = 115 := by decide +kernel
theorem bp_120 : (Int8.ofInt 120).toInt32 = 120 := by decide +kernel
theorem bp_127 : (Int8.ofInt 127).toInt32 = 127 := by decide +kernel
theorem sp_129 : (Int16.ofInt 129).toInt32 = 129 := by decide +kernel
theorem sp_144 : (Int16.ofInt 144).toInt32 = 144 := by decide +kernel
theorem sp_200 : (Int16.ofInt 200).toInt32 = 200 := by decide +kernel
theorem sp_255 : (Int16.ofInt 255).toInt32 = 255 := by decide +kernel
theorem sp_256 : (Int16.ofInt 256).toInt32 = 256 := by decide +kernel
theorem sp_817 : (Int16.ofInt 817).toInt32 = 817 := by decide +kernel
theorem sp_860 : (Int16.ofInt 860).toInt32 = 860 := by decide +kernel
theorem sp_1296 : (Int16.ofInt 1296).toInt32 = 1296 := by decide +kernel
theorem sp_1440 : (Int16.ofInt 1440).toInt32 = 1440 := by decide +kernel
theorem sp_12345 : (Int16.ofInt 12345).toInt32 = 12345 := by decide +kernel
theorem ld_GWL_301 : Cond.constantLong "GuideWalksLast" 301 100 ∈ wsG := (wg 764 (by decide +kernel) rfl)
theorem ld_GWL_330 : Cond.constantLong "GuideWalksLast" 330 (-1) ∈ wsG := (wg 822 (by decide +kernel) rfl)
theorem ld_GWL_344 : Cond.constantLong "GuideWalksLast" 344 3 ∈ wsG := (wg 844 (by decide +kernel) rfl)
theorem ld_GWL_363 : Cond.constantLong "GuideWalksLast" 363 (-2) ∈ wsG := (wg 901 (by decide +kernel) rfl)
theorem ld_GWL_418 : Cond.constantLong "GuideWalksLast" 418 262143 ∈ wsG := (wg 670 (by decide +kernel) rfl)
theorem ld_Guide_106 : Cond.constantLong "GuideWalksLast$Guide" 106 10 ∈ wsG := (wg 725 (by decide +kernel) rfl)
theorem ld_Party_46 : Cond.constant "GuideWalksLast$Party" 46 1103515245 ∈ wsG := (wg 573 (by decide +kernel) rfl)
theorem ld_Mod_225 : Cond.constantLong "GuideWalksLastModel" 225 48 ∈ wsG := (wg 1355 (by decide +kernel) rfl)
theorem ld_Mod_227 : Cond.constantLong "GuideWalksLastModel" 227 57 ∈ wsG := (wg 1356 (by decide +kernel) rfl)
theorem ld_Mod_239 : Cond.constantLong "GuideWalksLastModel" 239 3 ∈ wsG := (wg 1377 (by decide +kernel) rfl)
theorem ld_Mod_241 : Cond.constantLong "GuideWalksLastModel" 241 10 ∈ wsG := (wg 1386 (by decide +kernel) rfl)
theorem ld_Mod_243 : Cond.constantLong "GuideWalksLastModel" 243 9 ∈ wsG := (wg 1391 (by decide +kernel) rfl)
theorem ld_Mod_255 : Cond.constant "GuideWalksLastModel" 255 1103515245 ∈ wsG := (wg 1439 (by decide +kernel) rfl)
theorem ld_Mod_259 : Cond.constantLong "GuideWalksLastModel" 259 2 ∈ wsG := (wg 1403 (by decide +kernel) rfl)
theorem ld_Mod_284 : Cond.constant "GuideWalksLastModel" 284 1000000 ∈ wsG := (wg 1472 (by decide +kernel) rfl)
theorem ld_Mod_302 : Cond.constantLong "GuideWalksLastModel" 302 100 ∈ wsG := (wg 1517 (by decide +kernel) rfl)
theorem ld_Mod_324 : Cond.constantLong "GuideWalksLastModel" 324 8 ∈ wsG := (wg 1500 (by decide +kernel) rfl)
theorem ld_Mod_358 : Cond.constantLong "GuideWalksLastModel" 358 5 ∈ wsG := (wg 1593 (by decide +kernel) rfl)
theorem ld_Mod_381 : Cond.constant "GuideWalksLastModel" 381 1431655765 ∈ wsG := (wg 1650 (by decide +kernel) rfl)
theorem ld_Mod_414 : Cond.constantLong "GuideWalksLastModel" 414 (-2) ∈ wsG := (wg 1681 (by decide +kernel) rfl)
theorem ld_Mod_419 : Cond.constantLong "GuideWalksLastModel" 419 4 ∈ wsG := (wg 1702 (by decide +kernel) rfl)
theorem ld_Mod_421 : Cond.constantLong "GuideWalksLastModel" 421 99 ∈ wsG := (wg 1703 (by decide +kernel) rfl)
theorem ld_JInt_264 : Cond.constant "java/lang/Integer" 264 65536 ∈ wsG := (wg 1654 (by decide +kernel) rfl)
theorem ld_JInt_265 : Cond.constant "java/lang/Integer" 265 1431655765 ∈ wsG := (wg 869 (by decide +kernel) rfl)
theorem ld_JInt_266 : Cond.constant "java/lang/Integer" 266 858993459 ∈ wsG := (wg 870 (by decide +kernel) rfl)
theorem ld_JInt_267 : Cond.constant "java/lang/Integer" 267 252645135 ∈ wsG := (wg 871 (by decide +kernel) rfl)
theorem ld_JLong_314 : Cond.constantLong "java/lang/Long" 314 6148914691236517205 ∈ wsG := (wg 674 (by decide +kernel) rfl)
theorem ld_JLong_316 : Cond.constantLong "java/lang/Long" 316 3689348814741910323 ∈ wsG := (wg 675 (by decide +kernel) rfl)
theorem ld_JLong_318 : Cond.constantLong "java/lang/Long" 318 1085102592571150095 ∈ wsG := (wg 676 (by decide +kernel) rfl)
theorem fw_GWL_10 : FW "GuideWalksLast" 10 11 0 := ⟨by decide, by decide, Or.inl (wg 320 (by decide +kernel) rfl)⟩
theorem fw_GWL_19 : FW "GuideWalksLast" 19 11 1 := ⟨by decide, by decide, Or.inl (wg 321 (by decide +kernel) rfl)⟩
theorem fw_GWL_26 : FW "GuideWalksLast" 26 11 4 := ⟨by decide, by decide, Or.inl (wg 324 (by decide +kernel) rfl)⟩
theorem fw_GWL_30 : FW "GuideWalksLast" 30 11 6 := ⟨by decide, by decide, Or.inl (wg 326 (by decide +kernel) rfl)⟩
theorem fw_GWL_37 : FW "GuideWalksLast" 37 11 7 := ⟨by decide, by decide, Or.inl (wg 327 (by decide +kernel) rfl)⟩
theorem fw_GWL_41 : FW "GuideWalksLast" 41 11 8 := ⟨by decide, by decide, Or.inl (wg 328 (by decide +kernel) rfl)⟩
theorem fw_GWL_44 : FW "GuideWalksLast" 44 11 9 := ⟨by decide, by decide, Or.inl (wg 329 (by decide +kernel) rfl)⟩
theorem fw_GWL_47 : FW "GuideWalksLast" 47 11 10 := ⟨by decide, by decide, Or.inl (wg 330 (by decide +kernel) rfl)⟩
theorem fw_GWL_51 : FW "GuideWalksLast" 51 11 11 := ⟨by decide, by decide, Or.inl (wg 331 (by decide +kernel) rfl)⟩
theorem fw_GWL_57 : FW "GuideWalksLast" 57 11 12 := ⟨by decide, by decide, Or.inl (wg 332 (by decide +kernel) rfl)⟩
theorem fw_GWL_61 : FW "GuideWalksLast" 61 11 13 := ⟨by decide, by decide, Or.inl (wg 333 (by decide +kernel) rfl)⟩
theorem fw_GWL_68 : FW "GuideWalksLast" 68 11 15 := ⟨by decide, by decide, Or.inl (wg 335 (by decide +kernel) rfl)⟩
theorem fw_GWL_75 : FW "GuideWalksLast" 75 11 18 := ⟨by decide, by decide, Or.inl (wg 338 (by decide +kernel) rfl)⟩
theorem fw_GWL_83 : FW "GuideWalksLast" 83 11 2 := ⟨by decide, by decide, Or.inl (wg 322 (by decide +kernel) rfl)⟩
theorem fw_GWL_87 : FW "GuideWalksLast" 87 11 3 := ⟨by decide, by decide, Or.inl (wg 323 (by decide +kernel) rfl)⟩
theorem fw_GWL_91 : FW "GuideWalksLast" 91 11 5 := ⟨by decide, by decide, Or.inl (wg 325 (by decide +kernel) rfl)⟩
theorem fw_GWL_99 : FW "GuideWalksLast" 99 11 14 := ⟨by decide, by decide, Or.inl (wg 334 (by decide +kernel) rfl)⟩
theorem fw_GWL_108 : FW "GuideWalksLast" 108 11 16 := ⟨by decide, by decide, Or.inl (wg 336 (by decide +kernel) rfl)⟩
theorem fw_GWL_115 : FW "GuideWalksLast" 115 11 17 := ⟨by decide, by decide, Or.inl (wg 337 (by decide +kernel) rfl)⟩
theorem fw_GWL_175 : FW "GuideWalksLast" 175 5 0 := ⟨by decide, by decide, Or.inr ⟨"GuideWalksLast", by decide +kernel⟩⟩
theorem fw_GWL_181 : FW "GuideWalksLast" 181 5 2 := ⟨by decide, by decide, Or.inr ⟨"GuideWalksLast", by decide +kernel⟩⟩
theorem fw_GWL_213 : FW "GuideWalksLast" 213 5 5 := ⟨by decide, by decide, Or.inr ⟨"GuideWalksLast", by decide +kernel⟩⟩
theorem fw_GWL_223 : FW "GuideWalksLast" 223 6 2 := ⟨by decide, by decide, Or.inr ⟨"GuideWalksLast", by decide +kernel⟩⟩
theorem fw_GWL_303 : FW "GuideWalksLast" 303 1 11 := ⟨by decide, by decide, Or.inr ⟨"GuideWalksLast", by decide +kernel⟩⟩
theorem fw_GWL_312 : FW "GuideWalksLast" 312 0 5 := ⟨by decide, by decide, Or.inr ⟨"GuideWalksLast", by decide +kernel⟩⟩
theorem fw_GWL_318 : FW "GuideWalksLast" 318 0 3 := ⟨by decide, by decide, Or.inr ⟨"GuideWalksLast", by decide +kernel⟩⟩
theorem fw_GWL_321 : FW "GuideWalksLast" 321 5 4 := ⟨by decide, by decide, Or.inr ⟨"GuideWalksLast", by decide +kernel⟩⟩
theorem fw_GWL_322 : FW "GuideWalksLast" 322 0 4 := ⟨by decide, by decide, Or.inr ⟨"GuideWalksLast", by decide +kernel⟩⟩
theorem fw_GWL_339 : FW "GuideWalksLast" 339 10 3 := ⟨by decide, by decide, Or.inr ⟨"GuideWalksLast", by decide +kernel⟩⟩
theorem fw_GWL_340 : FW "GuideWalksLast" 340 10 4 := ⟨by decide, by decide, Or.inr ⟨"GuideWalksLast", by decide +kernel⟩⟩
theorem fw_GWL_346 : FW "GuideWalksLast" 346 10 2 := ⟨by decide, by decide, Or.inr ⟨"GuideWalksLast", by decide +kernel⟩⟩
theorem fw_GWL_362 : FW "GuideWalksLast" 362 7 6 := ⟨by decide, by decide, Or.inr ⟨"GuideWalksLast", by decide +kernel⟩⟩
theorem fw_GWL_392 : FW "GuideWalksLast" 392 5 3 := ⟨by decide, by decide, Or.inr ⟨"GuideWalksLast", by decide +kernel⟩⟩
theorem fw_GWL_397 : FW "GuideWalksLast" 397 2 0 := ⟨by decide, by decide, Or.inr ⟨"GuideWalksLast", by decide +kernel⟩⟩
theorem fw_GWL_400 : FW "GuideWalksLast" 400 5 1 := ⟨by decide, by decide, Or.inr ⟨"GuideWalksLast", by decide +kernel⟩⟩
theorem fw_GWL_403 : FW "GuideWalksLast" 403 4 1 := ⟨by decide, by decide, Or.inr ⟨"GuideWalksLast", by decide +kernel⟩⟩
theorem fw_Fee_9 : FW "GuideWalksLast$Fee" 9 0 5 := ⟨by decide, by decide, Or.inl (wg 134 (by decide +kernel) rfl)⟩
theorem fw_Fee_15 : FW "GuideWalksLast$Fee" 15 0 0 := ⟨by decide, by decide, Or.inl (wg 125 (by decide +kernel) rfl)⟩
theorem fw_Fee_18 : FW "GuideWalksLast$Fee" 18 0 1 := ⟨by decide, by decide, Or.inl (wg 126 (by decide +kernel) rfl)⟩
theorem fw_Fee_21 : FW "GuideWalksLast$Fee" 21 0 2 := ⟨by decide, by decide, Or.inl (wg 127 (by decide +kernel) rfl)⟩
theorem fw_Fee_24 : FW "GuideWalksLast$Fee" 24 0 3 := ⟨by decide, by decide, Or.inl (wg 128 (by decide +kernel) rfl)⟩
theorem fw_Fee_27 : FW "GuideWalksLast$Fee" 27 0 4 := ⟨by decide, by decide, Or.inl (wg 131 (by decide +kernel) rfl)⟩
theorem fw_Guide_12 : FW "GuideWalksLast$Guide" 12 1 2 := ⟨by decide, by decide, Or.inl (wg 227 (by decide +kernel) rfl)⟩
theorem fw_Guide_18 : FW "GuideWalksLast$Guide" 18 1 3 := ⟨by decide, by decide, Or.inl (wg 228 (by decide +kernel) rfl)⟩
theorem fw_Guide_22 : FW "GuideWalksLast$Guide" 22 1 4 := ⟨by decide, by decide, Or.inl (wg 229 (by decide +kernel) rfl)⟩
theorem fw_Guide_25 : FW "GuideWalksLast$Guide" 25 1 5 := ⟨by decide, by decide, Or.inl (wg 230 (by decide +kernel) rfl)⟩
theorem fw_Guide_28 : FW "GuideWalksLast$Guide" 28 1 6 := ⟨by decide, by decide, Or.inl (wg 231 (by decide +kernel) rfl)⟩
theorem fw_Guide_34 : FW "GuideWalksLast$Guide" 34 1 7 := ⟨by decide, by decide, Or.inl (wg 232 (by decide +kernel) rfl)⟩
theorem fw_Guide_38 : FW "GuideWalksLast$Guide" 38 1 11 := ⟨by decide, by decide, Or.inl (wg 236 (by decide +kernel) rfl)⟩
theorem fw_Guide_42 : FW "GuideWalksLast$Guide" 42 1 0 := ⟨by decide, by decide, Or.inl (wg 225 (by decide +kernel) rfl)⟩
theorem fw_Guide_46 : FW "GuideWalksLast$Guide" 46 1 1 := ⟨by decide, by decide, Or.inl (wg 226 (by decide +kernel) rfl)⟩
theorem fw_Guide_50 : FW "GuideWalksLast$Guide" 50 1 9 := ⟨by decide, by decide, Or.inl (wg 234 (by decide +kernel) rfl)⟩
theorem fw_Guide_53 : FW "GuideWalksLast$Guide" 53 1 8 := ⟨by decide, by decide, Or.inl (wg 233 (by decide +kernel) rfl)⟩
theorem fw_Guide_56 : FW "GuideWalksLast$Guide" 56 1 10 := ⟨by decide, by decide, Or.inl (wg 235 (by decide +kernel) rfl)⟩
theorem fw_Guide_112 : FW "GuideWalksLast$Guide" 112 0 3 := ⟨by decide, by decide, Or.inr ⟨"GuideWalksLast", by decide +kernel⟩⟩
theorem fw_Guide_115 : FW "GuideWalksLast$Guide" 115 0 4 := ⟨by decide, by decide, Or.inr ⟨"GuideWalksLast", by decide +kernel⟩⟩
theorem fw_Land_9 : FW "GuideWalksLast$Land" 9 2 0 := ⟨by decide, by decide, Or.inl (wg 193 (by decide +kernel) rfl)⟩
theorem fw_Land_15 : FW "GuideWalksLast$Land" 15 2 1 := ⟨by decide, by decide, Or.inl (wg 196 (by decide +kernel) rfl)⟩
theorem fw_Land_18 : FW "GuideWalksLast$Land" 18 2 2 := ⟨by decide, by decide, Or.inl (wg 197 (by decide +kernel) rfl)⟩
theorem fw_Land_22 : FW "GuideWalksLast$Land" 22 2 3 := ⟨by decide, by decide, Or.inl (wg 198 (by decide +kernel) rfl)⟩
theorem fw_Land_25 : FW "GuideWalksLast$Land" 25 2 4 := ⟨by decide, by decide, Or.inl (wg 199 (by decide +kernel) rfl)⟩
theorem fw_Land_51 : FW "GuideWalksLast$Land" 51 2 5 := ⟨by decide, by decide, Or.inl (wg 200 (by decide +kernel) rfl)⟩
theorem fw_Market_9 : FW "GuideWalksLast$Market" 9 3 0 := ⟨by decide, by decide, Or.inl (wg 174 (by decide +kernel) rfl)⟩
theorem fw_Market_15 : FW "GuideWalksLast$Market" 15 3 1 := ⟨by decide, by decide, Or.inl (wg 175 (by decide +kernel) rfl)⟩
theorem fw_Market_18 : FW "GuideWalksLast$Market" 18 3 3 := ⟨by decide, by decide, Or.inl (wg 177 (by decide +kernel) rfl)⟩
theorem fw_Market_22 : FW "GuideWalksLast$Market" 22 3 2 := ⟨by decide, by decide, Or.inl (wg 176 (by decide +kernel) rfl)⟩
theorem fw_Numbers_9 : FW "GuideWalksLast$Numbers" 9 4 0 := ⟨by decide, by decide, Or.inl (wg 55 (by decide +kernel) rfl)⟩
theorem fw_Numbers_15 : FW "GuideWalksLast$Numbers" 15 4 1 := ⟨by decide, by decide, Or.inl (wg 56 (by decide +kernel) rfl)⟩
theorem fw_Party_9 : FW "GuideWalksLast$Party" 9 5 2 := ⟨by decide, by decide, Or.inl (wg 84 (by decide +kernel) rfl)⟩
theorem fw_Party_15 : FW "GuideWalksLast$Party" 15 5 3 := ⟨by decide, by decide, Or.inl (wg 86 (by decide +kernel) rfl)⟩
theorem fw_Party_18 : FW "GuideWalksLast$Party" 18 5 6 := ⟨by decide, by decide, Or.inl (wg 92 (by decide +kernel) rfl)⟩
theorem fw_Party_28 : FW "GuideWalksLast$Party" 28 5 0 := ⟨by decide, by decide, Or.inl (wg 80 (by decide +kernel) rfl)⟩
theorem fw_Party_31 : FW "GuideWalksLast$Party" 31 5 1 := ⟨by decide, by decide, Or.inl (wg 82 (by decide +kernel) rfl)⟩
theorem fw_Party_34 : FW "GuideWalksLast$Party" 34 5 4 := ⟨by decide, by decide, Or.inl (wg 88 (by decide +kernel) rfl)⟩
theorem fw_Party_37 : FW "GuideWalksLast$Party" 37 5 5 := ⟨by decide, by decide, Or.inl (wg 90 (by decide +kernel) rfl)⟩
theorem fw_Past_11 : FW "GuideWalksLast$Past" 11 6 0 := ⟨by decide, by decide, Or.inl (wg 108 (by decide +kernel) rfl)⟩
theorem fw_Past_18 : FW "GuideWalksLast$Past" 18 6 1 := ⟨by decide, by decide, Or.inl (wg 109 (by decide +kernel) rfl)⟩
theorem fw_Past_26 : FW "GuideWalksLast$Past" 26 6 2 := ⟨by decide, by decide, Or.inl (wg 110 (by decide +kernel) rfl)⟩
theorem fw_Prints_9 : FW "GuideWalksLast$Prints" 9 7 2 := ⟨by decide, by decide, Or.inl (wg 296 (by decide +kernel) rfl)⟩
theorem fw_Prints_15 : FW "GuideWalksLast$Prints" 15 7 3 := ⟨by decide, by decide, Or.inl (wg 297 (by decide +kernel) rfl)⟩
theorem fw_Prints_19 : FW "GuideWalksLast$Prints" 19 7 4 := ⟨by decide, by decide, Or.inl (wg 298 (by decide +kernel) rfl)⟩
theorem fw_Prints_22 : FW "GuideWalksLast$Prints" 22 7 0 := ⟨by decide, by decide, Or.inl (wg 294 (by decide +kernel) rfl)⟩
theorem fw_Prints_26 : FW "GuideWalksLast$Prints" 26 7 1 := ⟨by decide, by decide, Or.inl (wg 295 (by decide +kernel) rfl)⟩
theorem fw_Prints_29 : FW "GuideWalksLast$Prints" 29 7 6 := ⟨by decide, by decide, Or.inl (wg 300 (by decide +kernel) rfl)⟩
theorem fw_Prints_47 : FW "GuideWalksLast$Prints" 47 7 5 := ⟨by decide, by decide, Or.inl (wg 299 (by decide +kernel) rfl)⟩
theorem fw_Prints_50 : FW "GuideWalksLast$Prints" 50 2 0 := ⟨by decide, by decide, Or.inr ⟨"GuideWalksLast", by decide +kernel⟩⟩
theorem fw_Prints_53 : FW "GuideWalksLast$Prints" 53 7 7 := ⟨by decide, by decide, Or.inl (wg 302 (by decide +kernel) rfl)⟩
theorem fw_Signs_9 : FW "GuideWalksLast$Signs" 9 8 0 := ⟨by decide, by decide, Or.inl (wg 41 (by decide +kernel) rfl)⟩
theorem fw_Signs_15 : FW "GuideWalksLast$Signs" 15 8 1 := ⟨by decide, by decide, Or.inl (wg 42 (by decide +kernel) rfl)⟩
theorem fw_Spread_9 : FW "GuideWalksLast$Spread" 9 9 0 := ⟨by decide, by decide, Or.inl (wg 157 (by decide +kernel) rfl)⟩
theorem fw_Spread_15 : FW "GuideWalksLast$Spread" 15 9 1 := ⟨by decide, by decide, Or.inl (wg 158 (by decide +kernel) rfl)⟩
theorem fw_Spread_24 : FW "GuideWalksLast$Spread" 24 9 2 := ⟨by decide, by decide, Or.inl (wg 159 (by decide +kernel) rfl)⟩
theorem fw_Trail_9 : FW "GuideWalksLast$Trail" 9 10 0 := ⟨by decide, by decide, Or.inl (wg 269 (by decide +kernel) rfl)⟩
theorem fw_Trail_15 : FW "GuideWalksLast$Trail" 15 10 1 := ⟨by decide, by decide, Or.inl (wg 270 (by decide +kernel) rfl)⟩
theorem fw_Trail_19 : FW "GuideWalksLast$Trail" 19 10 2 := ⟨by decide, by decide, Or.inl (wg 271 (by decide +kernel) rfl)⟩
theorem fw_Trail_23 : FW "GuideWalksLast$Trail" 23 10 3 := ⟨by decide, by decide, Or.inl (wg 273 (by decide +kernel) rfl)⟩
theorem fw_Trail_26 : FW "GuideWalksLast$Trail" 26 10 4 := ⟨by decide, by decide, Or.inl (wg 275 (by decide +kernel) rfl)⟩
theorem fw_Mod_3 : FW "GuideWalksLastModel" 3 12 0 := ⟨by decide, by decide, Or.inl (wg 1098 (by decide +kernel) rfl)⟩
theorem fw_Mod_17 : FW "GuideWalksLastModel" 17 12 2 := ⟨by decide, by decide, Or.inl (wg 1100 (by decide +kernel) rfl)⟩
theorem fw_Mod_21 : FW "GuideWalksLastModel" 21 12 1 := ⟨by decide, by decide, Or.inl (wg 1099 (by decide +kernel) rfl)⟩
theorem fw_Mod_34 : FW "GuideWalksLastModel" 34 12 3 := ⟨by decide, by decide, Or.inl (wg 1101 (by decide +kernel) rfl)⟩
theorem fw_Mod_37 : FW "GuideWalksLastModel" 37 12 4 := ⟨by decide, by decide, Or.inl (wg 1102 (by decide +kernel) rfl)⟩
theorem fw_Mod_40 : FW "GuideWalksLastModel" 40 12 5 := ⟨by decide, by decide, Or.inl (wg 1103 (by decide +kernel) rfl)⟩
theorem fw_Mod_44 : FW "GuideWalksLastModel" 44 12 9 := ⟨by decide, by decide, Or.inl (wg 1107 (by decide +kernel) rfl)⟩
theorem fw_Mod_47 : FW "GuideWalksLastModel" 47 12 10 := ⟨by decide, by decide, Or.inl (wg 1108 (by decide +kernel) rfl)⟩
theorem fw_Mod_50 : FW "GuideWalksLastModel" 50 12 11 := ⟨by decide, by decide, Or.inl (wg 1109 (by decide +kernel) rfl)⟩
theorem fw_Mod_53 : FW "GuideWalksLastModel" 53 12 12 := ⟨by decide, by decide, Or.inl (wg 1110 (by decide +kernel) rfl)⟩
theorem fw_Mod_56 : FW "GuideWalksLastModel" 56 12 15 := ⟨by decide, by decide, Or.inl (wg 1113 (by decide +kernel) rfl)⟩
theorem fw_Mod_59 : FW "GuideWalksLastModel" 59 12 16 := ⟨by decide, by decide, Or.inl (wg 1114 (by decide +kernel) rfl)⟩
theorem fw_Mod_62 : FW "GuideWalksLastModel" 62 12 20 := ⟨by decide, by decide, Or.inl (wg 1118 (by decide +kernel) rfl)⟩
theorem fw_Mod_65 : FW "GuideWalksLastModel" 65 12 21 := ⟨by decide, by decide, Or.inl (wg 1119 (by decide +kernel) rfl)⟩
theorem fw_Mod_68 : FW "GuideWalksLastModel" 68 12 22 := ⟨by decide, by decide, Or.inl (wg 1120 (by decide +kernel) rfl)⟩
theorem fw_Mod_71 : FW "GuideWalksLastModel" 71 12 24 := ⟨by decide, by decide, Or.inl (wg 1122 (by decide +kernel) rfl)⟩
theorem fw_Mod_74 : FW "GuideWalksLastModel" 74 12 25 := ⟨by decide, by decide, Or.inl (wg 1123 (by decide +kernel) rfl)⟩
theorem fw_Mod_77 : FW "GuideWalksLastModel" 77 12 26 := ⟨by decide, by decide, Or.inl (wg 1124 (by decide +kernel) rfl)⟩
theorem fw_Mod_81 : FW "GuideWalksLastModel" 81 12 27 := ⟨by decide, by decide, Or.inl (wg 1125 (by decide +kernel) rfl)⟩
theorem fw_Mod_84 : FW "GuideWalksLastModel" 84 12 28 := ⟨by decide, by decide, Or.inl (wg 1126 (by decide +kernel) rfl)⟩
theorem fw_Mod_87 : FW "GuideWalksLastModel" 87 12 29 := ⟨by decide, by decide, Or.inl (wg 1127 (by decide +kernel) rfl)⟩
theorem fw_Mod_90 : FW "GuideWalksLastModel" 90 12 30 := ⟨by decide, by decide, Or.inl (wg 1128 (by decide +kernel) rfl)⟩
theorem fw_Mod_93 : FW "GuideWalksLastModel" 93 12 31 := ⟨by decide, by decide, Or.inl (wg 1129 (by decide +kernel) rfl)⟩
theorem fw_Mod_96 : FW "GuideWalksLastModel" 96 12 32 := ⟨by decide, by decide, Or.inl (wg 1130 (by decide +kernel) rfl)⟩
theorem fw_Mod_99 : FW "GuideWalksLastModel" 99 12 33 := ⟨by decide, by decide, Or.inl (wg 1131 (by decide +kernel) rfl)⟩
theorem fw_Mod_102 : FW "GuideWalksLastModel" 102 12 34 := ⟨by decide, by decide, Or.inl (wg 1132 (by decide +kernel) rfl)⟩
theorem fw_Mod_105 : FW "GuideWalksLastModel" 105 12 35 := ⟨by decide, by decide, Or.inl (wg 1133 (by decide +kernel) rfl)⟩
theorem fw_Mod_108 : FW "GuideWalksLastModel" 108 12 36 := ⟨by decide, by decide, Or.inl (wg 1134 (by decide +kernel) rfl)⟩
theorem fw_Mod_111 : FW "GuideWalksLastModel" 111 12 39 := ⟨by decide, by decide, Or.inl (wg 1137 (by decide +kernel) rfl)⟩
theorem fw_Mod_114 : FW "GuideWalksLastModel" 114 12 40 := ⟨by decide, by decide, Or.inl (wg 1138 (by decide +kernel) rfl)⟩
theorem fw_Mod_117 : FW "GuideWalksLastModel" 117 12 44 := ⟨by decide, by decide, Or.inl (wg 1142 (by decide +kernel) rfl)⟩
theorem fw_Mod_120 : FW "GuideWalksLastModel" 120 12 45 := ⟨by decide, by decide, Or.inl (wg 1143 (by decide +kernel) rfl)⟩
theorem fw_Mod_123 : FW "GuideWalksLastModel" 123 12 46 := ⟨by decide, by decide, Or.inl (wg 1144 (by decide +kernel) rfl)⟩
theorem fw_Mod_126 : FW "GuideWalksLastModel" 126 12 47 := ⟨by decide, by decide, Or.inl (wg 1145 (by decide +kernel) rfl)⟩
theorem fw_Mod_129 : FW "GuideWalksLastModel" 129 12 48 := ⟨by decide, by decide, Or.inl (wg 1146 (by decide +kernel) rfl)⟩
theorem fw_Mod_132 : FW "GuideWalksLastModel" 132 12 49 := ⟨by decide, by decide, Or.inl (wg 1147 (by decide +kernel) rfl)⟩
theorem fw_Mod_135 : FW "GuideWalksLastModel" 135 12 51 := ⟨by decide, by decide, Or.inl (wg 1149 (by decide +kernel) rfl)⟩
theorem fw_Mod_138 : FW "GuideWalksLastModel" 138 12 52 := ⟨by decide, by decide, Or.inl (wg 1150 (by decide +kernel) rfl)⟩
theorem fw_Mod_141 : FW "GuideWalksLastModel" 141 12 53 := ⟨by decide, by decide, Or.inl (wg 1151 (by decide +kernel) rfl)⟩
theorem fw_Mod_159 : FW "GuideWalksLastModel" 159 12 17 := ⟨by decide, by decide, Or.inl (wg 1115 (by decide +kernel) rfl)⟩
theorem fw_Mod_162 : FW "GuideWalksLastModel" 162 12 18 := ⟨by decide, by decide, Or.inl (wg 1116 (by decide +kernel) rfl)⟩
theorem fw_Mod_169 : FW "GuideWalksLastModel" 169 12 19 := ⟨by decide, by decide, Or.inl (wg 1117 (by decide +kernel) rfl)⟩
theorem fw_Mod_195 : FW "GuideWalksLastModel" 195 12 6 := ⟨by decide, by decide, Or.inl (wg 1104 (by decide +kernel) rfl)⟩
theorem fw_Mod_198 : FW "GuideWalksLastModel" 198 12 42 := ⟨by decide, by decide, Or.inl (wg 1140 (by decide +kernel) rfl)⟩
theorem fw_Mod_204 : FW "GuideWalksLastModel" 204 12 7 := ⟨by decide, by decide, Or.inl (wg 1105 (by decide +kernel) rfl)⟩
theorem fw_Mod_207 : FW "GuideWalksLastModel" 207 12 8 := ⟨by decide, by decide, Or.inl (wg 1106 (by decide +kernel) rfl)⟩
theorem fw_Mod_210 : FW "GuideWalksLastModel" 210 12 13 := ⟨by decide, by decide, Or.inl (wg 1111 (by decide +kernel) rfl)⟩
theorem fw_Mod_213 : FW "GuideWalksLastModel" 213 12 14 := ⟨by decide, by decide, Or.inl (wg 1112 (by decide +kernel) rfl)⟩
theorem fw_Mod_216 : FW "GuideWalksLastModel" 216 12 23 := ⟨by decide, by decide, Or.inl (wg 1121 (by decide +kernel) rfl)⟩
theorem fw_Mod_366 : FW "GuideWalksLastModel" 366 12 38 := ⟨by decide, by decide, Or.inl (wg 1136 (by decide +kernel) rfl)⟩
theorem fw_Mod_370 : FW "GuideWalksLastModel" 370 12 37 := ⟨by decide, by decide, Or.inl (wg 1135 (by decide +kernel) rfl)⟩
theorem fw_Mod_382 : FW "GuideWalksLastModel" 382 12 41 := ⟨by decide, by decide, Or.inl (wg 1139 (by decide +kernel) rfl)⟩
theorem fw_Mod_404 : FW "GuideWalksLastModel" 404 12 43 := ⟨by decide, by decide, Or.inl (wg 1141 (by decide +kernel) rfl)⟩
theorem fw_Mod_423 : FW "GuideWalksLastModel" 423 12 50 := ⟨by decide, by decide, Or.inl (wg 1148 (by decide +kernel) rfl)⟩
theorem wfl_GWL_10 : Cond.fieldLink "GuideWalksLast" 10 (clR 11) (clT 11 0).2.1 (clT 11 0).2.2.1 ∈ wsG := (wg 320 (by decide +kernel) rfl)
theorem wfl_GWL_19 : Cond.fieldLink "GuideWalksLast" 19 (clR 11) (clT 11 1).2.1 (clT 11 1).2.2.1 ∈ wsG := (wg 321 (by decide +kernel) rfl)
theorem wfl_GWL_26 : Cond.fieldLink "GuideWalksLast" 26 (clR 11) (clT 11 4).2.1 (clT 11 4).2.2.1 ∈ wsG := (wg 324 (by decide +kernel) rfl)
theorem wfl_GWL_37 : Cond.fieldLink "GuideWalksLast" 37 (clR 11) (clT 11 7).2.1 (clT 11 7).2.2.1 ∈ wsG := (wg 327 (by decide +kernel) rfl)
theorem wfl_GWL_41 : Cond.fieldLink "GuideWalksLast" 41 (clR 11) (clT 11 8).2.1 (clT 11 8).2.2.1 ∈ wsG := (wg 328 (by decide +kernel) rfl)
theorem wfl_GWL_44 : Cond.fieldLink "GuideWalksLast" 44 (clR 11) (clT 11 9).2.1 (clT 11 9).2.2.1 ∈ wsG := (wg 329 (by decide +kernel) rfl)
theorem wfl_GWL_47 : Cond.fieldLink "GuideWalksLast" 47 (clR 11) (clT 11 10).2.1 (clT 11 10).2.2.1 ∈ wsG := (wg 330 (by decide +kernel) rfl)
theorem wfl_GWL_51 : Cond.fieldLink "GuideWalksLast" 51 (clR 11) (clT 11 11).2.1 (clT 11 11).2.2.1 ∈ wsG := (wg 331 (by decide +kernel) rfl)
theorem wfl_GWL_57 : Cond.fieldLink "GuideWalksLast" 57 (clR 11) (clT 11 12).2.1 (clT 11 12).2.2.1 ∈ wsG := (wg 332 (by decide +kernel) rfl)
theorem wfl_GWL_61 : Cond.fieldLink "GuideWalksLast" 61 (clR 11) (clT 11 13).2.1 (clT 11 13).2.2.1 ∈ wsG := (wg 333 (by decide +kernel) rfl)
theorem wfl_GWL_68 : Cond.fieldLink "GuideWalksLast" 68 (clR 11) (clT 11 15).2.1 (clT 11 15).2.2.1 ∈ wsG := (wg 335 (by decide +kernel) rfl)
theorem wfl_GWL_75 : Cond.fieldLink "GuideWalksLast" 75 (clR 11) (clT 11 18).2.1 (clT 11 18).2.2.1 ∈ wsG := (wg 338 (by decide +kernel) rfl)
theorem wfl_GWL_83 : Cond.fieldLink "GuideWalksLast" 83 (clR 11) (clT 11 2).2.1 (clT 11 2).2.2.1 ∈ wsG := (wg 322 (by decide +kernel) rfl)
theorem wfl_GWL_87 : Cond.fieldLink "GuideWalksLast" 87 (clR 11) (clT 11 3).2.1 (clT 11 3).2.2.1 ∈ wsG := (wg 323 (by decide +kernel) rfl)
theorem wfl_GWL_91 : Cond.fieldLink "GuideWalksLast" 91 (clR 11) (clT 11 5).2.1 (clT 11 5).2.2.1 ∈ wsG := (wg 325 (by decide +kernel) rfl)
theorem wfl_GWL_99 : Cond.fieldLink "GuideWalksLast" 99 (clR 11) (clT 11 14).2.1 (clT 11 14).2.2.1 ∈ wsG := (wg 334 (by decide +kernel) rfl)
theorem wfl_GWL_108 : Cond.fieldLink "GuideWalksLast" 108 (clR 11) (clT 11 16).2.1 (clT 11 16).2.2.1 ∈ wsG := (wg 336 (by decide +kernel) rfl)
theorem wfl_GWL_115 : Cond.fieldLink "GuideWalksLast" 115 (clR 11) (clT 11 17).2.1 (clT 11 17).2.2.1 ∈ wsG := (wg 337 (by decide +kernel) rfl)
theorem wfl_Guide_12 : Cond.fieldLink "GuideWalksLast$Guide" 12 (clR 1) (clT 1 2).2.1 (clT 1 2).2.2.1 ∈ wsG := (wg 227 (by decide +kernel) rfl)
theorem wfl_Guide_42 : Cond.fieldLink "GuideWalksLast$Guide" 42 (clR 1) (clT 1 0).2.1 (clT 1 0).2.2.1 ∈ wsG := (wg 225 (by decide +kernel) rfl)
theorem wfl_Guide_46 : Cond.fieldLink "GuideWalksLast$Guide" 46 (clR 1) (clT 1 1).2.1 (clT 1 1).2.2.1 ∈ wsG := (wg 226 (by decide +kernel) rfl)
theorem wfl_Land_18 : Cond.fieldLink "GuideWalksLast$Land" 18 (clR 2) (clT 2 2).2.1 (clT 2 2).2.2.1 ∈ wsG := (wg 197 (by decide +kernel) rfl)
theorem wfl_Land_22 : Cond.fieldLink "GuideWalksLast$Land" 22 (clR 2) (clT 2 3).2.1 (clT 2 3).2.2.1 ∈ wsG := (wg 198 (by decide +kernel) rfl)
theorem wfl_Land_25 : Cond.fieldLink "GuideWalksLast$Land" 25 (clR 2) (clT 2 4).2.1 (clT 2 4).2.2.1 ∈ wsG := (wg 199 (by decide +kernel) rfl)
theorem wfl_Market_9 : Cond.fieldLink "GuideWalksLast$Market" 9 (clR 3) (clT 3 0).2.1 (clT 3 0).2.2.1 ∈ wsG := (wg 174 (by decide +kernel) rfl)
theorem wfl_Market_15 : Cond.fieldLink "GuideWalksLast$Market" 15 (clR 3) (clT 3 1).2.1 (clT 3 1).2.2.1 ∈ wsG := (wg 175 (by decide +kernel) rfl)
theorem wfl_Numbers_9 : Cond.fieldLink "GuideWalksLast$Numbers" 9 (clR 4) (clT 4 0).2.1 (clT 4 0).2.2.1 ∈ wsG := (wg 55 (by decide +kernel) rfl)
theorem wfl_Party_18 : Cond.fieldLink "GuideWalksLast$Party" 18 (clR 5) (clT 5 6).2.1 (clT 5 6).2.2.1 ∈ wsG := (wg 92 (by decide +kernel) rfl)
theorem wfl_Past_11 : Cond.fieldLink "GuideWalksLast$Past" 11 (clR 6) (clT 6 0).2.1 (clT 6 0).2.2.1 ∈ wsG := (wg 108 (by decide +kernel) rfl)
theorem wfl_Prints_9 : Cond.fieldLink "GuideWalksLast$Prints" 9 (clR 7) (clT 7 2).2.1 (clT 7 2).2.2.1 ∈ wsG := (wg 296 (by decide +kernel) rfl)
theorem wfl_Prints_15 : Cond.fieldLink "GuideWalksLast$Prints" 15 (clR 7) (clT 7 3).2.1 (clT 7 3).2.2.1 ∈ wsG := (wg 297 (by decide +kernel) rfl)
theorem wfl_Prints_19 : Cond.fieldLink "GuideWalksLast$Prints" 19 (clR 7) (clT 7 4).2.1 (clT 7 4).2.2.1 ∈ wsG := (wg 298 (by decide +kernel) rfl)
theorem wfl_Prints_22 : Cond.fieldLink "GuideWalksLast$Prints" 22 (clR 7) (clT 7 0).2.1 (clT 7 0).2.2.1 ∈ wsG := (wg 294 (by decide +kernel) rfl)
theorem wfl_Prints_26 : Cond.fieldLink "GuideWalksLast$Prints" 26 (clR 7) (clT 7 1).2.1 (clT 7 1).2.2.1 ∈ wsG := (wg 295 (by decide +kernel) rfl)
theorem wfl_Signs_9 : Cond.fieldLink "GuideWalksLast$Signs" 9 (clR 8) (clT 8 0).2.1 (clT 8 0).2.2.1 ∈ wsG := (wg 41 (by decide +kernel) rfl)
theorem wfl_Spread_9 : Cond.fieldLink "GuideWalksLast$Spread" 9 (clR 9) (clT 9 0).2.1 (clT 9 0).2.2.1 ∈ wsG := (wg 157 (by decide +kernel) rfl)
theorem wfl_Spread_15 : Cond.fieldLink "GuideWalksLast$Spread" 15 (clR 9) (clT 9 1).2.1 (clT 9 1).2.2.1 ∈ wsG := (wg 158 (by decide +kernel) rfl)
theorem wfl_Trail_9 : Cond.fieldLink "GuideWalksLast$Trail" 9 (clR 10) (clT 10 0).2.1 (clT 10 0).2.2.1 ∈ wsG := (wg 269 (by decide +kernel) rfl)
theorem wfl_Trail_15 : Cond.fieldLink "GuideWalksLast$Trail" 15 (clR 10) (clT 10 1).2.1 (clT 10 1).2.2.1 ∈ wsG := (wg 270 (by decide +kernel) rfl)
theorem wfl_Mod_17 : Cond.fieldLink "GuideWalksLastModel" 17 (clR 12) (clT 12 2).2.1 (clT 12 2).2.2.1 ∈ wsG := (wg 1100 (by decide +kernel) rfl)
theorem wfl_Mod_40 : Cond.fieldLink "GuideWalksLastModel" 40 (clR 12) (clT 12 5).2.1 (clT 12 5).2.2.1 ∈ wsG := (wg 1103 (by decide +kernel) rfl)
theorem wfl_Mod_44 : Cond.fieldLink "GuideWalksLastModel" 44 (clR 12) (clT 12 9).2.1 (clT 12 9).2.2.1 ∈ wsG := (wg 1107 (by decide +kernel) rfl)
theorem wfl_Mod_56 : Cond.fieldLink "GuideWalksLastModel" 56 (clR 12) (clT 12 15).2.1 (clT 12 15).2.2.1 ∈ wsG := (wg 1113 (by decide +kernel) rfl)
theorem wfl_Mod_59 : Cond.fieldLink "GuideWalksLastModel" 59 (clR 12) (clT 12 16).2.1 (clT 12 16).2.2.1 ∈ wsG := (wg 1114 (by decide +kernel) rfl)
theorem wfl_Mod_62 : Cond.fieldLink "GuideWalksLastModel" 62 (clR 12) (clT 12 20).2.1 (clT 12 20).2.2.1 ∈ wsG := (wg 1118 (by decide +kernel) rfl)
theorem wfl_Mod_65 : Cond.fieldLink "GuideWalksLastModel" 65 (clR 12) (clT 12 21).2.1 (clT 12 21).2.2.1 ∈ wsG := (wg 1119 (by decide +kernel) rfl)
theorem wfl_Mod_68 : Cond.fieldLink "GuideWalksLastModel" 68 (clR 12) (clT 12 22).2.1 (clT 12 22).2.2.1 ∈ wsG := (wg 1120 (by decide +kernel) rfl)
theorem wfl_Mod_71 : Cond.fieldLink "GuideWalksLastModel" 71 (clR 12) (clT 12 24).2.1 (clT 12 24).2.2.1 ∈ wsG := (wg 1122 (by decide +kernel) rfl)
theorem wfl_Mod_74 : Cond.fieldLink "GuideWalksLastModel" 74 (clR 12) (clT 12 25).2.1 (clT 12 25).2.2.1 ∈ wsG := (wg 1123 (by decide +kernel) rfl)
theorem wfl_Mod_77 : Cond.fieldLink "GuideWalksLastModel" 77 (clR 12) (clT 12 26).2.1 (clT 12 26).2.2.1 ∈ wsG := (wg 1124 (by decide +kernel) rfl)
theorem wfl_Mod_81 : Cond.fieldLink "GuideWalksLastModel" 81 (clR 12) (clT 12 27).2.1 (clT 12 27).2.2.1 ∈ wsG := (wg 1125 (by decide +kernel) rfl)
theorem wfl_Mod_84 : Cond.fieldLink "GuideWalksLastModel" 84 (clR 12) (clT 12 28).2.1 (clT 12 28).2.2.1 ∈ wsG := (wg 1126 (by decide +kernel) rfl)
theorem wfl_Mod_87 : Cond.fieldLink "GuideWalksLastModel" 87 (clR 12) (clT 12 29).2.1 (clT 12 29).2.2.1 ∈ wsG := (wg 1127 (by decide +kernel) rfl)
theorem wfl_Mod_90 : Cond.fieldLink "GuideWalksLastModel" 90 (clR 12) (clT 12 30).2.1 (clT 12 30).2.2.1 ∈ wsG := (wg 1128 (by decide +kernel) rfl)
theorem wfl_Mod_93 : Cond.fieldLink "GuideWalksLastModel" 93 (clR 12) (clT 12 31).2.1 (clT 12 31).2.2.1 ∈ wsG := (wg 1129 (by decide +kernel) rfl)
theorem wfl_Mod_96 : Cond.fieldLink "GuideWalksLastModel" 96 (clR 12) (clT 12 32).2.1 (clT 12 32).2.2.1 ∈ wsG := (wg 1130 (by decide +kernel) rfl)
theorem wfl_Mod_99 : Cond.fieldLink "GuideWalksLastModel" 99 (clR 12) (clT 12 33).2.1 (clT 12 33).2.2.1 ∈ wsG := (wg 1131 (by decide +kernel) rfl)
theorem wfl_Mod_102 : Cond.fieldLink "GuideWalksLastModel" 102 (clR 12) (clT 12 34).2.1 (clT 12 34).2.2.1 ∈ wsG := (wg 1132 (by decide +kernel) rfl)
theorem wfl_Mod_105 : Cond.fieldLink "GuideWalksLastModel" 105 (clR 12) (clT 12 35).2.1 (clT 12 35).2.2.1 ∈ wsG := (wg 1133 (by decide +kernel) rfl)
theorem wfl_Mod_108 : Cond.fieldLink "GuideWalksLastModel" 108 (clR 12) (clT 12 36).2.1 (clT 12 36).2.2.1 ∈ wsG := (wg 1134 (by decide +kernel) rfl)
theorem wfl_Mod_111 : Cond.fieldLink "GuideWalksLastModel" 111 (clR 12) (clT 12 39).2.1 (clT 12 39).2.2.1 ∈ wsG := (wg 1137 (by decide +kernel) rfl)
theorem wfl_Mod_114 : Cond.fieldLink "GuideWalksLastModel" 114 (clR 12) (clT 12 40).2.1 (clT 12 40).2.2.1 ∈ wsG := (wg 1138 (by decide +kernel) rfl)
theorem wfl_Mod_117 : Cond.fieldLink "GuideWalksLastModel" 117 (clR 12) (clT 12 44).2.1 (clT 12 44).2.2.1 ∈ wsG := (wg 1142 (by decide +kernel) rfl)
theorem wfl_Mod_120 : Cond.fieldLink "GuideWalksLastModel" 120 (clR 12) (clT 12 45).2.1 (clT 12 45).2.2.1 ∈ wsG := (wg 1143 (by decide +kernel) rfl)
theorem wfl_Mod_123 : Cond.fieldLink "GuideWalksLastModel" 123 (clR 12) (clT 12 46).2.1 (clT 12 46).2.2.1 ∈ wsG := (wg 1144 (by decide +kernel) rfl)
theorem wfl_Mod_126 : Cond.fieldLink "GuideWalksLastModel" 126 (clR 12) (clT 12 47).2.1 (clT 12 47).2.2.1 ∈ wsG := (wg 1145 (by decide +kernel) rfl)
theorem wfl_Mod_129 : Cond.fieldLink "GuideWalksLastModel" 129 (clR 12) (clT 12 48).2.1 (clT 12 48).2.2.1 ∈ wsG := (wg 1146 (by decide +kernel) rfl)
theorem wfl_Mod_132 : Cond.fieldLink "GuideWalksLastModel" 132 (clR 12) (clT 12 49).2.1 (clT 12 49).2.2.1 ∈ wsG := (wg 1147 (by decide +kernel) rfl)
theorem wfl_Mod_135 : Cond.fieldLink "GuideWalksLastModel" 135 (clR 12) (clT 12 51).2.1 (clT 12 51).2.2.1 ∈ wsG := (wg 1149 (by decide +kernel) rfl)
theorem wfl_Mod_138 : Cond.fieldLink "GuideWalksLastModel" 138 (clR 12) (clT 12 52).2.1 (clT 12 52).2.2.1 ∈ wsG := (wg 1150 (by decide +kernel) rfl)
theorem wfl_Mod_141 : Cond.fieldLink "GuideWalksLastModel" 141 (clR 12) (clT 12 53).2.1 (clT 12 53).2.2.1 ∈ wsG := (wg 1151 (by decide +kernel) rfl)
theorem mw_Signs_new : MW y_Signs_new b_Signs_new 1 none 0 := ⟨(wg 2 (by decide +kernel) rfl), (wg 39 (by decide +kernel) rfl), ⟨by decide, by decide, by decide +kernel⟩, by decide⟩
theorem cv_GWL_9 : MW y_Signs_new b_Signs_new 1 none 0 ∧ LK "GuideWalksLast" 9 y_Signs_new ∧ Cond.instanceMethod y_Signs_new ∈ wsG ∧ y_Signs_new.name = "<init>" := ⟨mw_Signs_new, Or.inr ⟨"GuideWalksLast", by decide +kernel⟩, (wg 38 (by decide +kernel) rfl), rfl⟩
theorem mw_Numbers_new : MW y_Numbers_new b_Numbers_new 1 none 0 := ⟨(wg 3 (by decide +kernel) rfl), (wg 53 (by decide +kernel) rfl), ⟨by decide, by decide, by decide +kernel⟩, by decide⟩
theorem cv_GWL_18 : MW y_Numbers_new b_Numbers_new 1 none 0 ∧ LK "GuideWalksLast" 18 y_Numbers_new ∧ Cond.instanceMethod y_Numbers_new ∈ wsG ∧ y_Numbers_new.name = "<init>" := ⟨mw_Numbers_new, Or.inr ⟨"GuideWalksLast", by decide +kernel⟩, (wg 52 (by decide +kernel) rfl), rfl⟩
theorem mw_Past_new : MW y_Past_new b_Past_new 2 none 0 := ⟨(wg 4 (by decide +kernel) rfl), (wg 68 (by decide +kernel) rfl), ⟨by decide, by decide, by decide +kernel⟩, by decide⟩
theorem cv_GWL_25 : MW y_Past_new b_Past_new 2 none 0 ∧ LK "GuideWalksLast" 25 y_Past_new ∧ Cond.instanceMethod y_Past_new ∈ wsG ∧ y_Past_new.name = "<init>" := ⟨mw_Past_new, Or.inl (wg 66 (by decide +kernel) rfl), (wg 67 (by decide +kernel) rfl), rfl⟩
theorem mw_Fee_new : MW y_Fee_new b_Fee_new 1 none 0 := ⟨(wg 7 (by decide +kernel) rfl), (wg 123 (by decide +kernel) rfl), ⟨by decide, by decide, by decide +kernel⟩, by decide⟩
theorem cv_GWL_36 : MW y_Fee_new b_Fee_new 1 none 0 ∧ LK "GuideWalksLast" 36 y_Fee_new ∧ Cond.instanceMethod y_Fee_new ∈ wsG ∧ y_Fee_new.name = "<init>" := ⟨mw_Fee_new, Or.inr ⟨"GuideWalksLast", by decide +kernel⟩, (wg 122 (by decide +kernel) rfl), rfl⟩
theorem mw_Spread_new : MW y_Spread_new b_Spread_new 1 none 0 := ⟨(wg 8 (by decide +kernel) rfl), (wg 155 (by decide +kernel) rfl), ⟨by decide, by decide, by decide +kernel⟩, by decide⟩
theorem cv_GWL_67 : MW y_Spread_new b_Spread_new 1 none 0 ∧ LK "GuideWalksLast" 67 y_Spread_new ∧ Cond.instanceMethod y_Spread_new ∈ wsG ∧ y_Spread_new.name = "<init>" := ⟨mw_Spread_new, Or.inr ⟨"GuideWalksLast", by decide +kernel⟩, (wg 154 (by decide +kernel) rfl), rfl⟩
theorem mw_Market_new : MW y_Market_new b_Market_new 1 none 0 := ⟨(wg 9 (by decide +kernel) rfl), (wg 172 (by decide +kernel) rfl), ⟨by decide, by decide, by decide +kernel⟩, by decide⟩
theorem cv_GWL_74 : MW y_Market_new b_Market_new 1 none 0 ∧ LK "GuideWalksLast" 74 y_Market_new ∧ Cond.instanceMethod y_Market_new ∈ wsG ∧ y_Market_new.name = "<init>" := ⟨mw_Market_new, Or.inr ⟨"GuideWalksLast", by decide +kernel⟩, (wg 171 (by decide +kernel) rfl), rfl⟩
theorem mw_Land_new : MW y_Land_new b_Land_new 2 none 0 := ⟨(wg 10 (by decide +kernel) rfl), (wg 191 (by decide +kernel) rfl), ⟨by decide, by decide, by decide +kernel⟩, by decide⟩
theorem cv_GWL_81 : MW y_Land_new b_Land_new 2 none 0 ∧ LK "GuideWalksLast" 81 y_Land_new ∧ Cond.instanceMethod y_Land_new ∈ wsG ∧ y_Land_new.name = "<init>" := ⟨mw_Land_new, Or.inl (wg 189 (by decide +kernel) rfl), (wg 190 (by decide +kernel) rfl), rfl⟩
theorem mw_Party_new : MW y_Party_new b_Party_new 1 none 0 := ⟨(wg 5 (by decide +kernel) rfl), (wg 75 (by decide +kernel) rfl), ⟨by decide, by decide, by decide +kernel⟩, by decide⟩
theorem cv_GWL_82 : MW y_Party_new b_Party_new 1 none 0 ∧ LK "GuideWalksLast" 82 y_Party_new ∧ Cond.instanceMethod y_Party_new ∈ wsG ∧ y_Party_new.name = "<init>" := ⟨mw_Party_new, Or.inl (wg 214 (by decide +kernel) rfl), (wg 74 (by decide +kernel) rfl), rfl⟩
theorem mw_Guide_new : MW y_Guide_new b_Guide_new 3 none 2 := ⟨(wg 11 (by decide +kernel) rfl), (wg 219 (by decide +kernel) rfl), ⟨by decide, by decide, by decide +kernel⟩, by decide⟩
theorem cv_GWL_96 : MW y_Guide_new b_Guide_new 3 none 2 ∧ LK "GuideWalksLast" 96 y_Guide_new ∧ Cond.instanceMethod y_Guide_new ∈ wsG ∧ y_Guide_new.name = "<init>" := ⟨mw_Guide_new, Or.inl (wg 217 (by decide +kernel) rfl), (wg 218 (by decide +kernel) rfl), rfl⟩
theorem mw_Trail_new : MW y_Trail_new b_Trail_new 3 none 2 := ⟨(wg 12 (by decide +kernel) rfl), (wg 267 (by decide +kernel) rfl), ⟨by decide, by decide, by decide +kernel⟩, by decide⟩
theorem cv_GWL_105 : MW y_Trail_new b_Trail_new 3 none 2 ∧ LK "GuideWalksLast" 105 y_Trail_new ∧ Cond.instanceMethod y_Trail_new ∈ wsG ∧ y_Trail_new.name = "<init>" := ⟨mw_Trail_new, Or.inl (wg 265 (by decide +kernel) rfl), (wg 266 (by decide +kernel) rfl), rfl⟩
theorem mw_Prints_new : MW y_Prints_new b_Prints_new 3 none 2 := ⟨(wg 13 (by decide +kernel) rfl), (wg 292 (by decide +kernel) rfl), ⟨by decide, by decide, by decide +kernel⟩, by decide⟩
theorem cv_GWL_114 : MW y_Prints_new b_Prints_new 3 none 2 ∧ LK "GuideWalksLast" 114 y_Prints_new ∧ Cond.instanceMethod y_Prints_new ∈ wsG ∧ y_Prints_new.name = "<init>" := ⟨mw_Prints_new, Or.inl (wg 290 (by decide +kernel) rfl), (wg 291 (by decide +kernel) rfl), rfl⟩
theorem mw_Signs_addFour : MW y_Signs_addFour b_Signs_addFour 3 (some .boolean) 1 := ⟨(wg 2 (by decide +kernel) rfl), (wg 385 (by decide +kernel) rfl), ⟨by decide, by decide, by decide +kernel⟩, by decide⟩
theorem cv_GWL_119 : MW y_Signs_addFour b_Signs_addFour 3 (some .boolean) 1 ∧ LK "GuideWalksLast" 119 y_Signs_addFour ∧ Cond.instanceMethod y_Signs_addFour ∈ wsG ∧ Cond.selects y_Signs_addFour.cls y_Signs_addFour y_Signs_addFour ∈ wsG := ⟨mw_Signs_addFour, Or.inl (wg 382 (by decide +kernel) rfl), (wg 383 (by decide +kernel) rfl), (wg 384 (by decide +kernel) rfl)⟩
theorem mw_Signs_length : MW y_Signs_length b_Signs_length 1 (some .int) 0 := ⟨(wg 2 (by decide +kernel) rfl), (wg 389 (by decide +kernel) rfl), ⟨by decide, by decide, by decide +kernel⟩, by decide⟩
theorem cv_GWL_123 : MW y_Signs_length b_Signs_length 1 (some .int) 0 ∧ LK "GuideWalksLast" 123 y_Signs_length ∧ Cond.instanceMethod y_Signs_length ∈ wsG ∧ Cond.selects y_Signs_length.cls y_Signs_length y_Signs_length ∈ wsG := ⟨mw_Signs_length, Or.inl (wg 386 (by decide +kernel) rfl), (wg 387 (by decide +kernel) rfl), (wg 388 (by decide +kernel) rfl)⟩
theorem mw_Signs_cut : MW y_Signs_cut b_Signs_cut 2 (some .boolean) 1 := ⟨(wg 2 (by decide +kernel) rfl), (wg 397 (by decide +kernel) rfl), ⟨by decide, by decide, by decide +kernel⟩, by decide⟩
theorem cv_GWL_127 : MW y_Signs_cut b_Signs_cut 2 (some .boolean) 1 ∧ LK "GuideWalksLast" 127 y_Signs_cut ∧ Cond.instanceMethod y_Signs_cut ∈ wsG ∧ Cond.selects y_Signs_cut.cls y_Signs_cut y_Signs_cut ∈ wsG := ⟨mw_Signs_cut, Or.inl (wg 394 (by decide +kernel) rfl), (wg 395 (by decide +kernel) rfl), (wg 396 (by decide +kernel) rfl)⟩
theorem mw_Land_faultOf : MW y_Land_faultOf b_Land_faultOf 7 (some .int) 1 := ⟨(wg 10 (by decide +kernel) rfl), (wg 405 (by decide +kernel) rfl), ⟨by decide, by decide, by decide +kernel⟩, by decide⟩
theorem cv_GWL_130 : MW y_Land_faultOf b_Land_faultOf 7 (some .int) 1 ∧ LK "GuideWalksLast" 130 y_Land_faultOf ∧ Cond.instanceMethod y_Land_faultOf ∈ wsG ∧ Cond.selects y_Land_faultOf.cls y_Land_faultOf y_Land_faultOf ∈ wsG := ⟨mw_Land_faultOf, Or.inl (wg 402 (by decide +kernel) rfl), (wg 403 (by decide +kernel) rfl), (wg 404 (by decide +kernel) rfl)⟩
theorem mw_Land_learn : MW y_Land_learn b_Land_learn 5 none 1 := ⟨(wg 10 (by decide +kernel) rfl), (wg 420 (by decide +kernel) rfl), ⟨by decide, by decide, by decide +kernel⟩, by decide⟩
theorem cv_GWL_134 : MW y_Land_learn b_Land_learn 5 none 1 ∧ LK "GuideWalksLast" 134 y_Land_learn ∧ Cond.instanceMethod y_Land_learn ∈ wsG ∧ Cond.selects y_Land_learn.cls y_Land_learn y_Land_learn ∈ wsG := ⟨mw_Land_learn, Or.inl (wg 417 (by decide +kernel) rfl), (wg 418 (by decide +kernel) rfl), (wg 419 (by decide +kernel) rfl)⟩
theorem mw_Party_begin : MW y_Party_begin b_Party_begin 3 none 2 := ⟨(wg 5 (by decide +kernel) rfl), (wg 436 (by decide +kernel) rfl), ⟨by decide, by decide, by decide +kernel⟩, by decide⟩
theorem cv_GWL_138 : MW y_Party_begin b_Party_begin 3 none 2 ∧ LK "GuideWalksLast" 138 y_Party_begin ∧ Cond.instanceMethod y_Party_begin ∈ wsG ∧ Cond.selects y_Party_begin.cls y_Party_begin y_Party_begin ∈ wsG := ⟨mw_Party_begin, Or.inl (wg 433 (by decide +kernel) rfl), (wg 434 (by decide +kernel) rfl), (wg 435 (by decide +kernel) rfl)⟩
theorem mw_Party_washTracks : MW y_Party_washTracks b_Party_washTracks 3 (some .int) 0 := ⟨(wg 5 (by decide +kernel) rfl), (wg 440 (by decide +kernel) rfl), ⟨by decide, by decide, by decide +kernel⟩, by decide⟩
theorem cv_GWL_142 : MW y_Party_washTracks b_Party_washTracks 3 (some .int) 0 ∧ LK "GuideWalksLast" 142 y_Party_washTracks ∧ Cond.instanceMethod y_Party_washTracks ∈ wsG ∧ Cond.selects y_Party_washTracks.cls y_Party_washTracks y_Party_washTracks ∈ wsG := ⟨mw_Party_washTracks, Or.inl (wg 437 (by decide +kernel) rfl), (wg 438 (by decide +kernel) rfl), (wg 439 (by decide +kernel) rfl)⟩
theorem mw_Prints_forget : MW y_Prints_forget b_Prints_forget 2 (some .int) 0 := ⟨(wg 13 (by decide +kernel) rfl), (wg 444 (by decide +kernel) rfl), ⟨by decide, by decide, by decide +kernel⟩, by decide⟩
theorem cv_GWL_145 : MW y_Prints_forget b_Prints_forget 2 (some .int) 0 ∧ LK "GuideWalksLast" 145 y_Prints_forget ∧ Cond.instanceMethod y_Prints_forget ∈ wsG ∧ Cond.selects y_Prints_forget.cls y_Prints_forget y_Prints_forget ∈ wsG := ⟨mw_Prints_forget, Or.inl (wg 441 (by decide +kernel) rfl), (wg 442 (by decide +kernel) rfl), (wg 443 (by decide +kernel) rfl)⟩
theorem mw_Past_forget : MW y_Past_forget b_Past_forget 1 none 0 := ⟨(wg 4 (by decide +kernel) rfl), (wg 448 (by decide +kernel) rfl), ⟨by decide, by decide, by decide +kernel⟩, by decide⟩
theorem cv_GWL_148 : MW y_Past_forget b_Past_forget 1 none 0 ∧ LK "GuideWalksLast" 148 y_Past_forget ∧ Cond.instanceMethod y_Past_forget ∈ wsG ∧ Cond.selects y_Past_forget.cls y_Past_forget y_Past_forget ∈ wsG := ⟨mw_Past_forget, Or.inl (wg 445 (by decide +kernel) rfl), (wg 446 (by decide +kernel) rfl), (wg 447 (by decide +kernel) rfl)⟩
theorem mw_JArr_fill : MW y_JArr_fill b_JArr_fill 4 none 2 := ⟨(wg 6 (by decide +kernel) rfl), (wg 79 (by decide +kernel) rfl), ⟨by decide, by decide, by decide +kernel⟩, by decide⟩
theorem cv_GWL_150 : MW y_JArr_fill b_JArr_fill 4 none 2 ∧ LK "GuideWalksLast" 150 y_JArr_fill ∧ Cond.static y_JArr_fill ∈ wsG := ⟨mw_JArr_fill, Or.inl (wg 449 (by decide +kernel) rfl), (wg 78 (by decide +kernel) rfl)⟩
theorem mw_Signs_empty : MW y_Signs_empty b_Signs_empty 1 none 0 := ⟨(wg 2 (by decide +kernel) rfl), (wg 453 (by decide +kernel) rfl), ⟨by decide, by decide, by decide +kernel⟩, by decide⟩
theorem cv_GWL_156 : MW y_Signs_empty b_Signs_empty 1 none 0 ∧ LK "GuideWalksLast" 156 y_Signs_empty ∧ Cond.instanceMethod y_Signs_empty ∈ wsG ∧ Cond.selects y_Signs_empty.cls y_Signs_empty y_Signs_empty ∈ wsG := ⟨mw_Signs_empty, Or.inl (wg 450 (by decide +kernel) rfl), (wg 451 (by decide +kernel) rfl), (wg 452 (by decide +kernel) rfl)⟩
theorem mw_Land_size : MW y_Land_size b_Land_size 1 (some .int) 0 := ⟨(wg 10 (by decide +kernel) rfl), (wg 457 (by decide +kernel) rfl), ⟨by decide, by decide, by decide +kernel⟩, by decide⟩
theorem cv_GWL_159 : MW y_Land_size b_Land_size 1 (some .int) 0 ∧ LK "GuideWalksLast" 159 y_Land_size ∧ Cond.instanceMethod y_Land_size ∈ wsG ∧ Cond.selects y_Land_size.cls y_Land_size y_Land_size ∈ wsG := ⟨mw_Land_size, Or.inl (wg 454 (by decide +kernel) rfl), (wg 455 (by decide +kernel) rfl), (wg 456 (by decide +kernel) rfl)⟩
theorem mw_Fee_learn : MW y_Fee_learn b_Fee_learn 8 (some .int) 1 := ⟨(wg 7 (by decide +kernel) rfl), (wg 465 (by decide +kernel) rfl), ⟨by decide, by decide, by decide +kernel⟩, by decide⟩
theorem cv_GWL_162 : MW y_Fee_learn b_Fee_learn 8 (some .int) 1 ∧ LK "GuideWalksLast" 162 y_Fee_learn ∧ Cond.instanceMethod y_Fee_learn ∈ wsG ∧ Cond.selects y_Fee_learn.cls y_Fee_learn y_Fee_learn ∈ wsG := ⟨mw_Fee_learn, Or.inl (wg 462 (by decide +kernel) rfl), (wg 463 (by decide +kernel) rfl), (wg 464 (by decide +kernel) rfl)⟩
theorem mw_Fee_takeFrom : MW y_Fee_takeFrom b_Fee_takeFrom 2 none 1 := ⟨(wg 7 (by decide +kernel) rfl), (wg 482 (by decide +kernel) rfl), ⟨by decide, by decide, by decide +kernel⟩, by decide⟩
theorem cv_GWL_164 : MW y_Fee_takeFrom b_Fee_takeFrom 2 none 1 ∧ LK "GuideWalksLast" 164 y_Fee_takeFrom ∧ Cond.instanceMethod y_Fee_takeFrom ∈ wsG ∧ Cond.selects y_Fee_takeFrom.cls y_Fee_takeFrom y_Fee_takeFrom ∈ wsG := ⟨mw_Fee_takeFrom, Or.inl (wg 479 (by decide +kernel) rfl), (wg 480 (by decide +kernel) rfl), (wg 481 (by decide +kernel) rfl)⟩
theorem mw_Land_kindOf : MW y_Land_kindOf b_Land_kindOf 2 (some .int) 1 := ⟨(wg 10 (by decide +kernel) rfl), (wg 432 (by decide +kernel) rfl), ⟨by decide, by decide, by decide +kernel⟩, by decide⟩
theorem cv_GWL_168 : MW y_Land_kindOf b_Land_kindOf 2 (some .int) 1 ∧ LK "GuideWalksLast" 168 y_Land_kindOf ∧ Cond.instanceMethod y_Land_kindOf ∈ wsG ∧ Cond.selects y_Land_kindOf.cls y_Land_kindOf y_Land_kindOf ∈ wsG := ⟨mw_Land_kindOf, Or.inl (wg 487 (by decide +kernel) rfl), (wg 430 (by decide +kernel) rfl), (wg 431 (by decide +kernel) rfl)⟩
theorem mw_Land_has : MW y_Land_has b_Land_has 2 (some .boolean) 1 := ⟨(wg 10 (by decide +kernel) rfl), (wg 495 (by decide +kernel) rfl), ⟨by decide, by decide, by decide +kernel⟩, by decide⟩
theorem cv_GWL_172 : MW y_Land_has b_Land_has 2 (some .boolean) 1 ∧ LK "GuideWalksLast" 172 y_Land_has ∧ Cond.instanceMethod y_Land_has ∈ wsG ∧ Cond.selects y_Land_has.cls y_Land_has y_Land_has ∈ wsG := ⟨mw_Land_has, Or.inl (wg 492 (by decide +kernel) rfl), (wg 493 (by decide +kernel) rfl), (wg 494 (by decide +kernel) rfl)⟩
theorem mw_Land_become : MW y_Land_become b_Land_become 3 none 2 := ⟨(wg 10 (by decide +kernel) rfl), (wg 499 (by decide +kernel) rfl), ⟨by decide, by decide, by decide +kernel⟩, by decide⟩
theorem cv_GWL_178 : MW y_Land_become b_Land_become 3 none 2 ∧ LK "GuideWalksLast" 178 y_Land_become ∧ Cond.instanceMethod y_Land_become ∈ wsG ∧ Cond.selects y_Land_become.cls y_Land_become y_Land_become ∈ wsG := ⟨mw_Land_become, Or.inl (wg 496 (by decide +kernel) rfl), (wg 497 (by decide +kernel) rfl), (wg 498 (by decide +kernel) rfl)⟩
theorem mw_Land_spreadOut : MW y_Land_spreadOut b_Land_spreadOut 8 (some .int) 4 := ⟨(wg 10 (by decide +kernel) rfl), (wg 519 (by decide +kernel) rfl), ⟨by decide, by decide, by decide +kernel⟩, by decide⟩
theorem cv_GWL_184 : MW y_Land_spreadOut b_Land_spreadOut 8 (some .int) 4 ∧ LK "GuideWalksLast" 184 y_Land_spreadOut ∧ Cond.instanceMethod y_Land_spreadOut ∈ wsG ∧ Cond.selects y_Land_spreadOut.cls y_Land_spreadOut y_Land_spreadOut ∈ wsG := ⟨mw_Land_spreadOut, Or.inl (wg 516 (by decide +kernel) rfl), (wg 517 (by decide +kernel) rfl), (wg 518 (by decide +kernel) rfl)⟩
theorem mw_GWL_isTurn : MW y_GWL_isTurn b_GWL_isTurn 1 (some .boolean) 1 := ⟨(wg 1 (by decide +kernel) rfl), (wg 526 (by decide +kernel) rfl), ⟨by decide, by decide, by decide +kernel⟩, by decide⟩
theorem cv_GWL_188 : MW y_GWL_isTurn b_GWL_isTurn 1 (some .boolean) 1 ∧ LK "GuideWalksLast" 188 y_GWL_isTurn ∧ Cond.static y_GWL_isTurn ∈ wsG := ⟨mw_GWL_isTurn, Or.inl (wg 524 (by decide +kernel) rfl), (wg 525 (by decide +kernel) rfl)⟩
theorem mw_GWL_isOver : MW y_GWL_isOver b_GWL_isOver 1 (some .boolean) 0 := ⟨(wg 1 (by decide +kernel) rfl), (wg 530 (by decide +kernel) rfl), ⟨by decide, by decide, by decide +kernel⟩, by decide⟩
theorem cv_GWL_191 : MW y_GWL_isOver b_GWL_isOver 1 (some .boolean) 0 ∧ LK "GuideWalksLast" 191 y_GWL_isOver ∧ Cond.instanceMethod y_GWL_isOver ∈ wsG ∧ Cond.selects y_GWL_isOver.cls y_GWL_isOver y_GWL_isOver ∈ wsG := ⟨mw_GWL_isOver, Or.inl (wg 527 (by decide +kernel) rfl), (wg 529 (by decide +kernel) rfl), (wp (q := (y_GWL_isOver, 19)) (by decide +kernel) rfl)⟩
theorem mw_Past_remember : MW y_Past_remember b_Past_remember 2 none 1 := ⟨(wg 4 (by decide +kernel) rfl), (wg 538 (by decide +kernel) rfl), ⟨by decide, by decide, by decide +kernel⟩, by decide⟩
theorem cv_GWL_195 : MW y_Past_remember b_Past_remember 2 none 1 ∧ LK "GuideWalksLast" 195 y_Past_remember ∧ Cond.instanceMethod y_Past_remember ∈ wsG ∧ Cond.selects y_Past_remember.cls y_Past_remember y_Past_remember ∈ wsG := ⟨mw_Past_remember, Or.inl (wg 535 (by decide +kernel) rfl), (wg 536 (by decide +kernel) rfl), (wg 537 (by decide +kernel) rfl)⟩
theorem mw_Party_tread : MW y_Party_tread b_Party_tread 5 none 2 := ⟨(wg 5 (by decide +kernel) rfl), (wg 549 (by decide +kernel) rfl), ⟨by decide, by decide, by decide +kernel⟩, by decide⟩
theorem cv_GWL_199 : MW y_Party_tread b_Party_tread 5 none 2 ∧ LK "GuideWalksLast" 199 y_Party_tread ∧ Cond.instanceMethod y_Party_tread ∈ wsG ∧ Cond.selects y_Party_tread.cls y_Party_tread y_Party_tread ∈ wsG := ⟨mw_Party_tread, Or.inl (wg 546 (by decide +kernel) rfl), (wg 547 (by decide +kernel) rfl), (wg 548 (by decide +kernel) rfl)⟩
theorem mw_Party_turnByWeights : MW y_Party_turnByWeights b_Party_turnByWeights 4 (some .int) 1 := ⟨(wg 5 (by decide +kernel) rfl), (wg 568 (by decide +kernel) rfl), ⟨by decide, by decide, by decide +kernel⟩, by decide⟩
theorem cv_GWL_203 : MW y_Party_turnByWeights b_Party_turnByWeights 4 (some .int) 1 ∧ LK "GuideWalksLast" 203 y_Party_turnByWeights ∧ Cond.instanceMethod y_Party_turnByWeights ∈ wsG ∧ Cond.selects y_Party_turnByWeights.cls y_Party_turnByWeights y_Party_turnByWeights ∈ wsG := ⟨mw_Party_turnByWeights, Or.inl (wg 565 (by decide +kernel) rfl), (wg 566 (by decide +kernel) rfl), (wg 567 (by decide +kernel) rfl)⟩
theorem mw_Numbers_begin : MW y_Numbers_begin b_Numbers_begin 1 none 0 := ⟨(wg 3 (by decide +kernel) rfl), (wg 580 (by decide +kernel) rfl), ⟨by decide, by decide, by decide +kernel⟩, by decide⟩
theorem cv_GWL_207 : MW y_Numbers_begin b_Numbers_begin 1 none 0 ∧ LK "GuideWalksLast" 207 y_Numbers_begin ∧ Cond.instanceMethod y_Numbers_begin ∈ wsG ∧ Cond.selects y_Numbers_begin.cls y_Numbers_begin y_Numbers_begin ∈ wsG := ⟨mw_Numbers_begin, Or.inl (wg 577 (by decide +kernel) rfl), (wg 578 (by decide +kernel) rfl), (wg 579 (by decide +kernel) rfl)⟩
theorem mw_Numbers_add : MW y_Numbers_add b_Numbers_add 3 none 1 := ⟨(wg 3 (by decide +kernel) rfl), (wg 584 (by decide +kernel) rfl), ⟨by decide, by decide, by decide +kernel⟩, by decide⟩
theorem cv_GWL_209 : MW y_Numbers_add b_Numbers_add 3 none 1 ∧ LK "GuideWalksLast" 209 y_Numbers_add ∧ Cond.instanceMethod y_Numbers_add ∈ wsG ∧ Cond.selects y_Numbers_add.cls y_Numbers_add y_Numbers_add ∈ wsG := ⟨mw_Numbers_add, Or.inl (wg 581 (by decide +kernel) rfl), (wg 582 (by decide +kernel) rfl), (wg 583 (by decide +kernel) rfl)⟩
theorem mw_Party_drawTenths : MW y_Party_drawTenths b_Party_drawTenths 1 (some .int) 0 := ⟨(wg 5 (by decide +kernel) rfl), (wg 572 (by decide +kernel) rfl), ⟨by decide, by decide, by decide +kernel⟩, by decide⟩
theorem cv_GWL_216 : MW y_Party_drawTenths b_Party_drawTenths 1 (some .int) 0 ∧ LK "GuideWalksLast" 216 y_Party_drawTenths ∧ Cond.instanceMethod y_Party_drawTenths ∈ wsG ∧ Cond.selects y_Party_drawTenths.cls y_Party_drawTenths y_Party_drawTenths ∈ wsG := ⟨mw_Party_drawTenths, Or.inl (wg 589 (by decide +kernel) rfl), (wg 570 (by decide +kernel) rfl), (wg 571 (by decide +kernel) rfl)⟩
theorem mw_Past_recall : MW y_Past_recall b_Past_recall 2 (some .boolean) 1 := ⟨(wg 4 (by decide +kernel) rfl), (wg 597 (by decide +kernel) rfl), ⟨by decide, by decide, by decide +kernel⟩, by decide⟩
theorem cv_GWL_219 : MW y_Past_recall b_Past_recall 2 (some .boolean) 1 ∧ LK "GuideWalksLast" 219 y_Past_recall ∧ Cond.instanceMethod y_Past_recall ∈ wsG ∧ Cond.selects y_Past_recall.cls y_Past_recall y_Past_recall ∈ wsG := ⟨mw_Past_recall, Or.inl (wg 594 (by decide +kernel) rfl), (wg 595 (by decide +kernel) rfl), (wg 596 (by decide +kernel) rfl)⟩
theorem mw_GWL_walkFault : MW y_GWL_walkFault b_GWL_walkFault 2 (some .int) 0 := ⟨(wg 1 (by decide +kernel) rfl), (wg 605 (by decide +kernel) rfl), ⟨by decide, by decide, by decide +kernel⟩, by decide⟩
theorem cv_GWL_225 : MW y_GWL_walkFault b_GWL_walkFault 2 (some .int) 0 ∧ LK "GuideWalksLast" 225 y_GWL_walkFault ∧ Cond.instanceMethod y_GWL_walkFault ∈ wsG ∧ Cond.selects y_GWL_walkFault.cls y_GWL_walkFault y_GWL_walkFault ∈ wsG := ⟨mw_GWL_walkFault, Or.inl (wg 602 (by decide +kernel) rfl), (wg 604 (by decide +kernel) rfl), (wp (q := (y_GWL_walkFault, 19)) (by decide +kernel) rfl)⟩
theorem mw_Party_stance : MW y_Party_stance b_Party_stance 1 (some .int) 0 := ⟨(wg 5 (by decide +kernel) rfl), (wg 553 (by decide +kernel) rfl), ⟨by decide, by decide, by decide +kernel⟩, by decide⟩
theorem cv_GWL_228 : MW y_Party_stance b_Party_stance 1 (some .int) 0 ∧ LK "GuideWalksLast" 228 y_Party_stance ∧ Cond.instanceMethod y_Party_stance ∈ wsG ∧ Cond.selects y_Party_stance.cls y_Party_stance y_Party_stance ∈ wsG := ⟨mw_Party_stance, Or.inl (wg 610 (by decide +kernel) rfl), (wg 551 (by decide +kernel) rfl), (wg 552 (by decide +kernel) rfl)⟩
theorem mw_GWL_cellOf : MW y_GWL_cellOf b_GWL_cellOf 1 (some .int) 1 := ⟨(wg 1 (by decide +kernel) rfl), (wg 560 (by decide +kernel) rfl), ⟨by decide, by decide, by decide +kernel⟩, by decide⟩
theorem cv_GWL_231 : MW y_GWL_cellOf b_GWL_cellOf 1 (some .int) 1 ∧ LK "GuideWalksLast" 231 y_GWL_cellOf ∧ Cond.static y_GWL_cellOf ∈ wsG := ⟨mw_GWL_cellOf, Or.inl (wg 611 (by decide +kernel) rfl), (wg 559 (by decide +kernel) rfl)⟩
theorem mw_Land_endsAt : MW y_Land_endsAt b_Land_endsAt 3 (some .boolean) 1 := ⟨(wg 10 (by decide +kernel) rfl), (wg 534 (by decide +kernel) rfl), ⟨by decide, by decide, by decide +kernel⟩, by decide⟩
theorem cv_GWL_234 : MW y_Land_endsAt b_Land_endsAt 3 (some .boolean) 1 ∧ LK "GuideWalksLast" 234 y_Land_endsAt ∧ Cond.instanceMethod y_Land_endsAt ∈ wsG ∧ Cond.selects y_Land_endsAt.cls y_Land_endsAt y_Land_endsAt ∈ wsG := ⟨mw_Land_endsAt, Or.inl (wg 531 (by decide +kernel) rfl), (wg 532 (by decide +kernel) rfl), (wg 533 (by decide +kernel) rfl)⟩
theorem mw_Signs_at : MW y_Signs_at b_Signs_at 2 (some .int) 1 := ⟨(wg 2 (by decide +kernel) rfl), (wg 410 (by decide +kernel) rfl), ⟨by decide, by decide, by decide +kernel⟩, by decide⟩
theorem cv_GWL_237 : MW y_Signs_at b_Signs_at 2 (some .int) 1 ∧ LK "GuideWalksLast" 237 y_Signs_at ∧ Cond.instanceMethod y_Signs_at ∈ wsG ∧ Cond.selects y_Signs_at.cls y_Signs_at y_Signs_at ∈ wsG := ⟨mw_Signs_at, Or.inl (wg 606 (by decide +kernel) rfl), (wg 408 (by decide +kernel) rfl), (wg 409 (by decide +kernel) rfl)⟩
theorem mw_GWL_turnOf : MW y_GWL_turnOf b_GWL_turnOf 1 (some .int) 1 := ⟨(wg 1 (by decide +kernel) rfl), (wg 609 (by decide +kernel) rfl), ⟨by decide, by decide, by decide +kernel⟩, by decide⟩
theorem cv_GWL_240 : MW y_GWL_turnOf b_GWL_turnOf 1 (some .int) 1 ∧ LK "GuideWalksLast" 240 y_GWL_turnOf ∧ Cond.static y_GWL_turnOf ∈ wsG := ⟨mw_GWL_turnOf, Or.inl (wg 607 (by decide +kernel) rfl), (wg 608 (by decide +kernel) rfl)⟩
theorem mw_Land_after : MW y_Land_after b_Land_after 4 (some .int) 2 := ⟨(wg 10 (by decide +kernel) rfl), (wg 557 (by decide +kernel) rfl), ⟨by decide, by decide, by decide +kernel⟩, by decide⟩
theorem cv_GWL_243 : MW y_Land_after b_Land_after 4 (some .int) 2 ∧ LK "GuideWalksLast" 243 y_Land_after ∧ Cond.instanceMethod y_Land_after ∈ wsG ∧ Cond.selects y_Land_after.cls y_Land_after y_Land_after ∈ wsG := ⟨mw_Land_after, Or.inl (wg 612 (by decide +kernel) rfl), (wg 555 (by decide +kernel) rfl), (wg 556 (by decide +kernel) rfl)⟩
theorem mw_GWL_fate : MW y_GWL_fate b_GWL_fate 3 (some .int) 1 := ⟨(wg 1 (by decide +kernel) rfl), (wg 616 (by decide +kernel) rfl), ⟨by decide, by decide, by decide +kernel⟩, by decide⟩
theorem cv_GWL_247 : MW y_GWL_fate b_GWL_fate 3 (some .int) 1 ∧ LK "GuideWalksLast" 247 y_GWL_fate ∧ Cond.instanceMethod y_GWL_fate ∈ wsG ∧ Cond.selects y_GWL_fate.cls y_GWL_fate y_GWL_fate ∈ wsG := ⟨mw_GWL_fate, Or.inl (wg 613 (by decide +kernel) rfl), (wg 615 (by decide +kernel) rfl), (wp (q := (y_GWL_fate, 19)) (by decide +kernel) rfl)⟩
theorem mw_Land_measure : MW y_Land_measure b_Land_measure 3 none 0 := ⟨(wg 10 (by decide +kernel) rfl), (wg 624 (by decide +kernel) rfl), ⟨by decide, by decide, by decide +kernel⟩, by decide⟩
theorem cv_GWL_250 : MW y_Land_measure b_Land_measure 3 none 0 ∧ LK "GuideWalksLast" 250 y_Land_measure ∧ Cond.instanceMethod y_Land_measure ∈ wsG ∧ Cond.selects y_Land_measure.cls y_Land_measure y_Land_measure ∈ wsG := ⟨mw_Land_measure, Or.inl (wg 621 (by decide +kernel) rfl), (wg 622 (by decide +kernel) rfl), (wg 623 (by decide +kernel) rfl)⟩
theorem mw_Land_stepsHome : MW y_Land_stepsHome b_Land_stepsHome 2 (some .int) 1 := ⟨(wg 10 (by decide +kernel) rfl), (wg 639 (by decide +kernel) rfl), ⟨by decide, by decide, by decide +kernel⟩, by decide⟩
theorem cv_GWL_253 : MW y_Land_stepsHome b_Land_stepsHome 2 (some .int) 1 ∧ LK "GuideWalksLast" 253 y_Land_stepsHome ∧ Cond.instanceMethod y_Land_stepsHome ∈ wsG ∧ Cond.selects y_Land_stepsHome.cls y_Land_stepsHome y_Land_stepsHome ∈ wsG := ⟨mw_Land_stepsHome, Or.inl (wg 640 (by decide +kernel) rfl), (wg 637 (by decide +kernel) rfl), (wg 638 (by decide +kernel) rfl)⟩
theorem mw_Land_turnTowards : MW y_Land_turnTowards b_Land_turnTowards 4 (some .int) 2 := ⟨(wg 10 (by decide +kernel) rfl), (wg 634 (by decide +kernel) rfl), ⟨by decide, by decide, by decide +kernel⟩, by decide⟩
theorem cv_GWL_256 : MW y_Land_turnTowards b_Land_turnTowards 4 (some .int) 2 ∧ LK "GuideWalksLast" 256 y_Land_turnTowards ∧ Cond.instanceMethod y_Land_turnTowards ∈ wsG ∧ Cond.selects y_Land_turnTowards.cls y_Land_turnTowards y_Land_turnTowards ∈ wsG := ⟨mw_Land_turnTowards, Or.inl (wg 641 (by decide +kernel) rfl), (wg 632 (by decide +kernel) rfl), (wg 633 (by decide +kernel) rfl)⟩
theorem mw_Spread_from : MW y_Spread_from b_Spread_from 9 none 4 := ⟨(wg 8 (by decide +kernel) rfl), (wg 649 (by decide +kernel) rfl), ⟨by decide, by decide, by decide +kernel⟩, by decide⟩
theorem cv_GWL_259 : MW y_Spread_from b_Spread_from 9 none 4 ∧ LK "GuideWalksLast" 259 y_Spread_from ∧ Cond.instanceMethod y_Spread_from ∈ wsG ∧ Cond.selects y_Spread_from.cls y_Spread_from y_Spread_from ∈ wsG := ⟨mw_Spread_from, Or.inl (wg 646 (by decide +kernel) rfl), (wg 647 (by decide +kernel) rfl), (wg 648 (by decide +kernel) rfl)⟩
theorem mw_Spread_cells : MW y_Spread_cells b_Spread_cells 4 (some .long) 0 := ⟨(wg 8 (by decide +kernel) rfl), (wg 665 (by decide +kernel) rfl), ⟨by decide, by decide, by decide +kernel⟩, by decide⟩
theorem cv_GWL_263 : MW y_Spread_cells b_Spread_cells 4 (some .long) 0 ∧ LK "GuideWalksLast" 263 y_Spread_cells ∧ Cond.instanceMethod y_Spread_cells ∈ wsG ∧ Cond.selects y_Spread_cells.cls y_Spread_cells y_Spread_cells ∈ wsG := ⟨mw_Spread_cells, Or.inl (wg 662 (by decide +kernel) rfl), (wg 663 (by decide +kernel) rfl), (wg 664 (by decide +kernel) rfl)⟩
theorem mw_GWL_tellCells : MW y_GWL_tellCells b_GWL_tellCells 5 (some .int) 1 := ⟨(wg 1 (by decide +kernel) rfl), (wg 669 (by decide +kernel) rfl), ⟨by decide, by decide, by decide +kernel⟩, by decide⟩
theorem cv_GWL_267 : MW y_GWL_tellCells b_GWL_tellCells 5 (some .int) 1 ∧ LK "GuideWalksLast" 267 y_GWL_tellCells ∧ Cond.instanceMethod y_GWL_tellCells ∈ wsG ∧ Cond.selects y_GWL_tellCells.cls y_GWL_tellCells y_GWL_tellCells ∈ wsG := ⟨mw_GWL_tellCells, Or.inl (wg 666 (by decide +kernel) rfl), (wg 668 (by decide +kernel) rfl), (wp (q := (y_GWL_tellCells, 19)) (by decide +kernel) rfl)⟩
theorem mw_GWL_isLength : MW y_GWL_isLength b_GWL_isLength 2 (some .boolean) 2 := ⟨(wg 1 (by decide +kernel) rfl), (wg 683 (by decide +kernel) rfl), ⟨by decide, by decide, by decide +kernel⟩, by decide⟩
theorem cv_GWL_271 : MW y_GWL_isLength b_GWL_isLength 2 (some .boolean) 2 ∧ LK "GuideWalksLast" 271 y_GWL_isLength ∧ Cond.static y_GWL_isLength ∈ wsG := ⟨mw_GWL_isLength, Or.inl (wg 681 (by decide +kernel) rfl), (wg 682 (by decide +kernel) rfl)⟩
theorem mw_Fee_want : MW y_Fee_want b_Fee_want 5 none 4 := ⟨(wg 7 (by decide +kernel) rfl), (wg 469 (by decide +kernel) rfl), ⟨by decide, by decide, by decide +kernel⟩, by decide⟩
theorem cv_GWL_275 : MW y_Fee_want b_Fee_want 5 none 4 ∧ LK "GuideWalksLast" 275 y_Fee_want ∧ Cond.instanceMethod y_Fee_want ∈ wsG ∧ Cond.selects y_Fee_want.cls y_Fee_want y_Fee_want ∈ wsG := ⟨mw_Fee_want, Or.inl (wg 684 (by decide +kernel) rfl), (wg 467 (by decide +kernel) rfl), (wg 468 (by decide +kernel) rfl)⟩
theorem mw_Guide_lead : MW y_Guide_lead b_Guide_lead 12 none 5 := ⟨(wg 11 (by decide +kernel) rfl), (wg 688 (by decide +kernel) rfl), ⟨by decide, by decide, by decide +kernel⟩, by decide⟩
theorem cv_GWL_279 : MW y_Guide_lead b_Guide_lead 12 none 5 ∧ LK "GuideWalksLast" 279 y_Guide_lead ∧ Cond.instanceMethod y_Guide_lead ∈ wsG ∧ Cond.selects y_Guide_lead.cls y_Guide_lead y_Guide_lead ∈ wsG := ⟨mw_Guide_lead, Or.inl (wg 685 (by decide +kernel) rfl), (wg 686 (by decide +kernel) rfl), (wg 687 (by decide +kernel) rfl)⟩
theorem mw_Guide_luckOf : MW y_Guide_luckOf b_Guide_luckOf 2 (some .long) 1 := ⟨(wg 11 (by decide +kernel) rfl), (wg 738 (by decide +kernel) rfl), ⟨by decide, by decide, by decide +kernel⟩, by decide⟩
theorem cv_GWL_283 : MW y_Guide_luckOf b_Guide_luckOf 2 (some .long) 1 ∧ LK "GuideWalksLast" 283 y_Guide_luckOf ∧ Cond.instanceMethod y_Guide_luckOf ∈ wsG ∧ Cond.selects y_Guide_luckOf.cls y_Guide_luckOf y_Guide_luckOf ∈ wsG := ⟨mw_Guide_luckOf, Or.inl (wg 735 (by decide +kernel) rfl), (wg 736 (by decide +kernel) rfl), (wg 737 (by decide +kernel) rfl)⟩
theorem mw_GWL_hundreds : MW y_GWL_hundreds b_GWL_hundreds 1 (some .long) 1 := ⟨(wg 1 (by decide +kernel) rfl), (wg 712 (by decide +kernel) rfl), ⟨by decide, by decide, by decide +kernel⟩, by decide⟩
theorem cv_GWL_287 : MW y_GWL_hundreds b_GWL_hundreds 1 (some .long) 1 ∧ LK "GuideWalksLast" 287 y_GWL_hundreds ∧ Cond.static y_GWL_hundreds ∈ wsG := ⟨mw_GWL_hundreds, Or.inl (wg 739 (by decide +kernel) rfl), (wg 711 (by decide +kernel) rfl)⟩
theorem mw_Numbers_addFraction : MW y_Numbers_addFraction b_Numbers_addFraction 7 none 2 := ⟨(wg 3 (by decide +kernel) rfl), (wg 743 (by decide +kernel) rfl), ⟨by decide, by decide, by decide +kernel⟩, by decide⟩
theorem cv_GWL_290 : MW y_Numbers_addFraction b_Numbers_addFraction 7 none 2 ∧ LK "GuideWalksLast" 290 y_Numbers_addFraction ∧ Cond.instanceMethod y_Numbers_addFraction ∈ wsG ∧ Cond.selects y_Numbers_addFraction.cls y_Numbers_addFraction y_Numbers_addFraction ∈ wsG := ⟨mw_Numbers_addFraction, Or.inl (wg 740 (by decide +kernel) rfl), (wg 741 (by decide +kernel) rfl), (wg 742 (by decide +kernel) rfl)⟩
theorem mw_Guide_payOf : MW y_Guide_payOf b_Guide_payOf 2 (some .long) 1 := ⟨(wg 11 (by decide +kernel) rfl), (wg 751 (by decide +kernel) rfl), ⟨by decide, by decide, by decide +kernel⟩, by decide⟩
theorem cv_GWL_294 : MW y_Guide_payOf b_Guide_payOf 2 (some .long) 1 ∧ LK "GuideWalksLast" 294 y_Guide_payOf ∧ Cond.instanceMethod y_Guide_payOf ∈ wsG ∧ Cond.selects y_Guide_payOf.cls y_Guide_payOf y_Guide_payOf ∈ wsG := ⟨mw_Guide_payOf, Or.inl (wg 748 (by decide +kernel) rfl), (wg 749 (by decide +kernel) rfl), (wg 750 (by decide +kernel) rfl)⟩
theorem mw_GWL_bestChance : MW y_GWL_bestChance b_GWL_bestChance 3 (some .long) 2 := ⟨(wg 1 (by decide +kernel) rfl), (wg 759 (by decide +kernel) rfl), ⟨by decide, by decide, by decide +kernel⟩, by decide⟩
theorem cv_GWL_297 : MW y_GWL_bestChance b_GWL_bestChance 3 (some .long) 2 ∧ LK "GuideWalksLast" 297 y_GWL_bestChance ∧ Cond.instanceMethod y_GWL_bestChance ∈ wsG ∧ Cond.selects y_GWL_bestChance.cls y_GWL_bestChance y_GWL_bestChance ∈ wsG := ⟨mw_GWL_bestChance, Or.inl (wg 756 (by decide +kernel) rfl), (wg 758 (by decide +kernel) rfl), (wp (q := (y_GWL_bestChance, 19)) (by decide +kernel) rfl)⟩
theorem mw_GWL_turnsWithWeight : MW y_GWL_turnsWithWeight b_GWL_turnsWithWeight 3 (some .int) 0 := ⟨(wg 1 (by decide +kernel) rfl), (wg 780 (by decide +kernel) rfl), ⟨by decide, by decide, by decide +kernel⟩, by decide⟩
theorem cv_GWL_306 : MW y_GWL_turnsWithWeight b_GWL_turnsWithWeight 3 (some .int) 0 ∧ LK "GuideWalksLast" 306 y_GWL_turnsWithWeight ∧ Cond.instanceMethod y_GWL_turnsWithWeight ∈ wsG ∧ Cond.selects y_GWL_turnsWithWeight.cls y_GWL_turnsWithWeight y_GWL_turnsWithWeight ∈ wsG := ⟨mw_GWL_turnsWithWeight, Or.inl (wg 777 (by decide +kernel) rfl), (wg 779 (by decide +kernel) rfl), (wp (q := (y_GWL_turnsWithWeight, 19)) (by decide +kernel) rfl)⟩
theorem mw_Land_cellsThatAre : MW y_Land_cellsThatAre b_Land_cellsThatAre 5 (some .long) 1 := ⟨(wg 10 (by decide +kernel) rfl), (wg 785 (by decide +kernel) rfl), ⟨by decide, by decide, by decide +kernel⟩, by decide⟩
theorem cv_GWL_309 : MW y_Land_cellsThatAre b_Land_cellsThatAre 5 (some .long) 1 ∧ LK "GuideWalksLast" 309 y_Land_cellsThatAre ∧ Cond.instanceMethod y_Land_cellsThatAre ∈ wsG ∧ Cond.selects y_Land_cellsThatAre.cls y_Land_cellsThatAre y_Land_cellsThatAre ∈ wsG := ⟨mw_Land_cellsThatAre, Or.inl (wg 782 (by decide +kernel) rfl), (wg 783 (by decide +kernel) rfl), (wg 784 (by decide +kernel) rfl)⟩
theorem mw_Fee_endsWith : MW y_Fee_endsWith b_Fee_endsWith 3 (some .int) 2 := ⟨(wg 7 (by decide +kernel) rfl), (wg 720 (by decide +kernel) rfl), ⟨by decide, by decide, by decide +kernel⟩, by decide⟩
theorem cv_GWL_315 : MW y_Fee_endsWith b_Fee_endsWith 3 (some .int) 2 ∧ LK "GuideWalksLast" 315 y_Fee_endsWith ∧ Cond.instanceMethod y_Fee_endsWith ∈ wsG ∧ Cond.selects y_Fee_endsWith.cls y_Fee_endsWith y_Fee_endsWith ∈ wsG := ⟨mw_Fee_endsWith, Or.inl (wg 798 (by decide +kernel) rfl), (wg 718 (by decide +kernel) rfl), (wg 719 (by decide +kernel) rfl)⟩
theorem mw_GWL_greedyChance : MW y_GWL_greedyChance b_GWL_greedyChance 3 (some .long) 2 := ⟨(wg 1 (by decide +kernel) rfl), (wg 806 (by decide +kernel) rfl), ⟨by decide, by decide, by decide +kernel⟩, by decide⟩
theorem cv_GWL_323 : MW y_GWL_greedyChance b_GWL_greedyChance 3 (some .long) 2 ∧ LK "GuideWalksLast" 323 y_GWL_greedyChance ∧ Cond.instanceMethod y_GWL_greedyChance ∈ wsG ∧ Cond.selects y_GWL_greedyChance.cls y_GWL_greedyChance y_GWL_greedyChance ∈ wsG := ⟨mw_GWL_greedyChance, Or.inl (wg 803 (by decide +kernel) rfl), (wg 805 (by decide +kernel) rfl), (wp (q := (y_GWL_greedyChance, 19)) (by decide +kernel) rfl)⟩
theorem mw_GWL_isPlace : MW y_GWL_isPlace b_GWL_isPlace 1 (some .boolean) 1 := ⟨(wg 1 (by decide +kernel) rfl), (wg 817 (by decide +kernel) rfl), ⟨by decide, by decide, by decide +kernel⟩, by decide⟩
theorem cv_GWL_327 : MW y_GWL_isPlace b_GWL_isPlace 1 (some .boolean) 1 ∧ LK "GuideWalksLast" 327 y_GWL_isPlace ∧ Cond.static y_GWL_isPlace ∈ wsG := ⟨mw_GWL_isPlace, Or.inl (wg 815 (by decide +kernel) rfl), (wg 816 (by decide +kernel) rfl)⟩
theorem mw_Party_trackFrom : MW y_Party_trackFrom b_Party_trackFrom 2 (some .int) 1 := ⟨(wg 5 (by decide +kernel) rfl), (wg 830 (by decide +kernel) rfl), ⟨by decide, by decide, by decide +kernel⟩, by decide⟩
theorem cv_GWL_332 : MW y_Party_trackFrom b_Party_trackFrom 2 (some .int) 1 ∧ LK "GuideWalksLast" 332 y_Party_trackFrom ∧ Cond.instanceMethod y_Party_trackFrom ∈ wsG ∧ Cond.selects y_Party_trackFrom.cls y_Party_trackFrom y_Party_trackFrom ∈ wsG := ⟨mw_Party_trackFrom, Or.inl (wg 827 (by decide +kernel) rfl), (wg 828 (by decide +kernel) rfl), (wg 829 (by decide +kernel) rfl)⟩
theorem mw_Trail_runFrom : MW y_Trail_runFrom b_Trail_runFrom 5 none 1 := ⟨(wg 12 (by decide +kernel) rfl), (wg 842 (by decide +kernel) rfl), ⟨by decide, by decide, by decide +kernel⟩, by decide⟩
theorem cv_GWL_335 : MW y_Trail_runFrom b_Trail_runFrom 5 none 1 ∧ LK "GuideWalksLast" 335 y_Trail_runFrom ∧ Cond.instanceMethod y_Trail_runFrom ∈ wsG ∧ Cond.selects y_Trail_runFrom.cls y_Trail_runFrom y_Trail_runFrom ∈ wsG := ⟨mw_Trail_runFrom, Or.inl (wg 839 (by decide +kernel) rfl), (wg 840 (by decide +kernel) rfl), (wg 841 (by decide +kernel) rfl)⟩
theorem mw_Trail_misleads : MW y_Trail_misleads b_Trail_misleads 2 (some .boolean) 1 := ⟨(wg 12 (by decide +kernel) rfl), (wg 852 (by decide +kernel) rfl), ⟨by decide, by decide, by decide +kernel⟩, by decide⟩
theorem cv_GWL_349 : MW y_Trail_misleads b_Trail_misleads 2 (some .boolean) 1 ∧ LK "GuideWalksLast" 349 y_Trail_misleads ∧ Cond.instanceMethod y_Trail_misleads ∈ wsG ∧ Cond.selects y_Trail_misleads.cls y_Trail_misleads y_Trail_misleads ∈ wsG := ⟨mw_Trail_misleads, Or.inl (wg 849 (by decide +kernel) rfl), (wg 850 (by decide +kernel) rfl), (wg 851 (by decide +kernel) rfl)⟩
theorem mw_Land_hasWayFrom : MW y_Land_hasWayFrom b_Land_hasWayFrom 3 (some .boolean) 1 := ⟨(wg 10 (by decide +kernel) rfl), (wg 858 (by decide +kernel) rfl), ⟨by decide, by decide, by decide +kernel⟩, by decide⟩
theorem cv_GWL_352 : MW y_Land_hasWayFrom b_Land_hasWayFrom 3 (some .boolean) 1 ∧ LK "GuideWalksLast" 352 y_Land_hasWayFrom ∧ Cond.instanceMethod y_Land_hasWayFrom ∈ wsG ∧ Cond.selects y_Land_hasWayFrom.cls y_Land_hasWayFrom y_Land_hasWayFrom ∈ wsG := ⟨mw_Land_hasWayFrom, Or.inl (wg 855 (by decide +kernel) rfl), (wg 856 (by decide +kernel) rfl), (wg 857 (by decide +kernel) rfl)⟩
theorem mw_GWL_isFarFromAll : MW y_GWL_isFarFromAll b_GWL_isFarFromAll 4 (some .boolean) 3 := ⟨(wg 1 (by decide +kernel) rfl), (wg 865 (by decide +kernel) rfl), ⟨by decide, by decide, by decide +kernel⟩, by decide⟩
theorem cv_GWL_355 : MW y_GWL_isFarFromAll b_GWL_isFarFromAll 4 (some .boolean) 3 ∧ LK "GuideWalksLast" 355 y_GWL_isFarFromAll ∧ Cond.static y_GWL_isFarFromAll ∈ wsG := ⟨mw_GWL_isFarFromAll, Or.inl (wg 863 (by decide +kernel) rfl), (wg 864 (by decide +kernel) rfl)⟩
theorem mw_Prints_tell : MW y_Prints_tell b_Prints_tell 4 (some .boolean) 2 := ⟨(wg 13 (by decide +kernel) rfl), (wg 883 (by decide +kernel) rfl), ⟨by decide, by decide, by decide +kernel⟩, by decide⟩
theorem cv_GWL_359 : MW y_Prints_tell b_Prints_tell 4 (some .boolean) 2 ∧ LK "GuideWalksLast" 359 y_Prints_tell ∧ Cond.instanceMethod y_Prints_tell ∈ wsG ∧ Cond.selects y_Prints_tell.cls y_Prints_tell y_Prints_tell ∈ wsG := ⟨mw_Prints_tell, Or.inl (wg 880 (by decide +kernel) rfl), (wg 881 (by decide +kernel) rfl), (wg 882 (by decide +kernel) rfl)⟩
theorem mw_Prints_trace : MW y_Prints_trace b_Prints_trace 5 none 1 := ⟨(wg 13 (by decide +kernel) rfl), (wg 905 (by decide +kernel) rfl), ⟨by decide, by decide, by decide +kernel⟩, by decide⟩
theorem cv_GWL_365 : MW y_Prints_trace b_Prints_trace 5 none 1 ∧ LK "GuideWalksLast" 365 y_Prints_trace ∧ Cond.instanceMethod y_Prints_trace ∈ wsG ∧ Cond.selects y_Prints_trace.cls y_Prints_trace y_Prints_trace ∈ wsG := ⟨mw_Prints_trace, Or.inl (wg 902 (by decide +kernel) rfl), (wg 903 (by decide +kernel) rfl), (wg 904 (by decide +kernel) rfl)⟩
theorem mw_Prints_tellLeast : MW y_Prints_tellLeast b_Prints_tellLeast 5 none 1 := ⟨(wg 13 (by decide +kernel) rfl), (wg 931 (by decide +kernel) rfl), ⟨by decide, by decide, by decide +kernel⟩, by decide⟩
theorem cv_GWL_369 : MW y_Prints_tellLeast b_Prints_tellLeast 5 none 1 ∧ LK "GuideWalksLast" 369 y_Prints_tellLeast ∧ Cond.instanceMethod y_Prints_tellLeast ∈ wsG ∧ Cond.selects y_Prints_tellLeast.cls y_Prints_tellLeast y_Prints_tellLeast ∈ wsG := ⟨mw_Prints_tellLeast, Or.inl (wg 928 (by decide +kernel) rfl), (wg 929 (by decide +kernel) rfl), (wg 930 (by decide +kernel) rfl)⟩
theorem mw_Prints_manyRows : MW y_Prints_manyRows b_Prints_manyRows 1 (some .long) 0 := ⟨(wg 13 (by decide +kernel) rfl), (wg 944 (by decide +kernel) rfl), ⟨by decide, by decide, by decide +kernel⟩, by decide⟩
theorem cv_GWL_373 : MW y_Prints_manyRows b_Prints_manyRows 1 (some .long) 0 ∧ LK "GuideWalksLast" 373 y_Prints_manyRows ∧ Cond.instanceMethod y_Prints_manyRows ∈ wsG ∧ Cond.selects y_Prints_manyRows.cls y_Prints_manyRows y_Prints_manyRows ∈ wsG := ⟨mw_Prints_manyRows, Or.inl (wg 941 (by decide +kernel) rfl), (wg 942 (by decide +kernel) rfl), (wg 943 (by decide +kernel) rfl)⟩
theorem mw_Prints_fewestFalse : MW y_Prints_fewestFalse b_Prints_fewestFalse 1 (some .int) 0 := ⟨(wg 13 (by decide +kernel) rfl), (wg 935 (by decide +kernel) rfl), ⟨by decide, by decide, by decide +kernel⟩, by decide⟩
theorem cv_GWL_376 : MW y_Prints_fewestFalse b_Prints_fewestFalse 1 (some .int) 0 ∧ LK "GuideWalksLast" 376 y_Prints_fewestFalse ∧ Cond.instanceMethod y_Prints_fewestFalse ∈ wsG ∧ Cond.selects y_Prints_fewestFalse.cls y_Prints_fewestFalse y_Prints_fewestFalse ∈ wsG := ⟨mw_Prints_fewestFalse, Or.inl (wg 949 (by decide +kernel) rfl), (wg 933 (by decide +kernel) rfl), (wg 934 (by decide +kernel) rfl)⟩
theorem mw_Market_isOne : MW y_Market_isOne b_Market_isOne 2 (some .boolean) 1 := ⟨(wg 9 (by decide +kernel) rfl), (wg 957 (by decide +kernel) rfl), ⟨by decide, by decide, by decide +kernel⟩, by decide⟩
theorem cv_GWL_379 : MW y_Market_isOne b_Market_isOne 2 (some .boolean) 1 ∧ LK "GuideWalksLast" 379 y_Market_isOne ∧ Cond.instanceMethod y_Market_isOne ∈ wsG ∧ Cond.selects y_Market_isOne.cls y_Market_isOne y_Market_isOne ∈ wsG := ⟨mw_Market_isOne, Or.inl (wg 954 (by decide +kernel) rfl), (wg 955 (by decide +kernel) rfl), (wg 956 (by decide +kernel) rfl)⟩
theorem mw_Market_value : MW y_Market_value b_Market_value 6 (some .int) 3 := ⟨(wg 9 (by decide +kernel) rfl), (wg 961 (by decide +kernel) rfl), ⟨by decide, by decide, by decide +kernel⟩, by decide⟩
theorem cv_GWL_382 : MW y_Market_value b_Market_value 6 (some .int) 3 ∧ LK "GuideWalksLast" 382 y_Market_value ∧ Cond.instanceMethod y_Market_value ∈ wsG ∧ Cond.selects y_Market_value.cls y_Market_value y_Market_value ∈ wsG := ⟨mw_Market_value, Or.inl (wg 958 (by decide +kernel) rfl), (wg 959 (by decide +kernel) rfl), (wg 960 (by decide +kernel) rfl)⟩
theorem mw_Market_most : MW y_Market_most b_Market_most 6 (some .int) 2 := ⟨(wg 9 (by decide +kernel) rfl), (wg 969 (by decide +kernel) rfl), ⟨by decide, by decide, by decide +kernel⟩, by decide⟩
theorem cv_GWL_386 : MW y_Market_most b_Market_most 6 (some .int) 2 ∧ LK "GuideWalksLast" 386 y_Market_most ∧ Cond.instanceMethod y_Market_most ∈ wsG ∧ Cond.selects y_Market_most.cls y_Market_most y_Market_most ∈ wsG := ⟨mw_Market_most, Or.inl (wg 966 (by decide +kernel) rfl), (wg 967 (by decide +kernel) rfl), (wg 968 (by decide +kernel) rfl)⟩
theorem mw_Market_tellGuides : MW y_Market_tellGuides b_Market_tellGuides 5 none 1 := ⟨(wg 9 (by decide +kernel) rfl), (wg 981 (by decide +kernel) rfl), ⟨by decide, by decide, by decide +kernel⟩, by decide⟩
theorem cv_GWL_389 : MW y_Market_tellGuides b_Market_tellGuides 5 none 1 ∧ LK "GuideWalksLast" 389 y_Market_tellGuides ∧ Cond.instanceMethod y_Market_tellGuides ∈ wsG ∧ Cond.selects y_Market_tellGuides.cls y_Market_tellGuides y_Market_tellGuides ∈ wsG := ⟨mw_Market_tellGuides, Or.inl (wg 978 (by decide +kernel) rfl), (wg 979 (by decide +kernel) rfl), (wg 980 (by decide +kernel) rfl)⟩
theorem mw_Party_takeFrom : MW y_Party_takeFrom b_Party_takeFrom 2 none 1 := ⟨(wg 5 (by decide +kernel) rfl), (wg 542 (by decide +kernel) rfl), ⟨by decide, by decide, by decide +kernel⟩, by decide⟩
theorem cv_GWL_395 : MW y_Party_takeFrom b_Party_takeFrom 2 none 1 ∧ LK "GuideWalksLast" 395 y_Party_takeFrom ∧ Cond.instanceMethod y_Party_takeFrom ∈ wsG ∧ Cond.selects y_Party_takeFrom.cls y_Party_takeFrom y_Party_takeFrom ∈ wsG := ⟨mw_Party_takeFrom, Or.inl (wg 999 (by decide +kernel) rfl), (wg 540 (by decide +kernel) rfl), (wg 541 (by decide +kernel) rfl)⟩
theorem mw_JInt_bitCount : MW y_JInt_bitCount b_JInt_bitCount 1 (some .int) 1 := ⟨(wg 22 (by decide +kernel) rfl), (wg 868 (by decide +kernel) rfl), ⟨by decide, by decide, by decide +kernel⟩, by decide⟩
theorem cv_GWL_413 : MW y_JInt_bitCount b_JInt_bitCount 1 (some .int) 1 ∧ LK "GuideWalksLast" 413 y_JInt_bitCount ∧ Cond.static y_JInt_bitCount ∈ wsG := ⟨mw_JInt_bitCount, Or.inl (wg 866 (by decide +kernel) rfl), (wg 867 (by decide +kernel) rfl)⟩
theorem mw_JLong_bitCount : MW y_JLong_bitCount b_JLong_bitCount 2 (some .int) 1 := ⟨(wg 21 (by decide +kernel) rfl), (wg 673 (by decide +kernel) rfl), ⟨by decide, by decide, by decide +kernel⟩, by decide⟩
theorem cv_GWL_420 : MW y_JLong_bitCount b_JLong_bitCount 2 (some .int) 1 ∧ LK "GuideWalksLast" 420 y_JLong_bitCount ∧ Cond.static y_JLong_bitCount ∈ wsG := ⟨mw_JLong_bitCount, Or.inl (wg 671 (by decide +kernel) rfl), (wg 672 (by decide +kernel) rfl)⟩
theorem mw_GWL_tenthsOf : MW y_GWL_tenthsOf b_GWL_tenthsOf 2 (some .int) 2 := ⟨(wg 1 (by decide +kernel) rfl), (wg 576 (by decide +kernel) rfl), ⟨by decide, by decide, by decide +kernel⟩, by decide⟩
theorem cv_GWL_424 : MW y_GWL_tenthsOf b_GWL_tenthsOf 2 (some .int) 2 ∧ LK "GuideWalksLast" 424 y_GWL_tenthsOf ∧ Cond.static y_GWL_tenthsOf ∈ wsG := ⟨mw_GWL_tenthsOf, Or.inl (wg 781 (by decide +kernel) rfl), (wg 575 (by decide +kernel) rfl)⟩
theorem cv_Fee_30 : MW y_Fee_want b_Fee_want 5 none 4 ∧ LK "GuideWalksLast$Fee" 30 y_Fee_want ∧ Cond.instanceMethod y_Fee_want ∈ wsG ∧ Cond.selects y_Fee_want.cls y_Fee_want y_Fee_want ∈ wsG := ⟨mw_Fee_want, Or.inl (wg 466 (by decide +kernel) rfl), (wg 467 (by decide +kernel) rfl), (wg 468 (by decide +kernel) rfl)⟩
theorem cv_Fee_34 : MW y_Signs_length b_Signs_length 1 (some .int) 0 ∧ LK "GuideWalksLast$Fee" 34 y_Signs_length ∧ Cond.instanceMethod y_Signs_length ∈ wsG ∧ Cond.selects y_Signs_length.cls y_Signs_length y_Signs_length ∈ wsG := ⟨mw_Signs_length, Or.inl (wg 470 (by decide +kernel) rfl), (wg 387 (by decide +kernel) rfl), (wg 388 (by decide +kernel) rfl)⟩
theorem cv_Fee_40 : MW y_Signs_at b_Signs_at 2 (some .int) 1 ∧ LK "GuideWalksLast$Fee" 40 y_Signs_at ∧ Cond.instanceMethod y_Signs_at ∈ wsG ∧ Cond.selects y_Signs_at.cls y_Signs_at y_Signs_at ∈ wsG := ⟨mw_Signs_at, Or.inl (wg 471 (by decide +kernel) rfl), (wg 408 (by decide +kernel) rfl), (wg 409 (by decide +kernel) rfl)⟩
theorem mw_Fee_isLetter : MW y_Fee_isLetter b_Fee_isLetter 1 (some .boolean) 1 := ⟨(wg 7 (by decide +kernel) rfl), (wg 474 (by decide +kernel) rfl), ⟨by decide, by decide, by decide +kernel⟩, by decide⟩
theorem cv_Fee_44 : MW y_Fee_isLetter b_Fee_isLetter 1 (some .boolean) 1 ∧ LK "GuideWalksLast$Fee" 44 y_Fee_isLetter ∧ Cond.static y_Fee_isLetter ∈ wsG := ⟨mw_Fee_isLetter, Or.inl (wg 472 (by decide +kernel) rfl), (wg 473 (by decide +kernel) rfl)⟩
theorem mw_Fee_addTo : MW y_Fee_addTo b_Fee_addTo 3 none 2 := ⟨(wg 7 (by decide +kernel) rfl), (wg 478 (by decide +kernel) rfl), ⟨by decide, by decide, by decide +kernel⟩, by decide⟩
theorem cv_Fee_48 : MW y_Fee_addTo b_Fee_addTo 3 none 2 ∧ LK "GuideWalksLast$Fee" 48 y_Fee_addTo ∧ Cond.instanceMethod y_Fee_addTo ∈ wsG ∧ Cond.selects y_Fee_addTo.cls y_Fee_addTo y_Fee_addTo ∈ wsG := ⟨mw_Fee_addTo, Or.inl (wg 475 (by decide +kernel) rfl), (wg 477 (by decide +kernel) rfl), (wp (q := (y_Fee_addTo, 6)) (by decide +kernel) rfl)⟩
theorem cv_Guide_11 : MW y_Spread_new b_Spread_new 1 none 0 ∧ LK "GuideWalksLast$Guide" 11 y_Spread_new ∧ Cond.instanceMethod y_Spread_new ∈ wsG ∧ y_Spread_new.name = "<init>" := ⟨mw_Spread_new, Or.inr ⟨"GuideWalksLast", by decide +kernel⟩, (wg 154 (by decide +kernel) rfl), rfl⟩
theorem cv_Guide_33 : MW y_Fee_new b_Fee_new 1 none 0 ∧ LK "GuideWalksLast$Guide" 33 y_Fee_new ∧ Cond.instanceMethod y_Fee_new ∈ wsG ∧ y_Fee_new.name = "<init>" := ⟨mw_Fee_new, Or.inr ⟨"GuideWalksLast", by decide +kernel⟩, (wg 122 (by decide +kernel) rfl), rfl⟩
theorem cv_Guide_59 : MW y_Spread_from b_Spread_from 9 none 4 ∧ LK "GuideWalksLast$Guide" 59 y_Spread_from ∧ Cond.instanceMethod y_Spread_from ∈ wsG ∧ Cond.selects y_Spread_from.cls y_Spread_from y_Spread_from ∈ wsG := ⟨mw_Spread_from, Or.inl (wg 689 (by decide +kernel) rfl), (wg 647 (by decide +kernel) rfl), (wg 648 (by decide +kernel) rfl)⟩
theorem mw_Guide_swapLayers : MW y_Guide_swapLayers b_Guide_swapLayers 2 none 0 := ⟨(wg 11 (by decide +kernel) rfl), (wg 693 (by decide +kernel) rfl), ⟨by decide, by decide, by decide +kernel⟩, by decide⟩
theorem cv_Guide_63 : MW y_Guide_swapLayers b_Guide_swapLayers 2 none 0 ∧ LK "GuideWalksLast$Guide" 63 y_Guide_swapLayers ∧ Cond.instanceMethod y_Guide_swapLayers ∈ wsG ∧ Cond.selects y_Guide_swapLayers.cls y_Guide_swapLayers y_Guide_swapLayers ∈ wsG := ⟨mw_Guide_swapLayers, Or.inl (wg 690 (by decide +kernel) rfl), (wg 692 (by decide +kernel) rfl), (wp (q := (y_Guide_swapLayers, 12)) (by decide +kernel) rfl)⟩
theorem mw_JMath_min : MW y_JMath_min b_JMath_min 2 (some .int) 2 := ⟨(wg 15 (by decide +kernel) rfl), (wg 696 (by decide +kernel) rfl), ⟨by decide, by decide, by decide +kernel⟩, by decide⟩
theorem cv_Guide_66 : MW y_JMath_min b_JMath_min 2 (some .int) 2 ∧ LK "GuideWalksLast$Guide" 66 y_JMath_min ∧ Cond.static y_JMath_min ∈ wsG := ⟨mw_JMath_min, Or.inl (wg 694 (by decide +kernel) rfl), (wg 695 (by decide +kernel) rfl)⟩
theorem mw_Spread_within : MW y_Spread_within b_Spread_within 4 (some .int) 1 := ⟨(wg 8 (by decide +kernel) rfl), (wg 700 (by decide +kernel) rfl), ⟨by decide, by decide, by decide +kernel⟩, by decide⟩
theorem cv_Guide_72 : MW y_Spread_within b_Spread_within 4 (some .int) 1 ∧ LK "GuideWalksLast$Guide" 72 y_Spread_within ∧ Cond.instanceMethod y_Spread_within ∈ wsG ∧ Cond.selects y_Spread_within.cls y_Spread_within y_Spread_within ∈ wsG := ⟨mw_Spread_within, Or.inl (wg 697 (by decide +kernel) rfl), (wg 698 (by decide +kernel) rfl), (wg 699 (by decide +kernel) rfl)⟩
theorem mw_Spread_stanceAt : MW y_Spread_stanceAt b_Spread_stanceAt 2 (some .int) 1 := ⟨(wg 8 (by decide +kernel) rfl), (wg 704 (by decide +kernel) rfl), ⟨by decide, by decide, by decide +kernel⟩, by decide⟩
theorem cv_Guide_76 : MW y_Spread_stanceAt b_Spread_stanceAt 2 (some .int) 1 ∧ LK "GuideWalksLast$Guide" 76 y_Spread_stanceAt ∧ Cond.instanceMethod y_Spread_stanceAt ∈ wsG ∧ Cond.selects y_Spread_stanceAt.cls y_Spread_stanceAt y_Spread_stanceAt ∈ wsG := ⟨mw_Spread_stanceAt, Or.inl (wg 701 (by decide +kernel) rfl), (wg 702 (by decide +kernel) rfl), (wg 703 (by decide +kernel) rfl)⟩
theorem mw_Guide_decide : MW y_Guide_decide b_Guide_decide 24 none 3 := ⟨(wg 11 (by decide +kernel) rfl), (wg 708 (by decide +kernel) rfl), ⟨by decide, by decide, by decide +kernel⟩, by decide⟩
theorem cv_Guide_79 : MW y_Guide_decide b_Guide_decide 24 none 3 ∧ LK "GuideWalksLast$Guide" 79 y_Guide_decide ∧ Cond.instanceMethod y_Guide_decide ∈ wsG ∧ Cond.selects y_Guide_decide.cls y_Guide_decide y_Guide_decide ∈ wsG := ⟨mw_Guide_decide, Or.inl (wg 705 (by decide +kernel) rfl), (wg 707 (by decide +kernel) rfl), (wp (q := (y_Guide_decide, 12)) (by decide +kernel) rfl)⟩
theorem cv_Guide_83 : MW y_GWL_cellOf b_GWL_cellOf 1 (some .int) 1 ∧ LK "GuideWalksLast$Guide" 83 y_GWL_cellOf ∧ Cond.static y_GWL_cellOf ∈ wsG := ⟨mw_GWL_cellOf, Or.inr ⟨"GuideWalksLast", by decide +kernel⟩, (wg 559 (by decide +kernel) rfl)⟩
theorem cv_Guide_86 : MW y_GWL_hundreds b_GWL_hundreds 1 (some .long) 1 ∧ LK "GuideWalksLast$Guide" 86 y_GWL_hundreds ∧ Cond.static y_GWL_hundreds ∈ wsG := ⟨mw_GWL_hundreds, Or.inr ⟨"GuideWalksLast", by decide +kernel⟩, (wg 711 (by decide +kernel) rfl)⟩
theorem cv_Guide_90 : MW y_Land_endsAt b_Land_endsAt 3 (some .boolean) 1 ∧ LK "GuideWalksLast$Guide" 90 y_Land_endsAt ∧ Cond.instanceMethod y_Land_endsAt ∈ wsG ∧ Cond.selects y_Land_endsAt.cls y_Land_endsAt y_Land_endsAt ∈ wsG := ⟨mw_Land_endsAt, Or.inl (wg 715 (by decide +kernel) rfl), (wg 532 (by decide +kernel) rfl), (wg 533 (by decide +kernel) rfl)⟩
theorem cv_Guide_96 : MW y_Land_kindOf b_Land_kindOf 2 (some .int) 1 ∧ LK "GuideWalksLast$Guide" 96 y_Land_kindOf ∧ Cond.instanceMethod y_Land_kindOf ∈ wsG ∧ Cond.selects y_Land_kindOf.cls y_Land_kindOf y_Land_kindOf ∈ wsG := ⟨mw_Land_kindOf, Or.inl (wg 716 (by decide +kernel) rfl), (wg 430 (by decide +kernel) rfl), (wg 431 (by decide +kernel) rfl)⟩
theorem cv_Guide_99 : MW y_Fee_endsWith b_Fee_endsWith 3 (some .int) 2 ∧ LK "GuideWalksLast$Guide" 99 y_Fee_endsWith ∧ Cond.instanceMethod y_Fee_endsWith ∈ wsG ∧ Cond.selects y_Fee_endsWith.cls y_Fee_endsWith y_Fee_endsWith ∈ wsG := ⟨mw_Fee_endsWith, Or.inl (wg 717 (by decide +kernel) rfl), (wg 718 (by decide +kernel) rfl), (wg 719 (by decide +kernel) rfl)⟩
theorem mw_Guide_lay : MW y_Guide_lay b_Guide_lay 8 none 4 := ⟨(wg 11 (by decide +kernel) rfl), (wg 724 (by decide +kernel) rfl), ⟨by decide, by decide, by decide +kernel⟩, by decide⟩
theorem cv_Guide_102 : MW y_Guide_lay b_Guide_lay 8 none 4 ∧ LK "GuideWalksLast$Guide" 102 y_Guide_lay ∧ Cond.instanceMethod y_Guide_lay ∈ wsG ∧ Cond.selects y_Guide_lay.cls y_Guide_lay y_Guide_lay ∈ wsG := ⟨mw_Guide_lay, Or.inl (wg 721 (by decide +kernel) rfl), (wg 723 (by decide +kernel) rfl), (wp (q := (y_Guide_lay, 12)) (by decide +kernel) rfl)⟩
theorem mw_Guide_byItself : MW y_Guide_byItself b_Guide_byItself 7 (some .long) 3 := ⟨(wg 11 (by decide +kernel) rfl), (wg 729 (by decide +kernel) rfl), ⟨by decide, by decide, by decide +kernel⟩, by decide⟩
theorem cv_Guide_108 : MW y_Guide_byItself b_Guide_byItself 7 (some .long) 3 ∧ LK "GuideWalksLast$Guide" 108 y_Guide_byItself ∧ Cond.instanceMethod y_Guide_byItself ∈ wsG ∧ Cond.selects y_Guide_byItself.cls y_Guide_byItself y_Guide_byItself ∈ wsG := ⟨mw_Guide_byItself, Or.inl (wg 726 (by decide +kernel) rfl), (wg 728 (by decide +kernel) rfl), (wp (q := (y_Guide_byItself, 12)) (by decide +kernel) rfl)⟩
theorem cv_Guide_118 : MW y_Land_after b_Land_after 4 (some .int) 2 ∧ LK "GuideWalksLast$Guide" 118 y_Land_after ∧ Cond.instanceMethod y_Land_after ∈ wsG ∧ Cond.selects y_Land_after.cls y_Land_after y_Land_after ∈ wsG := ⟨mw_Land_after, Or.inl (wg 731 (by decide +kernel) rfl), (wg 555 (by decide +kernel) rfl), (wg 556 (by decide +kernel) rfl)⟩
theorem mw_Guide_laidAt : MW y_Guide_laidAt b_Guide_laidAt 4 (some .long) 3 := ⟨(wg 11 (by decide +kernel) rfl), (wg 734 (by decide +kernel) rfl), ⟨by decide, by decide, by decide +kernel⟩, by decide⟩
theorem cv_Guide_121 : MW y_Guide_laidAt b_Guide_laidAt 4 (some .long) 3 ∧ LK "GuideWalksLast$Guide" 121 y_Guide_laidAt ∧ Cond.static y_Guide_laidAt ∈ wsG := ⟨mw_Guide_laidAt, Or.inl (wg 732 (by decide +kernel) rfl), (wg 733 (by decide +kernel) rfl)⟩
theorem cv_Guide_124 : MW y_GWL_tenthsOf b_GWL_tenthsOf 2 (some .int) 2 ∧ LK "GuideWalksLast$Guide" 124 y_GWL_tenthsOf ∧ Cond.static y_GWL_tenthsOf ∈ wsG := ⟨mw_GWL_tenthsOf, Or.inr ⟨"GuideWalksLast", by decide +kernel⟩, (wg 575 (by decide +kernel) rfl)⟩
theorem cv_Land_28 : MW y_Land_kindOf b_Land_kindOf 2 (some .int) 1 ∧ LK "GuideWalksLast$Land" 28 y_Land_kindOf ∧ Cond.instanceMethod y_Land_kindOf ∈ wsG ∧ Cond.selects y_Land_kindOf.cls y_Land_kindOf y_Land_kindOf ∈ wsG := ⟨mw_Land_kindOf, Or.inl (wg 429 (by decide +kernel) rfl), (wg 430 (by decide +kernel) rfl), (wg 431 (by decide +kernel) rfl)⟩
theorem mw_Land_survey : MW y_Land_survey b_Land_survey 5 none 0 := ⟨(wg 10 (by decide +kernel) rfl), (wg 424 (by decide +kernel) rfl), ⟨by decide, by decide, by decide +kernel⟩, by decide⟩
theorem cv_Land_32 : MW y_Land_survey b_Land_survey 5 none 0 ∧ LK "GuideWalksLast$Land" 32 y_Land_survey ∧ Cond.instanceMethod y_Land_survey ∈ wsG ∧ Cond.selects y_Land_survey.cls y_Land_survey y_Land_survey ∈ wsG := ⟨mw_Land_survey, Or.inl (wg 421 (by decide +kernel) rfl), (wg 423 (by decide +kernel) rfl), (wp (q := (y_Land_survey, 6)) (by decide +kernel) rfl)⟩
theorem cv_Land_35 : MW y_Signs_length b_Signs_length 1 (some .int) 0 ∧ LK "GuideWalksLast$Land" 35 y_Signs_length ∧ Cond.instanceMethod y_Signs_length ∈ wsG ∧ Cond.selects y_Signs_length.cls y_Signs_length y_Signs_length ∈ wsG := ⟨mw_Signs_length, Or.inl (wg 406 (by decide +kernel) rfl), (wg 387 (by decide +kernel) rfl), (wg 388 (by decide +kernel) rfl)⟩
theorem cv_Land_41 : MW y_Signs_at b_Signs_at 2 (some .int) 1 ∧ LK "GuideWalksLast$Land" 41 y_Signs_at ∧ Cond.instanceMethod y_Signs_at ∈ wsG ∧ Cond.selects y_Signs_at.cls y_Signs_at y_Signs_at ∈ wsG := ⟨mw_Signs_at, Or.inl (wg 407 (by decide +kernel) rfl), (wg 408 (by decide +kernel) rfl), (wg 409 (by decide +kernel) rfl)⟩
theorem mw_Land_kindTold : MW y_Land_kindTold b_Land_kindTold 1 (some .int) 1 := ⟨(wg 10 (by decide +kernel) rfl), (wg 413 (by decide +kernel) rfl), ⟨by decide, by decide, by decide +kernel⟩, by decide⟩
theorem cv_Land_44 : MW y_Land_kindTold b_Land_kindTold 1 (some .int) 1 ∧ LK "GuideWalksLast$Land" 44 y_Land_kindTold ∧ Cond.static y_Land_kindTold ∈ wsG := ⟨mw_Land_kindTold, Or.inl (wg 411 (by decide +kernel) rfl), (wg 412 (by decide +kernel) rfl)⟩
theorem mw_Land_isWhole : MW y_Land_isWhole b_Land_isWhole 3 (some .boolean) 3 := ⟨(wg 10 (by decide +kernel) rfl), (wg 416 (by decide +kernel) rfl), ⟨by decide, by decide, by decide +kernel⟩, by decide⟩
theorem cv_Land_47 : MW y_Land_isWhole b_Land_isWhole 3 (some .boolean) 3 ∧ LK "GuideWalksLast$Land" 47 y_Land_isWhole ∧ Cond.static y_Land_isWhole ∈ wsG := ⟨mw_Land_isWhole, Or.inl (wg 414 (by decide +kernel) rfl), (wg 415 (by decide +kernel) rfl)⟩
theorem mw_Land_across : MW y_Land_across b_Land_across 8 (some .int) 3 := ⟨(wg 10 (by decide +kernel) rfl), (wg 428 (by decide +kernel) rfl), ⟨by decide, by decide, by decide +kernel⟩, by decide⟩
theorem cv_Land_55 : MW y_Land_across b_Land_across 8 (some .int) 3 ∧ LK "GuideWalksLast$Land" 55 y_Land_across ∧ Cond.instanceMethod y_Land_across ∈ wsG ∧ Cond.selects y_Land_across.cls y_Land_across y_Land_across ∈ wsG := ⟨mw_Land_across, Or.inl (wg 425 (by decide +kernel) rfl), (wg 427 (by decide +kernel) rfl), (wp (q := (y_Land_across, 6)) (by decide +kernel) rfl)⟩
theorem cv_Land_59 : MW y_GWL_cellOf b_GWL_cellOf 1 (some .int) 1 ∧ LK "GuideWalksLast$Land" 59 y_GWL_cellOf ∧ Cond.static y_GWL_cellOf ∈ wsG := ⟨mw_GWL_cellOf, Or.inr ⟨"GuideWalksLast", by decide +kernel⟩, (wg 559 (by decide +kernel) rfl)⟩
theorem mw_Land_widen : MW y_Land_widen b_Land_widen 4 (some .boolean) 1 := ⟨(wg 10 (by decide +kernel) rfl), (wg 629 (by decide +kernel) rfl), ⟨by decide, by decide, by decide +kernel⟩, by decide⟩
theorem cv_Land_62 : MW y_Land_widen b_Land_widen 4 (some .boolean) 1 ∧ LK "GuideWalksLast$Land" 62 y_Land_widen ∧ Cond.instanceMethod y_Land_widen ∈ wsG ∧ Cond.selects y_Land_widen.cls y_Land_widen y_Land_widen ∈ wsG := ⟨mw_Land_widen, Or.inl (wg 626 (by decide +kernel) rfl), (wg 628 (by decide +kernel) rfl), (wp (q := (y_Land_widen, 6)) (by decide +kernel) rfl)⟩
theorem cv_Land_66 : MW y_Land_endsAt b_Land_endsAt 3 (some .boolean) 1 ∧ LK "GuideWalksLast$Land" 66 y_Land_endsAt ∧ Cond.instanceMethod y_Land_endsAt ∈ wsG ∧ Cond.selects y_Land_endsAt.cls y_Land_endsAt y_Land_endsAt ∈ wsG := ⟨mw_Land_endsAt, Or.inl (wg 630 (by decide +kernel) rfl), (wg 532 (by decide +kernel) rfl), (wg 533 (by decide +kernel) rfl)⟩
theorem cv_Land_69 : MW y_Land_turnTowards b_Land_turnTowards 4 (some .int) 2 ∧ LK "GuideWalksLast$Land" 69 y_Land_turnTowards ∧ Cond.instanceMethod y_Land_turnTowards ∈ wsG ∧ Cond.selects y_Land_turnTowards.cls y_Land_turnTowards y_Land_turnTowards ∈ wsG := ⟨mw_Land_turnTowards, Or.inl (wg 631 (by decide +kernel) rfl), (wg 632 (by decide +kernel) rfl), (wg 633 (by decide +kernel) rfl)⟩
theorem cv_Land_73 : MW y_Land_after b_Land_after 4 (some .int) 2 ∧ LK "GuideWalksLast$Land" 73 y_Land_after ∧ Cond.instanceMethod y_Land_after ∈ wsG ∧ Cond.selects y_Land_after.cls y_Land_after y_Land_after ∈ wsG := ⟨mw_Land_after, Or.inl (wg 635 (by decide +kernel) rfl), (wg 555 (by decide +kernel) rfl), (wg 556 (by decide +kernel) rfl)⟩
theorem cv_Land_76 : MW y_Land_stepsHome b_Land_stepsHome 2 (some .int) 1 ∧ LK "GuideWalksLast$Land" 76 y_Land_stepsHome ∧ Cond.instanceMethod y_Land_stepsHome ∈ wsG ∧ Cond.selects y_Land_stepsHome.cls y_Land_stepsHome y_Land_stepsHome ∈ wsG := ⟨mw_Land_stepsHome, Or.inl (wg 636 (by decide +kernel) rfl), (wg 637 (by decide +kernel) rfl), (wg 638 (by decide +kernel) rfl)⟩
theorem mw_Market_mostBy : MW y_Market_mostBy b_Market_mostBy 5 (some .int) 2 := ⟨(wg 9 (by decide +kernel) rfl), (wg 973 (by decide +kernel) rfl), ⟨by decide, by decide, by decide +kernel⟩, by decide⟩
theorem cv_Market_25 : MW y_Market_mostBy b_Market_mostBy 5 (some .int) 2 ∧ LK "GuideWalksLast$Market" 25 y_Market_mostBy ∧ Cond.instanceMethod y_Market_mostBy ∈ wsG ∧ Cond.selects y_Market_mostBy.cls y_Market_mostBy y_Market_mostBy ∈ wsG := ⟨mw_Market_mostBy, Or.inl (wg 970 (by decide +kernel) rfl), (wg 972 (by decide +kernel) rfl), (wp (q := (y_Market_mostBy, 4)) (by decide +kernel) rfl)⟩
theorem mw_JMath_max_II : MW y_JMath_max_II b_JMath_max_II 2 (some .int) 2 := ⟨(wg 15 (by decide +kernel) rfl), (wg 977 (by decide +kernel) rfl), ⟨by decide, by decide, by decide +kernel⟩, by decide⟩
theorem cv_Market_29 : MW y_JMath_max_II b_JMath_max_II 2 (some .int) 2 ∧ LK "GuideWalksLast$Market" 29 y_JMath_max_II ∧ Cond.static y_JMath_max_II ∈ wsG := ⟨mw_JMath_max_II, Or.inl (wg 975 (by decide +kernel) rfl), (wg 976 (by decide +kernel) rfl)⟩
theorem cv_Market_34 : MW y_JInt_bitCount b_JInt_bitCount 1 (some .int) 1 ∧ LK "GuideWalksLast$Market" 34 y_JInt_bitCount ∧ Cond.static y_JInt_bitCount ∈ wsG := ⟨mw_JInt_bitCount, Or.inl (wg 974 (by decide +kernel) rfl), (wg 867 (by decide +kernel) rfl)⟩
theorem mw_Market_leastGuide : MW y_Market_leastGuide b_Market_leastGuide 3 (some .int) 1 := ⟨(wg 9 (by decide +kernel) rfl), (wg 985 (by decide +kernel) rfl), ⟨by decide, by decide, by decide +kernel⟩, by decide⟩
theorem cv_Market_40 : MW y_Market_leastGuide b_Market_leastGuide 3 (some .int) 1 ∧ LK "GuideWalksLast$Market" 40 y_Market_leastGuide ∧ Cond.instanceMethod y_Market_leastGuide ∈ wsG ∧ Cond.selects y_Market_leastGuide.cls y_Market_leastGuide y_Market_leastGuide ∈ wsG := ⟨mw_Market_leastGuide, Or.inl (wg 982 (by decide +kernel) rfl), (wg 984 (by decide +kernel) rfl), (wp (q := (y_Market_leastGuide, 4)) (by decide +kernel) rfl)⟩
theorem cv_Market_43 : MW y_Numbers_add b_Numbers_add 3 none 1 ∧ LK "GuideWalksLast$Market" 43 y_Numbers_add ∧ Cond.instanceMethod y_Numbers_add ∈ wsG ∧ Cond.selects y_Numbers_add.cls y_Numbers_add y_Numbers_add ∈ wsG := ⟨mw_Numbers_add, Or.inl (wg 986 (by decide +kernel) rfl), (wg 582 (by decide +kernel) rfl), (wg 583 (by decide +kernel) rfl)⟩
theorem mw_Numbers_commonDivisor : MW y_Numbers_commonDivisor b_Numbers_commonDivisor 11 (some .long) 2 := ⟨(wg 3 (by decide +kernel) rfl), (wg 746 (by decide +kernel) rfl), ⟨by decide, by decide, by decide +kernel⟩, by decide⟩
theorem cv_Numbers_19 : MW y_Numbers_commonDivisor b_Numbers_commonDivisor 11 (some .long) 2 ∧ LK "GuideWalksLast$Numbers" 19 y_Numbers_commonDivisor ∧ Cond.static y_Numbers_commonDivisor ∈ wsG := ⟨mw_Numbers_commonDivisor, Or.inl (wg 744 (by decide +kernel) rfl), (wg 745 (by decide +kernel) rfl)⟩
theorem cv_Numbers_23 : MW y_Numbers_add b_Numbers_add 3 none 1 ∧ LK "GuideWalksLast$Numbers" 23 y_Numbers_add ∧ Cond.instanceMethod y_Numbers_add ∈ wsG ∧ Cond.selects y_Numbers_add.cls y_Numbers_add y_Numbers_add ∈ wsG := ⟨mw_Numbers_add, Or.inl (wg 747 (by decide +kernel) rfl), (wg 582 (by decide +kernel) rfl), (wg 583 (by decide +kernel) rfl)⟩
theorem cv_Party_22 : MW y_JArr_fill b_JArr_fill 4 none 2 ∧ LK "GuideWalksLast$Party" 22 y_JArr_fill ∧ Cond.static y_JArr_fill ∈ wsG := ⟨mw_JArr_fill, Or.inl (wg 77 (by decide +kernel) rfl), (wg 78 (by decide +kernel) rfl)⟩
theorem cv_Party_47 : MW y_Party_drawTenths b_Party_drawTenths 1 (some .int) 0 ∧ LK "GuideWalksLast$Party" 47 y_Party_drawTenths ∧ Cond.instanceMethod y_Party_drawTenths ∈ wsG ∧ Cond.selects y_Party_drawTenths.cls y_Party_drawTenths y_Party_drawTenths ∈ wsG := ⟨mw_Party_drawTenths, Or.inl (wg 569 (by decide +kernel) rfl), (wg 570 (by decide +kernel) rfl), (wg 571 (by decide +kernel) rfl)⟩
theorem cv_Party_51 : MW y_GWL_tenthsOf b_GWL_tenthsOf 2 (some .int) 2 ∧ LK "GuideWalksLast$Party" 51 y_GWL_tenthsOf ∧ Cond.static y_GWL_tenthsOf ∈ wsG := ⟨mw_GWL_tenthsOf, Or.inr ⟨"GuideWalksLast", by decide +kernel⟩, (wg 575 (by decide +kernel) rfl)⟩
theorem cv_Party_55 : MW y_Party_stance b_Party_stance 1 (some .int) 0 ∧ LK "GuideWalksLast$Party" 55 y_Party_stance ∧ Cond.instanceMethod y_Party_stance ∈ wsG ∧ Cond.selects y_Party_stance.cls y_Party_stance y_Party_stance ∈ wsG := ⟨mw_Party_stance, Or.inl (wg 550 (by decide +kernel) rfl), (wg 551 (by decide +kernel) rfl), (wg 552 (by decide +kernel) rfl)⟩
theorem cv_Party_58 : MW y_Land_after b_Land_after 4 (some .int) 2 ∧ LK "GuideWalksLast$Party" 58 y_Land_after ∧ Cond.instanceMethod y_Land_after ∈ wsG ∧ Cond.selects y_Land_after.cls y_Land_after y_Land_after ∈ wsG := ⟨mw_Land_after, Or.inl (wg 554 (by decide +kernel) rfl), (wg 555 (by decide +kernel) rfl), (wg 556 (by decide +kernel) rfl)⟩
theorem cv_Party_64 : MW y_GWL_cellOf b_GWL_cellOf 1 (some .int) 1 ∧ LK "GuideWalksLast$Party" 64 y_GWL_cellOf ∧ Cond.static y_GWL_cellOf ∈ wsG := ⟨mw_GWL_cellOf, Or.inr ⟨"GuideWalksLast", by decide +kernel⟩, (wg 559 (by decide +kernel) rfl)⟩
theorem cv_Past_17 : MW y_Party_new b_Party_new 1 none 0 ∧ LK "GuideWalksLast$Past" 17 y_Party_new ∧ Cond.instanceMethod y_Party_new ∈ wsG ∧ y_Party_new.name = "<init>" := ⟨mw_Party_new, Or.inl (wg 73 (by decide +kernel) rfl), (wg 74 (by decide +kernel) rfl), rfl⟩
theorem cv_Past_22 : MW y_Party_takeFrom b_Party_takeFrom 2 none 1 ∧ LK "GuideWalksLast$Past" 22 y_Party_takeFrom ∧ Cond.instanceMethod y_Party_takeFrom ∈ wsG ∧ Cond.selects y_Party_takeFrom.cls y_Party_takeFrom y_Party_takeFrom ∈ wsG := ⟨mw_Party_takeFrom, Or.inl (wg 539 (by decide +kernel) rfl), (wg 540 (by decide +kernel) rfl), (wg 541 (by decide +kernel) rfl)⟩
theorem mw_Prints_cellAt : MW y_Prints_cellAt b_Prints_cellAt 2 (some .int) 1 := ⟨(wg 13 (by decide +kernel) rfl), (wg 887 (by decide +kernel) rfl), ⟨by decide, by decide, by decide +kernel⟩, by decide⟩
theorem cv_Prints_33 : MW y_Prints_cellAt b_Prints_cellAt 2 (some .int) 1 ∧ LK "GuideWalksLast$Prints" 33 y_Prints_cellAt ∧ Cond.instanceMethod y_Prints_cellAt ∈ wsG ∧ Cond.selects y_Prints_cellAt.cls y_Prints_cellAt y_Prints_cellAt ∈ wsG := ⟨mw_Prints_cellAt, Or.inl (wg 884 (by decide +kernel) rfl), (wg 886 (by decide +kernel) rfl), (wp (q := (y_Prints_cellAt, 8)) (by decide +kernel) rfl)⟩
theorem mw_Prints_isStepOn : MW y_Prints_isStepOn b_Prints_isStepOn 6 (some .boolean) 2 := ⟨(wg 13 (by decide +kernel) rfl), (wg 891 (by decide +kernel) rfl), ⟨by decide, by decide, by decide +kernel⟩, by decide⟩
theorem cv_Prints_37 : MW y_Prints_isStepOn b_Prints_isStepOn 6 (some .boolean) 2 ∧ LK "GuideWalksLast$Prints" 37 y_Prints_isStepOn ∧ Cond.instanceMethod y_Prints_isStepOn ∈ wsG ∧ Cond.selects y_Prints_isStepOn.cls y_Prints_isStepOn y_Prints_isStepOn ∈ wsG := ⟨mw_Prints_isStepOn, Or.inl (wg 888 (by decide +kernel) rfl), (wg 890 (by decide +kernel) rfl), (wp (q := (y_Prints_isStepOn, 8)) (by decide +kernel) rfl)⟩
theorem cv_Prints_41 : MW y_Land_has b_Land_has 2 (some .boolean) 1 ∧ LK "GuideWalksLast$Prints" 41 y_Land_has ∧ Cond.instanceMethod y_Land_has ∈ wsG ∧ Cond.selects y_Land_has.cls y_Land_has y_Land_has ∈ wsG := ⟨mw_Land_has, Or.inl (wg 892 (by decide +kernel) rfl), (wg 493 (by decide +kernel) rfl), (wg 494 (by decide +kernel) rfl)⟩
theorem cv_Prints_57 : MW y_Land_measure b_Land_measure 3 none 0 ∧ LK "GuideWalksLast$Prints" 57 y_Land_measure ∧ Cond.instanceMethod y_Land_measure ∈ wsG ∧ Cond.selects y_Land_measure.cls y_Land_measure y_Land_measure ∈ wsG := ⟨mw_Land_measure, Or.inl (wg 906 (by decide +kernel) rfl), (wg 622 (by decide +kernel) rfl), (wg 623 (by decide +kernel) rfl)⟩
theorem mw_Prints_traceOn : MW y_Prints_traceOn b_Prints_traceOn 7 none 3 := ⟨(wg 13 (by decide +kernel) rfl), (wg 910 (by decide +kernel) rfl), ⟨by decide, by decide, by decide +kernel⟩, by decide⟩
theorem cv_Prints_60 : MW y_Prints_traceOn b_Prints_traceOn 7 none 3 ∧ LK "GuideWalksLast$Prints" 60 y_Prints_traceOn ∧ Cond.instanceMethod y_Prints_traceOn ∈ wsG ∧ Cond.selects y_Prints_traceOn.cls y_Prints_traceOn y_Prints_traceOn ∈ wsG := ⟨mw_Prints_traceOn, Or.inl (wg 907 (by decide +kernel) rfl), (wg 909 (by decide +kernel) rfl), (wp (q := (y_Prints_traceOn, 8)) (by decide +kernel) rfl)⟩
theorem mw_Prints_placeBehind : MW y_Prints_placeBehind b_Prints_placeBehind 7 (some .int) 3 := ⟨(wg 13 (by decide +kernel) rfl), (wg 914 (by decide +kernel) rfl), ⟨by decide, by decide, by decide +kernel⟩, by decide⟩
theorem cv_Prints_64 : MW y_Prints_placeBehind b_Prints_placeBehind 7 (some .int) 3 ∧ LK "GuideWalksLast$Prints" 64 y_Prints_placeBehind ∧ Cond.instanceMethod y_Prints_placeBehind ∈ wsG ∧ Cond.selects y_Prints_placeBehind.cls y_Prints_placeBehind y_Prints_placeBehind ∈ wsG := ⟨mw_Prints_placeBehind, Or.inl (wg 911 (by decide +kernel) rfl), (wg 913 (by decide +kernel) rfl), (wp (q := (y_Prints_placeBehind, 8)) (by decide +kernel) rfl)⟩
theorem mw_Prints_falseCalls : MW y_Prints_falseCalls b_Prints_falseCalls 5 (some .int) 3 := ⟨(wg 13 (by decide +kernel) rfl), (wg 921 (by decide +kernel) rfl), ⟨by decide, by decide, by decide +kernel⟩, by decide⟩
theorem cv_Prints_68 : MW y_Prints_falseCalls b_Prints_falseCalls 5 (some .int) 3 ∧ LK "GuideWalksLast$Prints" 68 y_Prints_falseCalls ∧ Cond.instanceMethod y_Prints_falseCalls ∈ wsG ∧ Cond.selects y_Prints_falseCalls.cls y_Prints_falseCalls y_Prints_falseCalls ∈ wsG := ⟨mw_Prints_falseCalls, Or.inl (wg 918 (by decide +kernel) rfl), (wg 920 (by decide +kernel) rfl), (wp (q := (y_Prints_falseCalls, 8)) (by decide +kernel) rfl)⟩
theorem cv_Prints_71 : MW y_Land_after b_Land_after 4 (some .int) 2 ∧ LK "GuideWalksLast$Prints" 71 y_Land_after ∧ Cond.instanceMethod y_Land_after ∈ wsG ∧ Cond.selects y_Land_after.cls y_Land_after y_Land_after ∈ wsG := ⟨mw_Land_after, Or.inl (wg 915 (by decide +kernel) rfl), (wg 555 (by decide +kernel) rfl), (wg 556 (by decide +kernel) rfl)⟩
theorem cv_Prints_75 : MW y_Land_endsAt b_Land_endsAt 3 (some .boolean) 1 ∧ LK "GuideWalksLast$Prints" 75 y_Land_endsAt ∧ Cond.instanceMethod y_Land_endsAt ∈ wsG ∧ Cond.selects y_Land_endsAt.cls y_Land_endsAt y_Land_endsAt ∈ wsG := ⟨mw_Land_endsAt, Or.inl (wg 916 (by decide +kernel) rfl), (wg 532 (by decide +kernel) rfl), (wg 533 (by decide +kernel) rfl)⟩
theorem cv_Prints_78 : MW y_GWL_cellOf b_GWL_cellOf 1 (some .int) 1 ∧ LK "GuideWalksLast$Prints" 78 y_GWL_cellOf ∧ Cond.static y_GWL_cellOf ∈ wsG := ⟨mw_GWL_cellOf, Or.inr ⟨"GuideWalksLast", by decide +kernel⟩, (wg 559 (by decide +kernel) rfl)⟩
theorem mw_Prints_isFalse : MW y_Prints_isFalse b_Prints_isFalse 5 (some .boolean) 2 := ⟨(wg 13 (by decide +kernel) rfl), (wg 925 (by decide +kernel) rfl), ⟨by decide, by decide, by decide +kernel⟩, by decide⟩
theorem cv_Prints_81 : MW y_Prints_isFalse b_Prints_isFalse 5 (some .boolean) 2 ∧ LK "GuideWalksLast$Prints" 81 y_Prints_isFalse ∧ Cond.instanceMethod y_Prints_isFalse ∈ wsG ∧ Cond.selects y_Prints_isFalse.cls y_Prints_isFalse y_Prints_isFalse ∈ wsG := ⟨mw_Prints_isFalse, Or.inl (wg 922 (by decide +kernel) rfl), (wg 924 (by decide +kernel) rfl), (wp (q := (y_Prints_isFalse, 8)) (by decide +kernel) rfl)⟩
theorem cv_Prints_84 : MW y_Land_stepsHome b_Land_stepsHome 2 (some .int) 1 ∧ LK "GuideWalksLast$Prints" 84 y_Land_stepsHome ∧ Cond.instanceMethod y_Land_stepsHome ∈ wsG ∧ Cond.selects y_Land_stepsHome.cls y_Land_stepsHome y_Land_stepsHome ∈ wsG := ⟨mw_Land_stepsHome, Or.inl (wg 926 (by decide +kernel) rfl), (wg 637 (by decide +kernel) rfl), (wg 638 (by decide +kernel) rfl)⟩
theorem cv_Prints_87 : MW y_GWL_tenthsOf b_GWL_tenthsOf 2 (some .int) 2 ∧ LK "GuideWalksLast$Prints" 87 y_GWL_tenthsOf ∧ Cond.static y_GWL_tenthsOf ∈ wsG := ⟨mw_GWL_tenthsOf, Or.inr ⟨"GuideWalksLast", by decide +kernel⟩, (wg 575 (by decide +kernel) rfl)⟩
theorem cv_Prints_91 : MW y_Prints_fewestFalse b_Prints_fewestFalse 1 (some .int) 0 ∧ LK "GuideWalksLast$Prints" 91 y_Prints_fewestFalse ∧ Cond.instanceMethod y_Prints_fewestFalse ∈ wsG ∧ Cond.selects y_Prints_fewestFalse.cls y_Prints_fewestFalse y_Prints_fewestFalse ∈ wsG := ⟨mw_Prints_fewestFalse, Or.inl (wg 932 (by decide +kernel) rfl), (wg 933 (by decide +kernel) rfl), (wg 934 (by decide +kernel) rfl)⟩
theorem mw_Prints_leastTurn : MW y_Prints_leastTurn b_Prints_leastTurn 6 (some .int) 2 := ⟨(wg 13 (by decide +kernel) rfl), (wg 939 (by decide +kernel) rfl), ⟨by decide, by decide, by decide +kernel⟩, by decide⟩
theorem cv_Prints_95 : MW y_Prints_leastTurn b_Prints_leastTurn 6 (some .int) 2 ∧ LK "GuideWalksLast$Prints" 95 y_Prints_leastTurn ∧ Cond.instanceMethod y_Prints_leastTurn ∈ wsG ∧ Cond.selects y_Prints_leastTurn.cls y_Prints_leastTurn y_Prints_leastTurn ∈ wsG := ⟨mw_Prints_leastTurn, Or.inl (wg 936 (by decide +kernel) rfl), (wg 938 (by decide +kernel) rfl), (wp (q := (y_Prints_leastTurn, 8)) (by decide +kernel) rfl)⟩
theorem cv_Prints_98 : MW y_Numbers_add b_Numbers_add 3 none 1 ∧ LK "GuideWalksLast$Prints" 98 y_Numbers_add ∧ Cond.instanceMethod y_Numbers_add ∈ wsG ∧ Cond.selects y_Numbers_add.cls y_Numbers_add y_Numbers_add ∈ wsG := ⟨mw_Numbers_add, Or.inl (wg 940 (by decide +kernel) rfl), (wg 582 (by decide +kernel) rfl), (wg 583 (by decide +kernel) rfl)⟩
theorem cv_Spread_18 : MW y_JArr_fill b_JArr_fill 4 none 2 ∧ LK "GuideWalksLast$Spread" 18 y_JArr_fill ∧ Cond.static y_JArr_fill ∈ wsG := ⟨mw_JArr_fill, Or.inl (wg 650 (by decide +kernel) rfl), (wg 78 (by decide +kernel) rfl)⟩
theorem mw_Spread_find : MW y_Spread_find b_Spread_find 3 none 2 := ⟨(wg 8 (by decide +kernel) rfl), (wg 654 (by decide +kernel) rfl), ⟨by decide, by decide, by decide +kernel⟩, by decide⟩
theorem cv_Spread_28 : MW y_Spread_find b_Spread_find 3 none 2 ∧ LK "GuideWalksLast$Spread" 28 y_Spread_find ∧ Cond.instanceMethod y_Spread_find ∈ wsG ∧ Cond.selects y_Spread_find.cls y_Spread_find y_Spread_find ∈ wsG := ⟨mw_Spread_find, Or.inl (wg 651 (by decide +kernel) rfl), (wg 653 (by decide +kernel) rfl), (wp (q := (y_Spread_find, 3)) (by decide +kernel) rfl)⟩
theorem mw_Spread_depthOf : MW y_Spread_depthOf b_Spread_depthOf 2 (some .int) 1 := ⟨(wg 8 (by decide +kernel) rfl), (wg 658 (by decide +kernel) rfl), ⟨by decide, by decide, by decide +kernel⟩, by decide⟩
theorem cv_Spread_32 : MW y_Spread_depthOf b_Spread_depthOf 2 (some .int) 1 ∧ LK "GuideWalksLast$Spread" 32 y_Spread_depthOf ∧ Cond.instanceMethod y_Spread_depthOf ∈ wsG ∧ Cond.selects y_Spread_depthOf.cls y_Spread_depthOf y_Spread_depthOf ∈ wsG := ⟨mw_Spread_depthOf, Or.inl (wg 655 (by decide +kernel) rfl), (wg 657 (by decide +kernel) rfl), (wp (q := (y_Spread_depthOf, 3)) (by decide +kernel) rfl)⟩
theorem cv_Spread_36 : MW y_GWL_cellOf b_GWL_cellOf 1 (some .int) 1 ∧ LK "GuideWalksLast$Spread" 36 y_GWL_cellOf ∧ Cond.static y_GWL_cellOf ∈ wsG := ⟨mw_GWL_cellOf, Or.inr ⟨"GuideWalksLast", by decide +kernel⟩, (wg 559 (by decide +kernel) rfl)⟩
theorem cv_Spread_39 : MW y_Land_endsAt b_Land_endsAt 3 (some .boolean) 1 ∧ LK "GuideWalksLast$Spread" 39 y_Land_endsAt ∧ Cond.instanceMethod y_Land_endsAt ∈ wsG ∧ Cond.selects y_Land_endsAt.cls y_Land_endsAt y_Land_endsAt ∈ wsG := ⟨mw_Land_endsAt, Or.inl (wg 660 (by decide +kernel) rfl), (wg 532 (by decide +kernel) rfl), (wg 533 (by decide +kernel) rfl)⟩
theorem cv_Spread_45 : MW y_Land_after b_Land_after 4 (some .int) 2 ∧ LK "GuideWalksLast$Spread" 45 y_Land_after ∧ Cond.instanceMethod y_Land_after ∈ wsG ∧ Cond.selects y_Land_after.cls y_Land_after y_Land_after ∈ wsG := ⟨mw_Land_after, Or.inl (wg 661 (by decide +kernel) rfl), (wg 555 (by decide +kernel) rfl), (wg 556 (by decide +kernel) rfl)⟩
theorem cv_Trail_30 : MW y_Party_trackFrom b_Party_trackFrom 2 (some .int) 1 ∧ LK "GuideWalksLast$Trail" 30 y_Party_trackFrom ∧ Cond.instanceMethod y_Party_trackFrom ∈ wsG ∧ Cond.selects y_Party_trackFrom.cls y_Party_trackFrom y_Party_trackFrom ∈ wsG := ⟨mw_Party_trackFrom, Or.inl (wg 843 (by decide +kernel) rfl), (wg 828 (by decide +kernel) rfl), (wg 829 (by decide +kernel) rfl)⟩
theorem cv_Trail_36 : MW y_Trail_runFrom b_Trail_runFrom 5 none 1 ∧ LK "GuideWalksLast$Trail" 36 y_Trail_runFrom ∧ Cond.instanceMethod y_Trail_runFrom ∈ wsG ∧ Cond.selects y_Trail_runFrom.cls y_Trail_runFrom y_Trail_runFrom ∈ wsG := ⟨mw_Trail_runFrom, Or.inl (wg 853 (by decide +kernel) rfl), (wg 840 (by decide +kernel) rfl), (wg 841 (by decide +kernel) rfl)⟩
theorem cv_Trail_40 : MW y_Land_kindOf b_Land_kindOf 2 (some .int) 1 ∧ LK "GuideWalksLast$Trail" 40 y_Land_kindOf ∧ Cond.instanceMethod y_Land_kindOf ∈ wsG ∧ Cond.selects y_Land_kindOf.cls y_Land_kindOf y_Land_kindOf ∈ wsG := ⟨mw_Land_kindOf, Or.inl (wg 854 (by decide +kernel) rfl), (wg 430 (by decide +kernel) rfl), (wg 431 (by decide +kernel) rfl)⟩
theorem mw_GWL_sign : MW y_GWL_sign b_GWL_sign 2 (some .int) 1 := ⟨(wg 1 (by decide +kernel) rfl), (wg 381 (by decide +kernel) rfl), ⟨by decide, by decide, by decide +kernel⟩, by decide⟩
theorem cv_Law_19 : MW y_GWL_sign b_GWL_sign 2 (some .int) 1 ∧ LK "GuideWalksLastLaw" 19 y_GWL_sign ∧ Cond.instanceMethod y_GWL_sign ∈ wsG ∧ Cond.selects y_GWL_sign.cls y_GWL_sign y_GWL_sign ∈ wsG := ⟨mw_GWL_sign, Or.inl (wg 378 (by decide +kernel) rfl), (wg 379 (by decide +kernel) rfl), (wg 380 (by decide +kernel) rfl)⟩
theorem mw_Mod_sign : MW y_Mod_sign b_Mod_sign 3 (some .int) 1 := ⟨(wg 14 (by decide +kernel) rfl), (wg 1264 (by decide +kernel) rfl), ⟨by decide, by decide, by decide +kernel⟩, by decide⟩
theorem cv_Law_23 : MW y_Mod_sign b_Mod_sign 3 (some .int) 1 ∧ LK "GuideWalksLastLaw" 23 y_Mod_sign ∧ Cond.instanceMethod y_Mod_sign ∈ wsG ∧ Cond.selects y_Mod_sign.cls y_Mod_sign y_Mod_sign ∈ wsG := ⟨mw_Mod_sign, Or.inl (wg 1261 (by decide +kernel) rfl), (wg 1262 (by decide +kernel) rfl), (wg 1263 (by decide +kernel) rfl)⟩
theorem mw_GWL_end : MW y_GWL_end b_GWL_end 2 (some .boolean) 1 := ⟨(wg 1 (by decide +kernel) rfl), (wg 393 (by decide +kernel) rfl), ⟨by decide, by decide, by decide +kernel⟩, by decide⟩
theorem cv_Law_24 : MW y_GWL_end b_GWL_end 2 (some .boolean) 1 ∧ LK "GuideWalksLastLaw" 24 y_GWL_end ∧ Cond.instanceMethod y_GWL_end ∈ wsG ∧ Cond.selects y_GWL_end.cls y_GWL_end y_GWL_end ∈ wsG := ⟨mw_GWL_end, Or.inl (wg 390 (by decide +kernel) rfl), (wg 391 (by decide +kernel) rfl), (wg 392 (by decide +kernel) rfl)⟩
theorem mw_Mod_end : MW y_Mod_end b_Mod_end 2 (some .boolean) 1 := ⟨(wg 14 (by decide +kernel) rfl), (wg 1268 (by decide +kernel) rfl), ⟨by decide, by decide, by decide +kernel⟩, by decide⟩
theorem cv_Law_28 : MW y_Mod_end b_Mod_end 2 (some .boolean) 1 ∧ LK "GuideWalksLastLaw" 28 y_Mod_end ∧ Cond.instanceMethod y_Mod_end ∈ wsG ∧ Cond.selects y_Mod_end.cls y_Mod_end y_Mod_end ∈ wsG := ⟨mw_Mod_end, Or.inl (wg 1265 (by decide +kernel) rfl), (wg 1266 (by decide +kernel) rfl), (wg 1267 (by decide +kernel) rfl)⟩
theorem mw_GWL_moor : MW y_GWL_moor b_GWL_moor 2 (some .int) 0 := ⟨(wg 1 (by decide +kernel) rfl), (wg 401 (by decide +kernel) rfl), ⟨by decide, by decide, by decide +kernel⟩, by decide⟩
theorem cv_Law_29 : MW y_GWL_moor b_GWL_moor 2 (some .int) 0 ∧ LK "GuideWalksLastLaw" 29 y_GWL_moor ∧ Cond.instanceMethod y_GWL_moor ∈ wsG ∧ Cond.selects y_GWL_moor.cls y_GWL_moor y_GWL_moor ∈ wsG := ⟨mw_GWL_moor, Or.inl (wg 398 (by decide +kernel) rfl), (wg 399 (by decide +kernel) rfl), (wg 400 (by decide +kernel) rfl)⟩
theorem mw_Mod_moor : MW y_Mod_moor b_Mod_moor 8 (some .int) 0 := ⟨(wg 14 (by decide +kernel) rfl), (wg 1275 (by decide +kernel) rfl), ⟨by decide, by decide, by decide +kernel⟩, by decide⟩
theorem cv_Law_33 : MW y_Mod_moor b_Mod_moor 8 (some .int) 0 ∧ LK "GuideWalksLastLaw" 33 y_Mod_moor ∧ Cond.instanceMethod y_Mod_moor ∈ wsG ∧ Cond.selects y_Mod_moor.cls y_Mod_moor y_Mod_moor ∈ wsG := ⟨mw_Mod_moor, Or.inl (wg 1272 (by decide +kernel) rfl), (wg 1273 (by decide +kernel) rfl), (wg 1274 (by decide +kernel) rfl)⟩
theorem mw_GWL_fee : MW y_GWL_fee b_GWL_fee 2 (some .int) 0 := ⟨(wg 1 (by decide +kernel) rfl), (wg 461 (by decide +kernel) rfl), ⟨by decide, by decide, by decide +kernel⟩, by decide⟩
theorem cv_Law_34 : MW y_GWL_fee b_GWL_fee 2 (some .int) 0 ∧ LK "GuideWalksLastLaw" 34 y_GWL_fee ∧ Cond.instanceMethod y_GWL_fee ∈ wsG ∧ Cond.selects y_GWL_fee.cls y_GWL_fee y_GWL_fee ∈ wsG := ⟨mw_GWL_fee, Or.inl (wg 458 (by decide +kernel) rfl), (wg 459 (by decide +kernel) rfl), (wg 460 (by decide +kernel) rfl)⟩
theorem mw_Mod_fee : MW y_Mod_fee b_Mod_fee 6 (some .int) 0 := ⟨(wg 14 (by decide +kernel) rfl), (wg 1345 (by decide +kernel) rfl), ⟨by decide, by decide, by decide +kernel⟩, by decide⟩
theorem cv_Law_37 : MW y_Mod_fee b_Mod_fee 6 (some .int) 0 ∧ LK "GuideWalksLastLaw" 37 y_Mod_fee ∧ Cond.instanceMethod y_Mod_fee ∈ wsG ∧ Cond.selects y_Mod_fee.cls y_Mod_fee y_Mod_fee ∈ wsG := ⟨mw_Mod_fee, Or.inl (wg 1342 (by decide +kernel) rfl), (wg 1343 (by decide +kernel) rfl), (wg 1344 (by decide +kernel) rfl)⟩
theorem mw_GWL_cell : MW y_GWL_cell b_GWL_cell 2 (some .int) 1 := ⟨(wg 1 (by decide +kernel) rfl), (wg 486 (by decide +kernel) rfl), ⟨by decide, by decide, by decide +kernel⟩, by decide⟩
theorem cv_Law_38 : MW y_GWL_cell b_GWL_cell 2 (some .int) 1 ∧ LK "GuideWalksLastLaw" 38 y_GWL_cell ∧ Cond.instanceMethod y_GWL_cell ∈ wsG ∧ Cond.selects y_GWL_cell.cls y_GWL_cell y_GWL_cell ∈ wsG := ⟨mw_GWL_cell, Or.inl (wg 483 (by decide +kernel) rfl), (wg 484 (by decide +kernel) rfl), (wg 485 (by decide +kernel) rfl)⟩
theorem mw_Mod_cell : MW y_Mod_cell b_Mod_cell 2 (some .int) 1 := ⟨(wg 14 (by decide +kernel) rfl), (wg 1364 (by decide +kernel) rfl), ⟨by decide, by decide, by decide +kernel⟩, by decide⟩
theorem cv_Law_41 : MW y_Mod_cell b_Mod_cell 2 (some .int) 1 ∧ LK "GuideWalksLastLaw" 41 y_Mod_cell ∧ Cond.instanceMethod y_Mod_cell ∈ wsG ∧ Cond.selects y_Mod_cell.cls y_Mod_cell y_Mod_cell ∈ wsG := ⟨mw_Mod_cell, Or.inl (wg 1361 (by decide +kernel) rfl), (wg 1362 (by decide +kernel) rfl), (wg 1363 (by decide +kernel) rfl)⟩
theorem mw_GWL_put : MW y_GWL_put b_GWL_put 4 (some .int) 2 := ⟨(wg 1 (by decide +kernel) rfl), (wg 491 (by decide +kernel) rfl), ⟨by decide, by decide, by decide +kernel⟩, by decide⟩
theorem cv_Law_42 : MW y_GWL_put b_GWL_put 4 (some .int) 2 ∧ LK "GuideWalksLastLaw" 42 y_GWL_put ∧ Cond.instanceMethod y_GWL_put ∈ wsG ∧ Cond.selects y_GWL_put.cls y_GWL_put y_GWL_put ∈ wsG := ⟨mw_GWL_put, Or.inl (wg 488 (by decide +kernel) rfl), (wg 489 (by decide +kernel) rfl), (wg 490 (by decide +kernel) rfl)⟩
theorem mw_Mod_put : MW y_Mod_put b_Mod_put 4 (some .int) 2 := ⟨(wg 14 (by decide +kernel) rfl), (wg 1376 (by decide +kernel) rfl), ⟨by decide, by decide, by decide +kernel⟩, by decide⟩
theorem cv_Law_46 : MW y_Mod_put b_Mod_put 4 (some .int) 2 ∧ LK "GuideWalksLastLaw" 46 y_Mod_put ∧ Cond.instanceMethod y_Mod_put ∈ wsG ∧ Cond.selects y_Mod_put.cls y_Mod_put y_Mod_put ∈ wsG := ⟨mw_Mod_put, Or.inl (wg 1373 (by decide +kernel) rfl), (wg 1374 (by decide +kernel) rfl), (wg 1375 (by decide +kernel) rfl)⟩
theorem mw_GWL_go : MW y_GWL_go b_GWL_go 3 (some .boolean) 2 := ⟨(wg 1 (by decide +kernel) rfl), (wg 503 (by decide +kernel) rfl), ⟨by decide, by decide, by decide +kernel⟩, by decide⟩
theorem cv_Law_47 : MW y_GWL_go b_GWL_go 3 (some .boolean) 2 ∧ LK "GuideWalksLastLaw" 47 y_GWL_go ∧ Cond.instanceMethod y_GWL_go ∈ wsG ∧ Cond.selects y_GWL_go.cls y_GWL_go y_GWL_go ∈ wsG := ⟨mw_GWL_go, Or.inl (wg 500 (by decide +kernel) rfl), (wg 501 (by decide +kernel) rfl), (wg 502 (by decide +kernel) rfl)⟩
theorem mw_Mod_go : MW y_Mod_go b_Mod_go 3 (some .boolean) 2 := ⟨(wg 14 (by decide +kernel) rfl), (wg 1381 (by decide +kernel) rfl), ⟨by decide, by decide, by decide +kernel⟩, by decide⟩
theorem cv_Law_51 : MW y_Mod_go b_Mod_go 3 (some .boolean) 2 ∧ LK "GuideWalksLastLaw" 51 y_Mod_go ∧ Cond.instanceMethod y_Mod_go ∈ wsG ∧ Cond.selects y_Mod_go.cls y_Mod_go y_Mod_go ∈ wsG := ⟨mw_Mod_go, Or.inl (wg 1378 (by decide +kernel) rfl), (wg 1379 (by decide +kernel) rfl), (wg 1380 (by decide +kernel) rfl)⟩
theorem mw_GWL_weights : MW y_GWL_weights b_GWL_weights 3 (some .boolean) 2 := ⟨(wg 1 (by decide +kernel) rfl), (wg 507 (by decide +kernel) rfl), ⟨by decide, by decide, by decide +kernel⟩, by decide⟩
theorem cv_Law_52 : MW y_GWL_weights b_GWL_weights 3 (some .boolean) 2 ∧ LK "GuideWalksLastLaw" 52 y_GWL_weights ∧ Cond.instanceMethod y_GWL_weights ∈ wsG ∧ Cond.selects y_GWL_weights.cls y_GWL_weights y_GWL_weights ∈ wsG := ⟨mw_GWL_weights, Or.inl (wg 504 (by decide +kernel) rfl), (wg 505 (by decide +kernel) rfl), (wg 506 (by decide +kernel) rfl)⟩
theorem mw_Mod_weights : MW y_Mod_weights b_Mod_weights 3 (some .boolean) 2 := ⟨(wg 14 (by decide +kernel) rfl), (wg 1385 (by decide +kernel) rfl), ⟨by decide, by decide, by decide +kernel⟩, by decide⟩
theorem cv_Law_55 : MW y_Mod_weights b_Mod_weights 3 (some .boolean) 2 ∧ LK "GuideWalksLastLaw" 55 y_Mod_weights ∧ Cond.instanceMethod y_Mod_weights ∈ wsG ∧ Cond.selects y_Mod_weights.cls y_Mod_weights y_Mod_weights ∈ wsG := ⟨mw_Mod_weights, Or.inl (wg 1382 (by decide +kernel) rfl), (wg 1383 (by decide +kernel) rfl), (wg 1384 (by decide +kernel) rfl)⟩
theorem mw_GWL_set : MW y_GWL_set b_GWL_set 4 (some .int) 2 := ⟨(wg 1 (by decide +kernel) rfl), (wg 511 (by decide +kernel) rfl), ⟨by decide, by decide, by decide +kernel⟩, by decide⟩
theorem cv_Law_56 : MW y_GWL_set b_GWL_set 4 (some .int) 2 ∧ LK "GuideWalksLastLaw" 56 y_GWL_set ∧ Cond.instanceMethod y_GWL_set ∈ wsG ∧ Cond.selects y_GWL_set.cls y_GWL_set y_GWL_set ∈ wsG := ⟨mw_GWL_set, Or.inl (wg 508 (by decide +kernel) rfl), (wg 509 (by decide +kernel) rfl), (wg 510 (by decide +kernel) rfl)⟩
theorem mw_Mod_set : MW y_Mod_set b_Mod_set 4 (some .int) 2 := ⟨(wg 14 (by decide +kernel) rfl), (wg 1390 (by decide +kernel) rfl), ⟨by decide, by decide, by decide +kernel⟩, by decide⟩
theorem cv_Law_59 : MW y_Mod_set b_Mod_set 4 (some .int) 2 ∧ LK "GuideWalksLastLaw" 59 y_Mod_set ∧ Cond.instanceMethod y_Mod_set ∈ wsG ∧ Cond.selects y_Mod_set.cls y_Mod_set y_Mod_set ∈ wsG := ⟨mw_Mod_set, Or.inl (wg 1387 (by decide +kernel) rfl), (wg 1388 (by decide +kernel) rfl), (wg 1389 (by decide +kernel) rfl)⟩
theorem mw_GWL_sheet : MW y_GWL_sheet b_GWL_sheet 7 (some .int) 4 := ⟨(wg 1 (by decide +kernel) rfl), (wg 515 (by decide +kernel) rfl), ⟨by decide, by decide, by decide +kernel⟩, by decide⟩
theorem cv_Law_60 : MW y_GWL_sheet b_GWL_sheet 7 (some .int) 4 ∧ LK "GuideWalksLastLaw" 60 y_GWL_sheet ∧ Cond.instanceMethod y_GWL_sheet ∈ wsG ∧ Cond.selects y_GWL_sheet.cls y_GWL_sheet y_GWL_sheet ∈ wsG := ⟨mw_GWL_sheet, Or.inl (wg 512 (by decide +kernel) rfl), (wg 513 (by decide +kernel) rfl), (wg 514 (by decide +kernel) rfl)⟩
theorem mw_Mod_sheet : MW y_Mod_sheet b_Mod_sheet 9 (some .int) 4 := ⟨(wg 14 (by decide +kernel) rfl), (wg 1395 (by decide +kernel) rfl), ⟨by decide, by decide, by decide +kernel⟩, by decide⟩
theorem cv_Law_64 : MW y_Mod_sheet b_Mod_sheet 9 (some .int) 4 ∧ LK "GuideWalksLastLaw" 64 y_Mod_sheet ∧ Cond.instanceMethod y_Mod_sheet ∈ wsG ∧ Cond.selects y_Mod_sheet.cls y_Mod_sheet y_Mod_sheet ∈ wsG := ⟨mw_Mod_sheet, Or.inl (wg 1392 (by decide +kernel) rfl), (wg 1393 (by decide +kernel) rfl), (wg 1394 (by decide +kernel) rfl)⟩
theorem mw_GWL_step : MW y_GWL_step b_GWL_step 2 (some .int) 1 := ⟨(wg 1 (by decide +kernel) rfl), (wg 523 (by decide +kernel) rfl), ⟨by decide, by decide, by decide +kernel⟩, by decide⟩
theorem cv_Law_65 : MW y_GWL_step b_GWL_step 2 (some .int) 1 ∧ LK "GuideWalksLastLaw" 65 y_GWL_step ∧ Cond.instanceMethod y_GWL_step ∈ wsG ∧ Cond.selects y_GWL_step.cls y_GWL_step y_GWL_step ∈ wsG := ⟨mw_GWL_step, Or.inl (wg 520 (by decide +kernel) rfl), (wg 521 (by decide +kernel) rfl), (wg 522 (by decide +kernel) rfl)⟩
theorem mw_Mod_step : MW y_Mod_step b_Mod_step 2 (some .int) 1 := ⟨(wg 14 (by decide +kernel) rfl), (wg 1399 (by decide +kernel) rfl), ⟨by decide, by decide, by decide +kernel⟩, by decide⟩
theorem cv_Law_68 : MW y_Mod_step b_Mod_step 2 (some .int) 1 ∧ LK "GuideWalksLastLaw" 68 y_Mod_step ∧ Cond.instanceMethod y_Mod_step ∈ wsG ∧ Cond.selects y_Mod_step.cls y_Mod_step y_Mod_step ∈ wsG := ⟨mw_Mod_step, Or.inl (wg 1396 (by decide +kernel) rfl), (wg 1397 (by decide +kernel) rfl), (wg 1398 (by decide +kernel) rfl)⟩
theorem mw_GWL_alone : MW y_GWL_alone b_GWL_alone 2 (some .int) 0 := ⟨(wg 1 (by decide +kernel) rfl), (wg 564 (by decide +kernel) rfl), ⟨by decide, by decide, by decide +kernel⟩, by decide⟩
theorem cv_Law_69 : MW y_GWL_alone b_GWL_alone 2 (some .int) 0 ∧ LK "GuideWalksLastLaw" 69 y_GWL_alone ∧ Cond.instanceMethod y_GWL_alone ∈ wsG ∧ Cond.selects y_GWL_alone.cls y_GWL_alone y_GWL_alone ∈ wsG := ⟨mw_GWL_alone, Or.inl (wg 561 (by decide +kernel) rfl), (wg 562 (by decide +kernel) rfl), (wg 563 (by decide +kernel) rfl)⟩
theorem mw_Mod_alone : MW y_Mod_alone b_Mod_alone 2 (some .int) 0 := ⟨(wg 14 (by decide +kernel) rfl), (wg 1430 (by decide +kernel) rfl), ⟨by decide, by decide, by decide +kernel⟩, by decide⟩
theorem cv_Law_72 : MW y_Mod_alone b_Mod_alone 2 (some .int) 0 ∧ LK "GuideWalksLastLaw" 72 y_Mod_alone ∧ Cond.instanceMethod y_Mod_alone ∈ wsG ∧ Cond.selects y_Mod_alone.cls y_Mod_alone y_Mod_alone ∈ wsG := ⟨mw_Mod_alone, Or.inl (wg 1427 (by decide +kernel) rfl), (wg 1428 (by decide +kernel) rfl), (wg 1429 (by decide +kernel) rfl)⟩
theorem mw_GWL_ask : MW y_GWL_ask b_GWL_ask 4 (some .int) 1 := ⟨(wg 1 (by decide +kernel) rfl), (wg 588 (by decide +kernel) rfl), ⟨by decide, by decide, by decide +kernel⟩, by decide⟩
theorem cv_Law_73 : MW y_GWL_ask b_GWL_ask 4 (some .int) 1 ∧ LK "GuideWalksLastLaw" 73 y_GWL_ask ∧ Cond.instanceMethod y_GWL_ask ∈ wsG ∧ Cond.selects y_GWL_ask.cls y_GWL_ask y_GWL_ask ∈ wsG := ⟨mw_GWL_ask, Or.inl (wg 585 (by decide +kernel) rfl), (wg 586 (by decide +kernel) rfl), (wg 587 (by decide +kernel) rfl)⟩
theorem mw_Mod_ask : MW y_Mod_ask b_Mod_ask 4 (some .int) 1 := ⟨(wg 14 (by decide +kernel) rfl), (wg 1447 (by decide +kernel) rfl), ⟨by decide, by decide, by decide +kernel⟩, by decide⟩
theorem cv_Law_76 : MW y_Mod_ask b_Mod_ask 4 (some .int) 1 ∧ LK "GuideWalksLastLaw" 76 y_Mod_ask ∧ Cond.instanceMethod y_Mod_ask ∈ wsG ∧ Cond.selects y_Mod_ask.cls y_Mod_ask y_Mod_ask ∈ wsG := ⟨mw_Mod_ask, Or.inl (wg 1444 (by decide +kernel) rfl), (wg 1445 (by decide +kernel) rfl), (wg 1446 (by decide +kernel) rfl)⟩
theorem mw_GWL_undo : MW y_GWL_undo b_GWL_undo 1 (some .int) 0 := ⟨(wg 1 (by decide +kernel) rfl), (wg 593 (by decide +kernel) rfl), ⟨by decide, by decide, by decide +kernel⟩, by decide⟩
theorem cv_Law_77 : MW y_GWL_undo b_GWL_undo 1 (some .int) 0 ∧ LK "GuideWalksLastLaw" 77 y_GWL_undo ∧ Cond.instanceMethod y_GWL_undo ∈ wsG ∧ Cond.selects y_GWL_undo.cls y_GWL_undo y_GWL_undo ∈ wsG := ⟨mw_GWL_undo, Or.inl (wg 590 (by decide +kernel) rfl), (wg 591 (by decide +kernel) rfl), (wg 592 (by decide +kernel) rfl)⟩
theorem mw_Mod_undo : MW y_Mod_undo b_Mod_undo 1 (some .int) 0 := ⟨(wg 14 (by decide +kernel) rfl), (wg 1451 (by decide +kernel) rfl), ⟨by decide, by decide, by decide +kernel⟩, by decide⟩
theorem cv_Law_80 : MW y_Mod_undo b_Mod_undo 1 (some .int) 0 ∧ LK "GuideWalksLastLaw" 80 y_Mod_undo ∧ Cond.instanceMethod y_Mod_undo ∈ wsG ∧ Cond.selects y_Mod_undo.cls y_Mod_undo y_Mod_undo ∈ wsG := ⟨mw_Mod_undo, Or.inl (wg 1448 (by decide +kernel) rfl), (wg 1449 (by decide +kernel) rfl), (wg 1450 (by decide +kernel) rfl)⟩
theorem mw_GWL_look : MW y_GWL_look b_GWL_look 5 (some .int) 0 := ⟨(wg 1 (by decide +kernel) rfl), (wg 601 (by decide +kernel) rfl), ⟨by decide, by decide, by decide +kernel⟩, by decide⟩
theorem cv_Law_81 : MW y_GWL_look b_GWL_look 5 (some .int) 0 ∧ LK "GuideWalksLastLaw" 81 y_GWL_look ∧ Cond.instanceMethod y_GWL_look ∈ wsG ∧ Cond.selects y_GWL_look.cls y_GWL_look y_GWL_look ∈ wsG := ⟨mw_GWL_look, Or.inl (wg 598 (by decide +kernel) rfl), (wg 599 (by decide +kernel) rfl), (wg 600 (by decide +kernel) rfl)⟩
theorem mw_Mod_look : MW y_Mod_look b_Mod_look 6 (some .int) 0 := ⟨(wg 14 (by decide +kernel) rfl), (wg 1459 (by decide +kernel) rfl), ⟨by decide, by decide, by decide +kernel⟩, by decide⟩
theorem cv_Law_84 : MW y_Mod_look b_Mod_look 6 (some .int) 0 ∧ LK "GuideWalksLastLaw" 84 y_Mod_look ∧ Cond.instanceMethod y_Mod_look ∈ wsG ∧ Cond.selects y_Mod_look.cls y_Mod_look y_Mod_look ∈ wsG := ⟨mw_Mod_look, Or.inl (wg 1456 (by decide +kernel) rfl), (wg 1457 (by decide +kernel) rfl), (wg 1458 (by decide +kernel) rfl)⟩
theorem mw_GWL_way : MW y_GWL_way b_GWL_way 5 (some .int) 0 := ⟨(wg 1 (by decide +kernel) rfl), (wg 620 (by decide +kernel) rfl), ⟨by decide, by decide, by decide +kernel⟩, by decide⟩
theorem cv_Law_85 : MW y_GWL_way b_GWL_way 5 (some .int) 0 ∧ LK "GuideWalksLastLaw" 85 y_GWL_way ∧ Cond.instanceMethod y_GWL_way ∈ wsG ∧ Cond.selects y_GWL_way.cls y_GWL_way y_GWL_way ∈ wsG := ⟨mw_GWL_way, Or.inl (wg 617 (by decide +kernel) rfl), (wg 618 (by decide +kernel) rfl), (wg 619 (by decide +kernel) rfl)⟩
theorem mw_Mod_way : MW y_Mod_way b_Mod_way 6 (some .int) 0 := ⟨(wg 14 (by decide +kernel) rfl), (wg 1467 (by decide +kernel) rfl), ⟨by decide, by decide, by decide +kernel⟩, by decide⟩
theorem cv_Law_88 : MW y_Mod_way b_Mod_way 6 (some .int) 0 ∧ LK "GuideWalksLastLaw" 88 y_Mod_way ∧ Cond.instanceMethod y_Mod_way ∈ wsG ∧ Cond.selects y_Mod_way.cls y_Mod_way y_Mod_way ∈ wsG := ⟨mw_Mod_way, Or.inl (wg 1464 (by decide +kernel) rfl), (wg 1465 (by decide +kernel) rfl), (wg 1466 (by decide +kernel) rfl)⟩
theorem mw_GWL_reach : MW y_GWL_reach b_GWL_reach 1 (some .int) 0 := ⟨(wg 1 (by decide +kernel) rfl), (wg 645 (by decide +kernel) rfl), ⟨by decide, by decide, by decide +kernel⟩, by decide⟩
theorem cv_Law_89 : MW y_GWL_reach b_GWL_reach 1 (some .int) 0 ∧ LK "GuideWalksLastLaw" 89 y_GWL_reach ∧ Cond.instanceMethod y_GWL_reach ∈ wsG ∧ Cond.selects y_GWL_reach.cls y_GWL_reach y_GWL_reach ∈ wsG := ⟨mw_GWL_reach, Or.inl (wg 642 (by decide +kernel) rfl), (wg 643 (by decide +kernel) rfl), (wg 644 (by decide +kernel) rfl)⟩
theorem mw_Mod_reach : MW y_Mod_reach b_Mod_reach 2 (some .int) 0 := ⟨(wg 14 (by decide +kernel) rfl), (wg 1480 (by decide +kernel) rfl), ⟨by decide, by decide, by decide +kernel⟩, by decide⟩
theorem cv_Law_92 : MW y_Mod_reach b_Mod_reach 2 (some .int) 0 ∧ LK "GuideWalksLastLaw" 92 y_Mod_reach ∧ Cond.instanceMethod y_Mod_reach ∈ wsG ∧ Cond.selects y_Mod_reach.cls y_Mod_reach y_Mod_reach ∈ wsG := ⟨mw_Mod_reach, Or.inl (wg 1477 (by decide +kernel) rfl), (wg 1478 (by decide +kernel) rfl), (wg 1479 (by decide +kernel) rfl)⟩
theorem mw_GWL_never : MW y_GWL_never b_GWL_never 2 (some .int) 1 := ⟨(wg 1 (by decide +kernel) rfl), (wg 680 (by decide +kernel) rfl), ⟨by decide, by decide, by decide +kernel⟩, by decide⟩
theorem cv_Law_93 : MW y_GWL_never b_GWL_never 2 (some .int) 1 ∧ LK "GuideWalksLastLaw" 93 y_GWL_never ∧ Cond.instanceMethod y_GWL_never ∈ wsG ∧ Cond.selects y_GWL_never.cls y_GWL_never y_GWL_never ∈ wsG := ⟨mw_GWL_never, Or.inl (wg 677 (by decide +kernel) rfl), (wg 678 (by decide +kernel) rfl), (wg 679 (by decide +kernel) rfl)⟩
theorem mw_Mod_never : MW y_Mod_never b_Mod_never 4 (some .int) 1 := ⟨(wg 14 (by decide +kernel) rfl), (wg 1496 (by decide +kernel) rfl), ⟨by decide, by decide, by decide +kernel⟩, by decide⟩
theorem cv_Law_96 : MW y_Mod_never b_Mod_never 4 (some .int) 1 ∧ LK "GuideWalksLastLaw" 96 y_Mod_never ∧ Cond.instanceMethod y_Mod_never ∈ wsG ∧ Cond.selects y_Mod_never.cls y_Mod_never y_Mod_never ∈ wsG := ⟨mw_Mod_never, Or.inl (wg 1493 (by decide +kernel) rfl), (wg 1494 (by decide +kernel) rfl), (wg 1495 (by decide +kernel) rfl)⟩
theorem mw_GWL_best : MW y_GWL_best b_GWL_best 2 (some .int) 1 := ⟨(wg 1 (by decide +kernel) rfl), (wg 755 (by decide +kernel) rfl), ⟨by decide, by decide, by decide +kernel⟩, by decide⟩
theorem cv_Law_97 : MW y_GWL_best b_GWL_best 2 (some .int) 1 ∧ LK "GuideWalksLastLaw" 97 y_GWL_best ∧ Cond.instanceMethod y_GWL_best ∈ wsG ∧ Cond.selects y_GWL_best.cls y_GWL_best y_GWL_best ∈ wsG := ⟨mw_GWL_best, Or.inl (wg 752 (by decide +kernel) rfl), (wg 753 (by decide +kernel) rfl), (wg 754 (by decide +kernel) rfl)⟩
theorem mw_Mod_best : MW y_Mod_best b_Mod_best 2 (some .int) 1 := ⟨(wg 14 (by decide +kernel) rfl), (wg 1549 (by decide +kernel) rfl), ⟨by decide, by decide, by decide +kernel⟩, by decide⟩
theorem cv_Law_100 : MW y_Mod_best b_Mod_best 2 (some .int) 1 ∧ LK "GuideWalksLastLaw" 100 y_Mod_best ∧ Cond.instanceMethod y_Mod_best ∈ wsG ∧ Cond.selects y_Mod_best.cls y_Mod_best y_Mod_best ∈ wsG := ⟨mw_Mod_best, Or.inl (wg 1546 (by decide +kernel) rfl), (wg 1547 (by decide +kernel) rfl), (wg 1548 (by decide +kernel) rfl)⟩
theorem mw_GWL_fewest : MW y_GWL_fewest b_GWL_fewest 4 (some .int) 2 := ⟨(wg 1 (by decide +kernel) rfl), (wg 763 (by decide +kernel) rfl), ⟨by decide, by decide, by decide +kernel⟩, by decide⟩
theorem cv_Law_101 : MW y_GWL_fewest b_GWL_fewest 4 (some .int) 2 ∧ LK "GuideWalksLastLaw" 101 y_GWL_fewest ∧ Cond.instanceMethod y_GWL_fewest ∈ wsG ∧ Cond.selects y_GWL_fewest.cls y_GWL_fewest y_GWL_fewest ∈ wsG := ⟨mw_GWL_fewest, Or.inl (wg 760 (by decide +kernel) rfl), (wg 761 (by decide +kernel) rfl), (wg 762 (by decide +kernel) rfl)⟩
theorem mw_Mod_fewest : MW y_Mod_fewest b_Mod_fewest 4 (some .int) 2 := ⟨(wg 14 (by decide +kernel) rfl), (wg 1553 (by decide +kernel) rfl), ⟨by decide, by decide, by decide +kernel⟩, by decide⟩
theorem cv_Law_104 : MW y_Mod_fewest b_Mod_fewest 4 (some .int) 2 ∧ LK "GuideWalksLastLaw" 104 y_Mod_fewest ∧ Cond.instanceMethod y_Mod_fewest ∈ wsG ∧ Cond.selects y_Mod_fewest.cls y_Mod_fewest y_Mod_fewest ∈ wsG := ⟨mw_Mod_fewest, Or.inl (wg 1550 (by decide +kernel) rfl), (wg 1551 (by decide +kernel) rfl), (wg 1552 (by decide +kernel) rfl)⟩
theorem mw_GWL_should : MW y_GWL_should b_GWL_should 2 (some .int) 1 := ⟨(wg 1 (by decide +kernel) rfl), (wg 768 (by decide +kernel) rfl), ⟨by decide, by decide, by decide +kernel⟩, by decide⟩
theorem cv_Law_105 : MW y_GWL_should b_GWL_should 2 (some .int) 1 ∧ LK "GuideWalksLastLaw" 105 y_GWL_should ∧ Cond.instanceMethod y_GWL_should ∈ wsG ∧ Cond.selects y_GWL_should.cls y_GWL_should y_GWL_should ∈ wsG := ⟨mw_GWL_should, Or.inl (wg 765 (by decide +kernel) rfl), (wg 766 (by decide +kernel) rfl), (wg 767 (by decide +kernel) rfl)⟩
theorem mw_Mod_should : MW y_Mod_should b_Mod_should 8 (some .int) 1 := ⟨(wg 14 (by decide +kernel) rfl), (wg 1557 (by decide +kernel) rfl), ⟨by decide, by decide, by decide +kernel⟩, by decide⟩
theorem cv_Law_108 : MW y_Mod_should b_Mod_should 8 (some .int) 1 ∧ LK "GuideWalksLastLaw" 108 y_Mod_should ∧ Cond.instanceMethod y_Mod_should ∈ wsG ∧ Cond.selects y_Mod_should.cls y_Mod_should y_Mod_should ∈ wsG := ⟨mw_Mod_should, Or.inl (wg 1554 (by decide +kernel) rfl), (wg 1555 (by decide +kernel) rfl), (wg 1556 (by decide +kernel) rfl)⟩
theorem mw_GWL_safest : MW y_GWL_safest b_GWL_safest 2 (some .int) 1 := ⟨(wg 1 (by decide +kernel) rfl), (wg 772 (by decide +kernel) rfl), ⟨by decide, by decide, by decide +kernel⟩, by decide⟩
theorem cv_Law_109 : MW y_GWL_safest b_GWL_safest 2 (some .int) 1 ∧ LK "GuideWalksLastLaw" 109 y_GWL_safest ∧ Cond.instanceMethod y_GWL_safest ∈ wsG ∧ Cond.selects y_GWL_safest.cls y_GWL_safest y_GWL_safest ∈ wsG := ⟨mw_GWL_safest, Or.inl (wg 769 (by decide +kernel) rfl), (wg 770 (by decide +kernel) rfl), (wg 771 (by decide +kernel) rfl)⟩
theorem mw_Mod_safest : MW y_Mod_safest b_Mod_safest 2 (some .int) 1 := ⟨(wg 14 (by decide +kernel) rfl), (wg 1561 (by decide +kernel) rfl), ⟨by decide, by decide, by decide +kernel⟩, by decide⟩
theorem cv_Law_112 : MW y_Mod_safest b_Mod_safest 2 (some .int) 1 ∧ LK "GuideWalksLastLaw" 112 y_Mod_safest ∧ Cond.instanceMethod y_Mod_safest ∈ wsG ∧ Cond.selects y_Mod_safest.cls y_Mod_safest y_Mod_safest ∈ wsG := ⟨mw_Mod_safest, Or.inl (wg 1558 (by decide +kernel) rfl), (wg 1559 (by decide +kernel) rfl), (wg 1560 (by decide +kernel) rfl)⟩
theorem mw_GWL_perils : MW y_GWL_perils b_GWL_perils 2 (some .int) 1 := ⟨(wg 1 (by decide +kernel) rfl), (wg 776 (by decide +kernel) rfl), ⟨by decide, by decide, by decide +kernel⟩, by decide⟩
theorem cv_Law_113 : MW y_GWL_perils b_GWL_perils 2 (some .int) 1 ∧ LK "GuideWalksLastLaw" 113 y_GWL_perils ∧ Cond.instanceMethod y_GWL_perils ∈ wsG ∧ Cond.selects y_GWL_perils.cls y_GWL_perils y_GWL_perils ∈ wsG := ⟨mw_GWL_perils, Or.inl (wg 773 (by decide +kernel) rfl), (wg 774 (by decide +kernel) rfl), (wg 775 (by decide +kernel) rfl)⟩
theorem mw_Mod_perils : MW y_Mod_perils b_Mod_perils 3 (some .int) 1 := ⟨(wg 14 (by decide +kernel) rfl), (wg 1565 (by decide +kernel) rfl), ⟨by decide, by decide, by decide +kernel⟩, by decide⟩
theorem cv_Law_116 : MW y_Mod_perils b_Mod_perils 3 (some .int) 1 ∧ LK "GuideWalksLastLaw" 116 y_Mod_perils ∧ Cond.instanceMethod y_Mod_perils ∈ wsG ∧ Cond.selects y_Mod_perils.cls y_Mod_perils y_Mod_perils ∈ wsG := ⟨mw_Mod_perils, Or.inl (wg 1562 (by decide +kernel) rfl), (wg 1563 (by decide +kernel) rfl), (wg 1564 (by decide +kernel) rfl)⟩
theorem mw_GWL_behind : MW y_GWL_behind b_GWL_behind 3 (some .int) 2 := ⟨(wg 1 (by decide +kernel) rfl), (wg 789 (by decide +kernel) rfl), ⟨by decide, by decide, by decide +kernel⟩, by decide⟩
theorem cv_Law_117 : MW y_GWL_behind b_GWL_behind 3 (some .int) 2 ∧ LK "GuideWalksLastLaw" 117 y_GWL_behind ∧ Cond.instanceMethod y_GWL_behind ∈ wsG ∧ Cond.selects y_GWL_behind.cls y_GWL_behind y_GWL_behind ∈ wsG := ⟨mw_GWL_behind, Or.inl (wg 786 (by decide +kernel) rfl), (wg 787 (by decide +kernel) rfl), (wg 788 (by decide +kernel) rfl)⟩
theorem mw_Mod_behind : MW y_Mod_behind b_Mod_behind 9 (some .int) 2 := ⟨(wg 14 (by decide +kernel) rfl), (wg 1569 (by decide +kernel) rfl), ⟨by decide, by decide, by decide +kernel⟩, by decide⟩
theorem cv_Law_120 : MW y_Mod_behind b_Mod_behind 9 (some .int) 2 ∧ LK "GuideWalksLastLaw" 120 y_Mod_behind ∧ Cond.instanceMethod y_Mod_behind ∈ wsG ∧ Cond.selects y_Mod_behind.cls y_Mod_behind y_Mod_behind ∈ wsG := ⟨mw_Mod_behind, Or.inl (wg 1566 (by decide +kernel) rfl), (wg 1567 (by decide +kernel) rfl), (wg 1568 (by decide +kernel) rfl)⟩
theorem mw_GWL_loud : MW y_GWL_loud b_GWL_loud 4 (some .int) 2 := ⟨(wg 1 (by decide +kernel) rfl), (wg 793 (by decide +kernel) rfl), ⟨by decide, by decide, by decide +kernel⟩, by decide⟩
theorem cv_Law_121 : MW y_GWL_loud b_GWL_loud 4 (some .int) 2 ∧ LK "GuideWalksLastLaw" 121 y_GWL_loud ∧ Cond.instanceMethod y_GWL_loud ∈ wsG ∧ Cond.selects y_GWL_loud.cls y_GWL_loud y_GWL_loud ∈ wsG := ⟨mw_GWL_loud, Or.inl (wg 790 (by decide +kernel) rfl), (wg 791 (by decide +kernel) rfl), (wg 792 (by decide +kernel) rfl)⟩
theorem mw_Mod_loud : MW y_Mod_loud b_Mod_loud 6 (some .int) 2 := ⟨(wg 14 (by decide +kernel) rfl), (wg 1581 (by decide +kernel) rfl), ⟨by decide, by decide, by decide +kernel⟩, by decide⟩
theorem cv_Law_124 : MW y_Mod_loud b_Mod_loud 6 (some .int) 2 ∧ LK "GuideWalksLastLaw" 124 y_Mod_loud ∧ Cond.instanceMethod y_Mod_loud ∈ wsG ∧ Cond.selects y_Mod_loud.cls y_Mod_loud y_Mod_loud ∈ wsG := ⟨mw_Mod_loud, Or.inl (wg 1578 (by decide +kernel) rfl), (wg 1579 (by decide +kernel) rfl), (wg 1580 (by decide +kernel) rfl)⟩
theorem mw_GWL_owed : MW y_GWL_owed b_GWL_owed 1 (some .int) 0 := ⟨(wg 1 (by decide +kernel) rfl), (wg 797 (by decide +kernel) rfl), ⟨by decide, by decide, by decide +kernel⟩, by decide⟩
theorem cv_Law_125 : MW y_GWL_owed b_GWL_owed 1 (some .int) 0 ∧ LK "GuideWalksLastLaw" 125 y_GWL_owed ∧ Cond.instanceMethod y_GWL_owed ∈ wsG ∧ Cond.selects y_GWL_owed.cls y_GWL_owed y_GWL_owed ∈ wsG := ⟨mw_GWL_owed, Or.inl (wg 794 (by decide +kernel) rfl), (wg 795 (by decide +kernel) rfl), (wg 796 (by decide +kernel) rfl)⟩
theorem mw_Mod_owed : MW y_Mod_owed b_Mod_owed 1 (some .int) 0 := ⟨(wg 14 (by decide +kernel) rfl), (wg 1585 (by decide +kernel) rfl), ⟨by decide, by decide, by decide +kernel⟩, by decide⟩
theorem cv_Law_128 : MW y_Mod_owed b_Mod_owed 1 (some .int) 0 ∧ LK "GuideWalksLastLaw" 128 y_Mod_owed ∧ Cond.instanceMethod y_Mod_owed ∈ wsG ∧ Cond.selects y_Mod_owed.cls y_Mod_owed y_Mod_owed ∈ wsG := ⟨mw_Mod_owed, Or.inl (wg 1582 (by decide +kernel) rfl), (wg 1583 (by decide +kernel) rfl), (wg 1584 (by decide +kernel) rfl)⟩
theorem mw_GWL_greed : MW y_GWL_greed b_GWL_greed 4 (some .int) 1 := ⟨(wg 1 (by decide +kernel) rfl), (wg 802 (by decide +kernel) rfl), ⟨by decide, by decide, by decide +kernel⟩, by decide⟩
theorem cv_Law_129 : MW y_GWL_greed b_GWL_greed 4 (some .int) 1 ∧ LK "GuideWalksLastLaw" 129 y_GWL_greed ∧ Cond.instanceMethod y_GWL_greed ∈ wsG ∧ Cond.selects y_GWL_greed.cls y_GWL_greed y_GWL_greed ∈ wsG := ⟨mw_GWL_greed, Or.inl (wg 799 (by decide +kernel) rfl), (wg 800 (by decide +kernel) rfl), (wg 801 (by decide +kernel) rfl)⟩
theorem mw_Mod_greed : MW y_Mod_greed b_Mod_greed 2 (some .int) 1 := ⟨(wg 14 (by decide +kernel) rfl), (wg 1589 (by decide +kernel) rfl), ⟨by decide, by decide, by decide +kernel⟩, by decide⟩
theorem cv_Law_132 : MW y_Mod_greed b_Mod_greed 2 (some .int) 1 ∧ LK "GuideWalksLastLaw" 132 y_Mod_greed ∧ Cond.instanceMethod y_Mod_greed ∈ wsG ∧ Cond.selects y_Mod_greed.cls y_Mod_greed y_Mod_greed ∈ wsG := ⟨mw_Mod_greed, Or.inl (wg 1586 (by decide +kernel) rfl), (wg 1587 (by decide +kernel) rfl), (wg 1588 (by decide +kernel) rfl)⟩
theorem mw_GWL_honest : MW y_GWL_honest b_GWL_honest 4 (some .int) 1 := ⟨(wg 1 (by decide +kernel) rfl), (wg 810 (by decide +kernel) rfl), ⟨by decide, by decide, by decide +kernel⟩, by decide⟩
theorem cv_Law_133 : MW y_GWL_honest b_GWL_honest 4 (some .int) 1 ∧ LK "GuideWalksLastLaw" 133 y_GWL_honest ∧ Cond.instanceMethod y_GWL_honest ∈ wsG ∧ Cond.selects y_GWL_honest.cls y_GWL_honest y_GWL_honest ∈ wsG := ⟨mw_GWL_honest, Or.inl (wg 807 (by decide +kernel) rfl), (wg 808 (by decide +kernel) rfl), (wg 809 (by decide +kernel) rfl)⟩
theorem mw_Mod_honest : MW y_Mod_honest b_Mod_honest 4 (some .int) 1 := ⟨(wg 14 (by decide +kernel) rfl), (wg 1609 (by decide +kernel) rfl), ⟨by decide, by decide, by decide +kernel⟩, by decide⟩
theorem cv_Law_136 : MW y_Mod_honest b_Mod_honest 4 (some .int) 1 ∧ LK "GuideWalksLastLaw" 136 y_Mod_honest ∧ Cond.instanceMethod y_Mod_honest ∈ wsG ∧ Cond.selects y_Mod_honest.cls y_Mod_honest y_Mod_honest ∈ wsG := ⟨mw_Mod_honest, Or.inl (wg 1606 (by decide +kernel) rfl), (wg 1607 (by decide +kernel) rfl), (wg 1608 (by decide +kernel) rfl)⟩
theorem mw_GWL_shelf : MW y_GWL_shelf b_GWL_shelf 2 (some .boolean) 1 := ⟨(wg 1 (by decide +kernel) rfl), (wg 814 (by decide +kernel) rfl), ⟨by decide, by decide, by decide +kernel⟩, by decide⟩
theorem cv_Law_137 : MW y_GWL_shelf b_GWL_shelf 2 (some .boolean) 1 ∧ LK "GuideWalksLastLaw" 137 y_GWL_shelf ∧ Cond.instanceMethod y_GWL_shelf ∈ wsG ∧ Cond.selects y_GWL_shelf.cls y_GWL_shelf y_GWL_shelf ∈ wsG := ⟨mw_GWL_shelf, Or.inl (wg 811 (by decide +kernel) rfl), (wg 812 (by decide +kernel) rfl), (wg 813 (by decide +kernel) rfl)⟩
theorem mw_Mod_shelf : MW y_Mod_shelf b_Mod_shelf 3 (some .boolean) 1 := ⟨(wg 14 (by decide +kernel) rfl), (wg 1613 (by decide +kernel) rfl), ⟨by decide, by decide, by decide +kernel⟩, by decide⟩
theorem cv_Law_140 : MW y_Mod_shelf b_Mod_shelf 3 (some .boolean) 1 ∧ LK "GuideWalksLastLaw" 140 y_Mod_shelf ∧ Cond.instanceMethod y_Mod_shelf ∈ wsG ∧ Cond.selects y_Mod_shelf.cls y_Mod_shelf y_Mod_shelf ∈ wsG := ⟨mw_Mod_shelf, Or.inl (wg 1610 (by decide +kernel) rfl), (wg 1611 (by decide +kernel) rfl), (wg 1612 (by decide +kernel) rfl)⟩
theorem mw_GWL_fairest : MW y_GWL_fairest b_GWL_fairest 8 (some .int) 1 := ⟨(wg 1 (by decide +kernel) rfl), (wg 821 (by decide +kernel) rfl), ⟨by decide, by decide, by decide +kernel⟩, by decide⟩
theorem cv_Law_141 : MW y_GWL_fairest b_GWL_fairest 8 (some .int) 1 ∧ LK "GuideWalksLastLaw" 141 y_GWL_fairest ∧ Cond.instanceMethod y_GWL_fairest ∈ wsG ∧ Cond.selects y_GWL_fairest.cls y_GWL_fairest y_GWL_fairest ∈ wsG := ⟨mw_GWL_fairest, Or.inl (wg 818 (by decide +kernel) rfl), (wg 819 (by decide +kernel) rfl), (wg 820 (by decide +kernel) rfl)⟩
theorem mw_Mod_fairest : MW y_Mod_fairest b_Mod_fairest 8 (some .int) 1 := ⟨(wg 14 (by decide +kernel) rfl), (wg 1617 (by decide +kernel) rfl), ⟨by decide, by decide, by decide +kernel⟩, by decide⟩
theorem cv_Law_144 : MW y_Mod_fairest b_Mod_fairest 8 (some .int) 1 ∧ LK "GuideWalksLastLaw" 144 y_Mod_fairest ∧ Cond.instanceMethod y_Mod_fairest ∈ wsG ∧ Cond.selects y_Mod_fairest.cls y_Mod_fairest y_Mod_fairest ∈ wsG := ⟨mw_Mod_fairest, Or.inl (wg 1614 (by decide +kernel) rfl), (wg 1615 (by decide +kernel) rfl), (wg 1616 (by decide +kernel) rfl)⟩
theorem mw_GWL_track : MW y_GWL_track b_GWL_track 2 (some .int) 1 := ⟨(wg 1 (by decide +kernel) rfl), (wg 826 (by decide +kernel) rfl), ⟨by decide, by decide, by decide +kernel⟩, by decide⟩
theorem cv_Law_145 : MW y_GWL_track b_GWL_track 2 (some .int) 1 ∧ LK "GuideWalksLastLaw" 145 y_GWL_track ∧ Cond.instanceMethod y_GWL_track ∈ wsG ∧ Cond.selects y_GWL_track.cls y_GWL_track y_GWL_track ∈ wsG := ⟨mw_GWL_track, Or.inl (wg 823 (by decide +kernel) rfl), (wg 824 (by decide +kernel) rfl), (wg 825 (by decide +kernel) rfl)⟩
theorem mw_Mod_track : MW y_Mod_track b_Mod_track 2 (some .int) 1 := ⟨(wg 14 (by decide +kernel) rfl), (wg 1621 (by decide +kernel) rfl), ⟨by decide, by decide, by decide +kernel⟩, by decide⟩
theorem cv_Law_148 : MW y_Mod_track b_Mod_track 2 (some .int) 1 ∧ LK "GuideWalksLastLaw" 148 y_Mod_track ∧ Cond.instanceMethod y_Mod_track ∈ wsG ∧ Cond.selects y_Mod_track.cls y_Mod_track y_Mod_track ∈ wsG := ⟨mw_Mod_track, Or.inl (wg 1618 (by decide +kernel) rfl), (wg 1619 (by decide +kernel) rfl), (wg 1620 (by decide +kernel) rfl)⟩
theorem mw_GWL_rain : MW y_GWL_rain b_GWL_rain 1 (some .int) 0 := ⟨(wg 1 (by decide +kernel) rfl), (wg 834 (by decide +kernel) rfl), ⟨by decide, by decide, by decide +kernel⟩, by decide⟩
theorem cv_Law_149 : MW y_GWL_rain b_GWL_rain 1 (some .int) 0 ∧ LK "GuideWalksLastLaw" 149 y_GWL_rain ∧ Cond.instanceMethod y_GWL_rain ∈ wsG ∧ Cond.selects y_GWL_rain.cls y_GWL_rain y_GWL_rain ∈ wsG := ⟨mw_GWL_rain, Or.inl (wg 831 (by decide +kernel) rfl), (wg 832 (by decide +kernel) rfl), (wg 833 (by decide +kernel) rfl)⟩
theorem mw_Mod_rain : MW y_Mod_rain b_Mod_rain 1 (some .int) 0 := ⟨(wg 14 (by decide +kernel) rfl), (wg 1625 (by decide +kernel) rfl), ⟨by decide, by decide, by decide +kernel⟩, by decide⟩
theorem cv_Law_152 : MW y_Mod_rain b_Mod_rain 1 (some .int) 0 ∧ LK "GuideWalksLastLaw" 152 y_Mod_rain ∧ Cond.instanceMethod y_Mod_rain ∈ wsG ∧ Cond.selects y_Mod_rain.cls y_Mod_rain y_Mod_rain ∈ wsG := ⟨mw_Mod_rain, Or.inl (wg 1622 (by decide +kernel) rfl), (wg 1623 (by decide +kernel) rfl), (wg 1624 (by decide +kernel) rfl)⟩
theorem mw_GWL_follow : MW y_GWL_follow b_GWL_follow 2 (some .int) 1 := ⟨(wg 1 (by decide +kernel) rfl), (wg 838 (by decide +kernel) rfl), ⟨by decide, by decide, by decide +kernel⟩, by decide⟩
theorem cv_Law_153 : MW y_GWL_follow b_GWL_follow 2 (some .int) 1 ∧ LK "GuideWalksLastLaw" 153 y_GWL_follow ∧ Cond.instanceMethod y_GWL_follow ∈ wsG ∧ Cond.selects y_GWL_follow.cls y_GWL_follow y_GWL_follow ∈ wsG := ⟨mw_GWL_follow, Or.inl (wg 835 (by decide +kernel) rfl), (wg 836 (by decide +kernel) rfl), (wg 837 (by decide +kernel) rfl)⟩
theorem mw_Mod_follow : MW y_Mod_follow b_Mod_follow 3 (some .int) 1 := ⟨(wg 14 (by decide +kernel) rfl), (wg 1629 (by decide +kernel) rfl), ⟨by decide, by decide, by decide +kernel⟩, by decide⟩
theorem cv_Law_156 : MW y_Mod_follow b_Mod_follow 3 (some .int) 1 ∧ LK "GuideWalksLastLaw" 156 y_Mod_follow ∧ Cond.instanceMethod y_Mod_follow ∈ wsG ∧ Cond.selects y_Mod_follow.cls y_Mod_follow y_Mod_follow ∈ wsG := ⟨mw_Mod_follow, Or.inl (wg 1626 (by decide +kernel) rfl), (wg 1627 (by decide +kernel) rfl), (wg 1628 (by decide +kernel) rfl)⟩
theorem mw_GWL_warned : MW y_GWL_warned b_GWL_warned 4 (some .int) 0 := ⟨(wg 1 (by decide +kernel) rfl), (wg 848 (by decide +kernel) rfl), ⟨by decide, by decide, by decide +kernel⟩, by decide⟩
theorem cv_Law_157 : MW y_GWL_warned b_GWL_warned 4 (some .int) 0 ∧ LK "GuideWalksLastLaw" 157 y_GWL_warned ∧ Cond.instanceMethod y_GWL_warned ∈ wsG ∧ Cond.selects y_GWL_warned.cls y_GWL_warned y_GWL_warned ∈ wsG := ⟨mw_GWL_warned, Or.inl (wg 845 (by decide +kernel) rfl), (wg 846 (by decide +kernel) rfl), (wg 847 (by decide +kernel) rfl)⟩
theorem mw_Mod_warned : MW y_Mod_warned b_Mod_warned 7 (some .int) 0 := ⟨(wg 14 (by decide +kernel) rfl), (wg 1637 (by decide +kernel) rfl), ⟨by decide, by decide, by decide +kernel⟩, by decide⟩
theorem cv_Law_160 : MW y_Mod_warned b_Mod_warned 7 (some .int) 0 ∧ LK "GuideWalksLastLaw" 160 y_Mod_warned ∧ Cond.instanceMethod y_Mod_warned ∈ wsG ∧ Cond.selects y_Mod_warned.cls y_Mod_warned y_Mod_warned ∈ wsG := ⟨mw_Mod_warned, Or.inl (wg 1634 (by decide +kernel) rfl), (wg 1635 (by decide +kernel) rfl), (wg 1636 (by decide +kernel) rfl)⟩
theorem mw_GWL_codes : MW y_GWL_codes b_GWL_codes 6 (some .int) 2 := ⟨(wg 1 (by decide +kernel) rfl), (wg 862 (by decide +kernel) rfl), ⟨by decide, by decide, by decide +kernel⟩, by decide⟩
theorem cv_Law_161 : MW y_GWL_codes b_GWL_codes 6 (some .int) 2 ∧ LK "GuideWalksLastLaw" 161 y_GWL_codes ∧ Cond.instanceMethod y_GWL_codes ∈ wsG ∧ Cond.selects y_GWL_codes.cls y_GWL_codes y_GWL_codes ∈ wsG := ⟨mw_GWL_codes, Or.inl (wg 859 (by decide +kernel) rfl), (wg 860 (by decide +kernel) rfl), (wg 861 (by decide +kernel) rfl)⟩
theorem mw_Mod_codes : MW y_Mod_codes b_Mod_codes 4 (some .int) 2 := ⟨(wg 14 (by decide +kernel) rfl), (wg 1641 (by decide +kernel) rfl), ⟨by decide, by decide, by decide +kernel⟩, by decide⟩
theorem cv_Law_164 : MW y_Mod_codes b_Mod_codes 4 (some .int) 2 ∧ LK "GuideWalksLastLaw" 164 y_Mod_codes ∧ Cond.instanceMethod y_Mod_codes ∈ wsG ∧ Cond.selects y_Mod_codes.cls y_Mod_codes y_Mod_codes ∈ wsG := ⟨mw_Mod_codes, Or.inl (wg 1638 (by decide +kernel) rfl), (wg 1639 (by decide +kernel) rfl), (wg 1640 (by decide +kernel) rfl)⟩
theorem mw_GWL_meant : MW y_GWL_meant b_GWL_meant 9 (some .int) 4 := ⟨(wg 1 (by decide +kernel) rfl), (wg 875 (by decide +kernel) rfl), ⟨by decide, by decide, by decide +kernel⟩, by decide⟩
theorem cv_Law_165 : MW y_GWL_meant b_GWL_meant 9 (some .int) 4 ∧ LK "GuideWalksLastLaw" 165 y_GWL_meant ∧ Cond.instanceMethod y_GWL_meant ∈ wsG ∧ Cond.selects y_GWL_meant.cls y_GWL_meant y_GWL_meant ∈ wsG := ⟨mw_GWL_meant, Or.inl (wg 872 (by decide +kernel) rfl), (wg 873 (by decide +kernel) rfl), (wg 874 (by decide +kernel) rfl)⟩
theorem mw_Mod_meant : MW y_Mod_meant b_Mod_meant 9 (some .int) 4 := ⟨(wg 14 (by decide +kernel) rfl), (wg 1661 (by decide +kernel) rfl), ⟨by decide, by decide, by decide +kernel⟩, by decide⟩
theorem cv_Law_168 : MW y_Mod_meant b_Mod_meant 9 (some .int) 4 ∧ LK "GuideWalksLastLaw" 168 y_Mod_meant ∧ Cond.instanceMethod y_Mod_meant ∈ wsG ∧ Cond.selects y_Mod_meant.cls y_Mod_meant y_Mod_meant ∈ wsG := ⟨mw_Mod_meant, Or.inl (wg 1658 (by decide +kernel) rfl), (wg 1659 (by decide +kernel) rfl), (wg 1660 (by decide +kernel) rfl)⟩
theorem mw_GWL_print : MW y_GWL_print b_GWL_print 3 (some .int) 2 := ⟨(wg 1 (by decide +kernel) rfl), (wg 879 (by decide +kernel) rfl), ⟨by decide, by decide, by decide +kernel⟩, by decide⟩
theorem cv_Law_169 : MW y_GWL_print b_GWL_print 3 (some .int) 2 ∧ LK "GuideWalksLastLaw" 169 y_GWL_print ∧ Cond.instanceMethod y_GWL_print ∈ wsG ∧ Cond.selects y_GWL_print.cls y_GWL_print y_GWL_print ∈ wsG := ⟨mw_GWL_print, Or.inl (wg 876 (by decide +kernel) rfl), (wg 877 (by decide +kernel) rfl), (wg 878 (by decide +kernel) rfl)⟩
theorem mw_Mod_print : MW y_Mod_print b_Mod_print 3 (some .int) 2 := ⟨(wg 14 (by decide +kernel) rfl), (wg 1665 (by decide +kernel) rfl), ⟨by decide, by decide, by decide +kernel⟩, by decide⟩
theorem cv_Law_172 : MW y_Mod_print b_Mod_print 3 (some .int) 2 ∧ LK "GuideWalksLastLaw" 172 y_Mod_print ∧ Cond.instanceMethod y_Mod_print ∈ wsG ∧ Cond.selects y_Mod_print.cls y_Mod_print y_Mod_print ∈ wsG := ⟨mw_Mod_print, Or.inl (wg 1662 (by decide +kernel) rfl), (wg 1663 (by decide +kernel) rfl), (wg 1664 (by decide +kernel) rfl)⟩
theorem mw_GWL_wipe : MW y_GWL_wipe b_GWL_wipe 1 (some .int) 0 := ⟨(wg 1 (by decide +kernel) rfl), (wg 896 (by decide +kernel) rfl), ⟨by decide, by decide, by decide +kernel⟩, by decide⟩
theorem cv_Law_173 : MW y_GWL_wipe b_GWL_wipe 1 (some .int) 0 ∧ LK "GuideWalksLastLaw" 173 y_GWL_wipe ∧ Cond.instanceMethod y_GWL_wipe ∈ wsG ∧ Cond.selects y_GWL_wipe.cls y_GWL_wipe y_GWL_wipe ∈ wsG := ⟨mw_GWL_wipe, Or.inl (wg 893 (by decide +kernel) rfl), (wg 894 (by decide +kernel) rfl), (wg 895 (by decide +kernel) rfl)⟩
theorem mw_Mod_wipe : MW y_Mod_wipe b_Mod_wipe 2 (some .int) 0 := ⟨(wg 14 (by decide +kernel) rfl), (wg 1676 (by decide +kernel) rfl), ⟨by decide, by decide, by decide +kernel⟩, by decide⟩
theorem cv_Law_176 : MW y_Mod_wipe b_Mod_wipe 2 (some .int) 0 ∧ LK "GuideWalksLastLaw" 176 y_Mod_wipe ∧ Cond.instanceMethod y_Mod_wipe ∈ wsG ∧ Cond.selects y_Mod_wipe.cls y_Mod_wipe y_Mod_wipe ∈ wsG := ⟨mw_Mod_wipe, Or.inl (wg 1673 (by decide +kernel) rfl), (wg 1674 (by decide +kernel) rfl), (wg 1675 (by decide +kernel) rfl)⟩
theorem mw_GWL_rows : MW y_GWL_rows b_GWL_rows 1 (some .long) 0 := ⟨(wg 1 (by decide +kernel) rfl), (wg 900 (by decide +kernel) rfl), ⟨by decide, by decide, by decide +kernel⟩, by decide⟩
theorem cv_Law_177 : MW y_GWL_rows b_GWL_rows 1 (some .long) 0 ∧ LK "GuideWalksLastLaw" 177 y_GWL_rows ∧ Cond.instanceMethod y_GWL_rows ∈ wsG ∧ Cond.selects y_GWL_rows.cls y_GWL_rows y_GWL_rows ∈ wsG := ⟨mw_GWL_rows, Or.inl (wg 897 (by decide +kernel) rfl), (wg 898 (by decide +kernel) rfl), (wg 899 (by decide +kernel) rfl)⟩
theorem mw_Mod_rows : MW y_Mod_rows b_Mod_rows 4 (some .long) 0 := ⟨(wg 14 (by decide +kernel) rfl), (wg 1680 (by decide +kernel) rfl), ⟨by decide, by decide, by decide +kernel⟩, by decide⟩
theorem cv_Law_181 : MW y_Mod_rows b_Mod_rows 4 (some .long) 0 ∧ LK "GuideWalksLastLaw" 181 y_Mod_rows ∧ Cond.instanceMethod y_Mod_rows ∈ wsG ∧ Cond.selects y_Mod_rows.cls y_Mod_rows y_Mod_rows ∈ wsG := ⟨mw_Mod_rows, Or.inl (wg 1677 (by decide +kernel) rfl), (wg 1678 (by decide +kernel) rfl), (wg 1679 (by decide +kernel) rfl)⟩
theorem mw_GWL_lies : MW y_GWL_lies b_GWL_lies 2 (some .int) 0 := ⟨(wg 1 (by decide +kernel) rfl), (wg 948 (by decide +kernel) rfl), ⟨by decide, by decide, by decide +kernel⟩, by decide⟩
theorem cv_Law_182 : MW y_GWL_lies b_GWL_lies 2 (some .int) 0 ∧ LK "GuideWalksLastLaw" 182 y_GWL_lies ∧ Cond.instanceMethod y_GWL_lies ∈ wsG ∧ Cond.selects y_GWL_lies.cls y_GWL_lies y_GWL_lies ∈ wsG := ⟨mw_GWL_lies, Or.inl (wg 945 (by decide +kernel) rfl), (wg 946 (by decide +kernel) rfl), (wg 947 (by decide +kernel) rfl)⟩
theorem mw_Mod_lies : MW y_Mod_lies b_Mod_lies 6 (some .int) 0 := ⟨(wg 14 (by decide +kernel) rfl), (wg 1697 (by decide +kernel) rfl), ⟨by decide, by decide, by decide +kernel⟩, by decide⟩
theorem cv_Law_185 : MW y_Mod_lies b_Mod_lies 6 (some .int) 0 ∧ LK "GuideWalksLastLaw" 185 y_Mod_lies ∧ Cond.instanceMethod y_Mod_lies ∈ wsG ∧ Cond.selects y_Mod_lies.cls y_Mod_lies y_Mod_lies ∈ wsG := ⟨mw_Mod_lies, Or.inl (wg 1694 (by decide +kernel) rfl), (wg 1695 (by decide +kernel) rfl), (wg 1696 (by decide +kernel) rfl)⟩
theorem mw_GWL_worth : MW y_GWL_worth b_GWL_worth 4 (some .int) 3 := ⟨(wg 1 (by decide +kernel) rfl), (wg 953 (by decide +kernel) rfl), ⟨by decide, by decide, by decide +kernel⟩, by decide⟩
theorem cv_Law_186 : MW y_GWL_worth b_GWL_worth 4 (some .int) 3 ∧ LK "GuideWalksLastLaw" 186 y_GWL_worth ∧ Cond.instanceMethod y_GWL_worth ∈ wsG ∧ Cond.selects y_GWL_worth.cls y_GWL_worth y_GWL_worth ∈ wsG := ⟨mw_GWL_worth, Or.inl (wg 950 (by decide +kernel) rfl), (wg 951 (by decide +kernel) rfl), (wg 952 (by decide +kernel) rfl)⟩
theorem mw_Mod_worth : MW y_Mod_worth b_Mod_worth 5 (some .int) 3 := ⟨(wg 14 (by decide +kernel) rfl), (wg 1701 (by decide +kernel) rfl), ⟨by decide, by decide, by decide +kernel⟩, by decide⟩
theorem cv_Law_190 : MW y_Mod_worth b_Mod_worth 5 (some .int) 3 ∧ LK "GuideWalksLastLaw" 190 y_Mod_worth ∧ Cond.instanceMethod y_Mod_worth ∈ wsG ∧ Cond.selects y_Mod_worth.cls y_Mod_worth y_Mod_worth ∈ wsG := ⟨mw_Mod_worth, Or.inl (wg 1698 (by decide +kernel) rfl), (wg 1699 (by decide +kernel) rfl), (wg 1700 (by decide +kernel) rfl)⟩
theorem mw_GWL_hire : MW y_GWL_hire b_GWL_hire 3 (some .int) 1 := ⟨(wg 1 (by decide +kernel) rfl), (wg 965 (by decide +kernel) rfl), ⟨by decide, by decide, by decide +kernel⟩, by decide⟩
theorem cv_Law_191 : MW y_GWL_hire b_GWL_hire 3 (some .int) 1 ∧ LK "GuideWalksLastLaw" 191 y_GWL_hire ∧ Cond.instanceMethod y_GWL_hire ∈ wsG ∧ Cond.selects y_GWL_hire.cls y_GWL_hire y_GWL_hire ∈ wsG := ⟨mw_GWL_hire, Or.inl (wg 962 (by decide +kernel) rfl), (wg 963 (by decide +kernel) rfl), (wg 964 (by decide +kernel) rfl)⟩
theorem mw_Mod_hire : MW y_Mod_hire b_Mod_hire 4 (some .int) 1 := ⟨(wg 14 (by decide +kernel) rfl), (wg 1707 (by decide +kernel) rfl), ⟨by decide, by decide, by decide +kernel⟩, by decide⟩
theorem cv_Law_194 : MW y_Mod_hire b_Mod_hire 4 (some .int) 1 ∧ LK "GuideWalksLastLaw" 194 y_Mod_hire ∧ Cond.instanceMethod y_Mod_hire ∈ wsG ∧ Cond.selects y_Mod_hire.cls y_Mod_hire y_Mod_hire ∈ wsG := ⟨mw_Mod_hire, Or.inl (wg 1704 (by decide +kernel) rfl), (wg 1705 (by decide +kernel) rfl), (wg 1706 (by decide +kernel) rfl)⟩
theorem mw_GWL_hoarse : MW y_GWL_hoarse b_GWL_hoarse 3 (some .int) 2 := ⟨(wg 1 (by decide +kernel) rfl), (wg 990 (by decide +kernel) rfl), ⟨by decide, by decide, by decide +kernel⟩, by decide⟩
theorem cv_Law_195 : MW y_GWL_hoarse b_GWL_hoarse 3 (some .int) 2 ∧ LK "GuideWalksLastLaw" 195 y_GWL_hoarse ∧ Cond.instanceMethod y_GWL_hoarse ∈ wsG ∧ Cond.selects y_GWL_hoarse.cls y_GWL_hoarse y_GWL_hoarse ∈ wsG := ⟨mw_GWL_hoarse, Or.inl (wg 987 (by decide +kernel) rfl), (wg 988 (by decide +kernel) rfl), (wg 989 (by decide +kernel) rfl)⟩
theorem mw_Mod_hoarse : MW y_Mod_hoarse b_Mod_hoarse 3 (some .int) 2 := ⟨(wg 14 (by decide +kernel) rfl), (wg 1719 (by decide +kernel) rfl), ⟨by decide, by decide, by decide +kernel⟩, by decide⟩
theorem cv_Law_198 : MW y_Mod_hoarse b_Mod_hoarse 3 (some .int) 2 ∧ LK "GuideWalksLastLaw" 198 y_Mod_hoarse ∧ Cond.instanceMethod y_Mod_hoarse ∈ wsG ∧ Cond.selects y_Mod_hoarse.cls y_Mod_hoarse y_Mod_hoarse ∈ wsG := ⟨mw_Mod_hoarse, Or.inl (wg 1716 (by decide +kernel) rfl), (wg 1717 (by decide +kernel) rfl), (wg 1718 (by decide +kernel) rfl)⟩
theorem mw_GWL_seed : MW y_GWL_seed b_GWL_seed 3 (some .int) 1 := ⟨(wg 1 (by decide +kernel) rfl), (wg 994 (by decide +kernel) rfl), ⟨by decide, by decide, by decide +kernel⟩, by decide⟩
theorem cv_Law_199 : MW y_GWL_seed b_GWL_seed 3 (some .int) 1 ∧ LK "GuideWalksLastLaw" 199 y_GWL_seed ∧ Cond.instanceMethod y_GWL_seed ∈ wsG ∧ Cond.selects y_GWL_seed.cls y_GWL_seed y_GWL_seed ∈ wsG := ⟨mw_GWL_seed, Or.inl (wg 991 (by decide +kernel) rfl), (wg 992 (by decide +kernel) rfl), (wg 993 (by decide +kernel) rfl)⟩
theorem mw_Mod_seed : MW y_Mod_seed b_Mod_seed 3 (some .int) 1 := ⟨(wg 14 (by decide +kernel) rfl), (wg 1723 (by decide +kernel) rfl), ⟨by decide, by decide, by decide +kernel⟩, by decide⟩
theorem cv_Law_202 : MW y_Mod_seed b_Mod_seed 3 (some .int) 1 ∧ LK "GuideWalksLastLaw" 202 y_Mod_seed ∧ Cond.instanceMethod y_Mod_seed ∈ wsG ∧ Cond.selects y_Mod_seed.cls y_Mod_seed y_Mod_seed ∈ wsG := ⟨mw_Mod_seed, Or.inl (wg 1720 (by decide +kernel) rfl), (wg 1721 (by decide +kernel) rfl), (wg 1722 (by decide +kernel) rfl)⟩
theorem mw_GWL_keep : MW y_GWL_keep b_GWL_keep 2 (some .boolean) 1 := ⟨(wg 1 (by decide +kernel) rfl), (wg 998 (by decide +kernel) rfl), ⟨by decide, by decide, by decide +kernel⟩, by decide⟩
theorem cv_Law_203 : MW y_GWL_keep b_GWL_keep 2 (some .boolean) 1 ∧ LK "GuideWalksLastLaw" 203 y_GWL_keep ∧ Cond.instanceMethod y_GWL_keep ∈ wsG ∧ Cond.selects y_GWL_keep.cls y_GWL_keep y_GWL_keep ∈ wsG := ⟨mw_GWL_keep, Or.inl (wg 995 (by decide +kernel) rfl), (wg 996 (by decide +kernel) rfl), (wg 997 (by decide +kernel) rfl)⟩
theorem mw_Mod_keep : MW y_Mod_keep b_Mod_keep 2 (some .boolean) 1 := ⟨(wg 14 (by decide +kernel) rfl), (wg 1727 (by decide +kernel) rfl), ⟨by decide, by decide, by decide +kernel⟩, by decide⟩
theorem cv_Law_206 : MW y_Mod_keep b_Mod_keep 2 (some .boolean) 1 ∧ LK "GuideWalksLastLaw" 206 y_Mod_keep ∧ Cond.instanceMethod y_Mod_keep ∈ wsG ∧ Cond.selects y_Mod_keep.cls y_Mod_keep y_Mod_keep ∈ wsG := ⟨mw_Mod_keep, Or.inl (wg 1724 (by decide +kernel) rfl), (wg 1725 (by decide +kernel) rfl), (wg 1726 (by decide +kernel) rfl)⟩
theorem mw_GWL_again : MW y_GWL_again b_GWL_again 2 (some .boolean) 1 := ⟨(wg 1 (by decide +kernel) rfl), (wg 1003 (by decide +kernel) rfl), ⟨by decide, by decide, by decide +kernel⟩, by decide⟩
theorem cv_Law_207 : MW y_GWL_again b_GWL_again 2 (some .boolean) 1 ∧ LK "GuideWalksLastLaw" 207 y_GWL_again ∧ Cond.instanceMethod y_GWL_again ∈ wsG ∧ Cond.selects y_GWL_again.cls y_GWL_again y_GWL_again ∈ wsG := ⟨mw_GWL_again, Or.inl (wg 1000 (by decide +kernel) rfl), (wg 1001 (by decide +kernel) rfl), (wg 1002 (by decide +kernel) rfl)⟩
theorem mw_Mod_again : MW y_Mod_again b_Mod_again 2 (some .boolean) 1 := ⟨(wg 14 (by decide +kernel) rfl), (wg 1731 (by decide +kernel) rfl), ⟨by decide, by decide, by decide +kernel⟩, by decide⟩
theorem cv_Law_210 : MW y_Mod_again b_Mod_again 2 (some .boolean) 1 ∧ LK "GuideWalksLastLaw" 210 y_Mod_again ∧ Cond.instanceMethod y_Mod_again ∈ wsG ∧ Cond.selects y_Mod_again.cls y_Mod_again y_Mod_again ∈ wsG := ⟨mw_Mod_again, Or.inl (wg 1728 (by decide +kernel) rfl), (wg 1729 (by decide +kernel) rfl), (wg 1730 (by decide +kernel) rfl)⟩
theorem mw_GWL_count : MW y_GWL_count b_GWL_count 2 (some .int) 1 := ⟨(wg 1 (by decide +kernel) rfl), (wg 1007 (by decide +kernel) rfl), ⟨by decide, by decide, by decide +kernel⟩, by decide⟩
theorem cv_Law_211 : MW y_GWL_count b_GWL_count 2 (some .int) 1 ∧ LK "GuideWalksLastLaw" 211 y_GWL_count ∧ Cond.instanceMethod y_GWL_count ∈ wsG ∧ Cond.selects y_GWL_count.cls y_GWL_count y_GWL_count ∈ wsG := ⟨mw_GWL_count, Or.inl (wg 1004 (by decide +kernel) rfl), (wg 1005 (by decide +kernel) rfl), (wg 1006 (by decide +kernel) rfl)⟩
theorem mw_Mod_count : MW y_Mod_count b_Mod_count 2 (some .int) 1 := ⟨(wg 14 (by decide +kernel) rfl), (wg 1735 (by decide +kernel) rfl), ⟨by decide, by decide, by decide +kernel⟩, by decide⟩
theorem cv_Law_214 : MW y_Mod_count b_Mod_count 2 (some .int) 1 ∧ LK "GuideWalksLastLaw" 214 y_Mod_count ∧ Cond.instanceMethod y_Mod_count ∈ wsG ∧ Cond.selects y_Mod_count.cls y_Mod_count y_Mod_count ∈ wsG := ⟨mw_Mod_count, Or.inl (wg 1732 (by decide +kernel) rfl), (wg 1733 (by decide +kernel) rfl), (wg 1734 (by decide +kernel) rfl)⟩
theorem mw_Mod_row : MW y_Mod_row b_Mod_row 2 (some .long) 1 := ⟨(wg 14 (by decide +kernel) rfl), (wg 1739 (by decide +kernel) rfl), ⟨by decide, by decide, by decide +kernel⟩, by decide⟩
theorem cv_Law_220 : MW y_Mod_row b_Mod_row 2 (some .long) 1 ∧ LK "GuideWalksLastLaw" 220 y_Mod_row ∧ Cond.instanceMethod y_Mod_row ∈ wsG ∧ Cond.selects y_Mod_row.cls y_Mod_row y_Mod_row ∈ wsG := ⟨mw_Mod_row, Or.inl (wg 1736 (by decide +kernel) rfl), (wg 1737 (by decide +kernel) rfl), (wg 1738 (by decide +kernel) rfl)⟩
theorem mw_Mod_thrown : MW y_Mod_thrown b_Mod_thrown 1 (some .int) 0 := ⟨(wg 14 (by decide +kernel) rfl), (wg 1084 (by decide +kernel) rfl), ⟨by decide, by decide, by decide +kernel⟩, by decide⟩
theorem cv_Law_221 : MW y_Mod_thrown b_Mod_thrown 1 (some .int) 0 ∧ LK "GuideWalksLastLaw" 221 y_Mod_thrown ∧ Cond.instanceMethod y_Mod_thrown ∈ wsG ∧ Cond.selects y_Mod_thrown.cls y_Mod_thrown y_Mod_thrown ∈ wsG := ⟨mw_Mod_thrown, Or.inl (wg 1081 (by decide +kernel) rfl), (wg 1082 (by decide +kernel) rfl), (wg 1083 (by decide +kernel) rfl)⟩
theorem mw_JMath_abs_J : MW y_JMath_abs_J b_JMath_abs_J 2 (some .long) 1 := ⟨(wg 15 (by decide +kernel) rfl), (wg 1545 (by decide +kernel) rfl), ⟨by decide, by decide, by decide +kernel⟩, by decide⟩
theorem cv_Mod_7 : MW y_JMath_abs_J b_JMath_abs_J 2 (some .long) 1 ∧ LK "GuideWalksLastModel" 7 y_JMath_abs_J ∧ Cond.static y_JMath_abs_J ∈ wsG := ⟨mw_JMath_abs_J, Or.inl (wg 1543 (by decide +kernel) rfl), (wg 1544 (by decide +kernel) rfl)⟩
theorem mw_Mod_common : MW y_Mod_common b_Mod_common 4 (some .long) 2 := ⟨(wg 14 (by decide +kernel) rfl), (wg 1542 (by decide +kernel) rfl), ⟨by decide, by decide, by decide +kernel⟩, by decide⟩
theorem cv_Mod_13 : MW y_Mod_common b_Mod_common 4 (some .long) 2 ∧ LK "GuideWalksLastModel" 13 y_Mod_common ∧ Cond.static y_Mod_common ∈ wsG := ⟨mw_Mod_common, Or.inl (wg 1540 (by decide +kernel) rfl), (wg 1541 (by decide +kernel) rfl)⟩
theorem mw_Mod_enters : MW y_Mod_enters b_Mod_enters 3 none 1 := ⟨(wg 14 (by decide +kernel) rfl), (wg 1443 (by decide +kernel) rfl), ⟨by decide, by decide, by decide +kernel⟩, by decide⟩
theorem cv_Mod_24 : MW y_Mod_enters b_Mod_enters 3 none 1 ∧ LK "GuideWalksLastModel" 24 y_Mod_enters ∧ Cond.instanceMethod y_Mod_enters ∈ wsG ∧ Cond.selects y_Mod_enters.cls y_Mod_enters y_Mod_enters ∈ wsG := ⟨mw_Mod_enters, Or.inl (wg 1440 (by decide +kernel) rfl), (wg 1442 (by decide +kernel) rfl), (wp (q := (y_Mod_enters, 54)) (by decide +kernel) rfl)⟩
theorem mw_Mod_clearsTracks : MW y_Mod_clearsTracks b_Mod_clearsTracks 3 (some .int) 0 := ⟨(wg 14 (by decide +kernel) rfl), (wg 1094 (by decide +kernel) rfl), ⟨by decide, by decide, by decide +kernel⟩, by decide⟩
theorem cv_Mod_144 : MW y_Mod_clearsTracks b_Mod_clearsTracks 3 (some .int) 0 ∧ LK "GuideWalksLastModel" 144 y_Mod_clearsTracks ∧ Cond.instanceMethod y_Mod_clearsTracks ∈ wsG ∧ Cond.selects y_Mod_clearsTracks.cls y_Mod_clearsTracks y_Mod_clearsTracks ∈ wsG := ⟨mw_Mod_clearsTracks, Or.inl (wg 1091 (by decide +kernel) rfl), (wg 1093 (by decide +kernel) rfl), (wp (q := (y_Mod_clearsTracks, 54)) (by decide +kernel) rfl)⟩
theorem mw_Mod_cells : MW y_Mod_cells b_Mod_cells 1 (some .int) 0 := ⟨(wg 14 (by decide +kernel) rfl), (wg 1372 (by decide +kernel) rfl), ⟨by decide, by decide, by decide +kernel⟩, by decide⟩
theorem cv_Mod_148 : MW y_Mod_cells b_Mod_cells 1 (some .int) 0 ∧ LK "GuideWalksLastModel" 148 y_Mod_cells ∧ Cond.instanceMethod y_Mod_cells ∈ wsG ∧ Cond.selects y_Mod_cells.cls y_Mod_cells y_Mod_cells ∈ wsG := ⟨mw_Mod_cells, Or.inl (wg 1369 (by decide +kernel) rfl), (wg 1371 (by decide +kernel) rfl), (wp (q := (y_Mod_cells, 54)) (by decide +kernel) rfl)⟩
theorem mw_Mod_in : MW y_Mod_in b_Mod_in 6 (some .boolean) 3 := ⟨(wg 14 (by decide +kernel) rfl), (wg 1271 (by decide +kernel) rfl), ⟨by decide, by decide, by decide +kernel⟩, by decide⟩
theorem cv_Mod_151 : MW y_Mod_in b_Mod_in 6 (some .boolean) 3 ∧ LK "GuideWalksLastModel" 151 y_Mod_in ∧ Cond.static y_Mod_in ∈ wsG := ⟨mw_Mod_in, Or.inl (wg 1269 (by decide +kernel) rfl), (wg 1270 (by decide +kernel) rfl)⟩
theorem mw_Mod_flag : MW y_Mod_flag b_Mod_flag 1 (some .int) 1 := ⟨(wg 14 (by decide +kernel) rfl), (wg 1097 (by decide +kernel) rfl), ⟨by decide, by decide, by decide +kernel⟩, by decide⟩
theorem cv_Mod_155 : MW y_Mod_flag b_Mod_flag 1 (some .int) 1 ∧ LK "GuideWalksLastModel" 155 y_Mod_flag ∧ Cond.static y_Mod_flag ∈ wsG := ⟨mw_Mod_flag, Or.inl (wg 1095 (by decide +kernel) rfl), (wg 1096 (by decide +kernel) rfl)⟩
theorem cv_Mod_165 : MW y_JMath_min b_JMath_min 2 (some .int) 2 ∧ LK "GuideWalksLastModel" 165 y_JMath_min ∧ Cond.static y_JMath_min ∈ wsG := ⟨mw_JMath_min, Or.inl (wg 1280 (by decide +kernel) rfl), (wg 695 (by decide +kernel) rfl)⟩
theorem mw_JStr_length : MW y_JStr_length b_JStr_length 1 (some .int) 0 := ⟨(wg 16 (by decide +kernel) rfl), (wg 1288 (by decide +kernel) rfl), ⟨by decide, by decide, by decide +kernel⟩, by decide⟩
theorem cv_Mod_172 : MW y_JStr_length b_JStr_length 1 (some .int) 0 ∧ LK "GuideWalksLastModel" 172 y_JStr_length ∧ Cond.instanceMethod y_JStr_length ∈ wsG ∧ Cond.selects y_JStr_length.cls y_JStr_length y_JStr_length ∈ wsG := ⟨mw_JStr_length, Or.inl (wg 1285 (by decide +kernel) rfl), (wg 1286 (by decide +kernel) rfl), (wg 1287 (by decide +kernel) rfl)⟩
theorem mw_JStr_charAt : MW y_JStr_charAt b_JStr_charAt 2 (some .char) 1 := ⟨(wg 16 (by decide +kernel) rfl), (wg 1298 (by decide +kernel) rfl), ⟨by decide, by decide, by decide +kernel⟩, by decide⟩
theorem cv_Mod_177 : MW y_JStr_charAt b_JStr_charAt 2 (some .char) 1 ∧ LK "GuideWalksLastModel" 177 y_JStr_charAt ∧ Cond.instanceMethod y_JStr_charAt ∈ wsG ∧ Cond.selects y_JStr_charAt.cls y_JStr_charAt y_JStr_charAt ∈ wsG := ⟨mw_JStr_charAt, Or.inl (wg 1295 (by decide +kernel) rfl), (wg 1296 (by decide +kernel) rfl), (wg 1297 (by decide +kernel) rfl)⟩
theorem mw_Mod_begins_I : MW y_Mod_begins_I b_Mod_begins_I 3 (some .int) 1 := ⟨(wg 14 (by decide +kernel) rfl), (wg 1279 (by decide +kernel) rfl), ⟨by decide, by decide, by decide +kernel⟩, by decide⟩
theorem cv_Mod_181 : MW y_Mod_begins_I b_Mod_begins_I 3 (some .int) 1 ∧ LK "GuideWalksLastModel" 181 y_Mod_begins_I ∧ Cond.instanceMethod y_Mod_begins_I ∈ wsG ∧ Cond.selects y_Mod_begins_I.cls y_Mod_begins_I y_Mod_begins_I ∈ wsG := ⟨mw_Mod_begins_I, Or.inl (wg 1276 (by decide +kernel) rfl), (wg 1278 (by decide +kernel) rfl), (wp (q := (y_Mod_begins_I, 54)) (by decide +kernel) rfl)⟩
theorem mw_Mod_among : MW y_Mod_among b_Mod_among 3 (some .int) 2 := ⟨(wg 14 (by decide +kernel) rfl), (wg 1284 (by decide +kernel) rfl), ⟨by decide, by decide, by decide +kernel⟩, by decide⟩
theorem cv_Mod_187 : MW y_Mod_among b_Mod_among 3 (some .int) 2 ∧ LK "GuideWalksLastModel" 187 y_Mod_among ∧ Cond.static y_Mod_among ∈ wsG := ⟨mw_Mod_among, Or.inl (wg 1282 (by decide +kernel) rfl), (wg 1283 (by decide +kernel) rfl)⟩
theorem mw_Mod_takes : MW y_Mod_takes b_Mod_takes 3 (some .boolean) 1 := ⟨(wg 14 (by decide +kernel) rfl), (wg 1336 (by decide +kernel) rfl), ⟨by decide, by decide, by decide +kernel⟩, by decide⟩
theorem cv_Mod_191 : MW y_Mod_takes b_Mod_takes 3 (some .boolean) 1 ∧ LK "GuideWalksLastModel" 191 y_Mod_takes ∧ Cond.instanceMethod y_Mod_takes ∈ wsG ∧ Cond.selects y_Mod_takes.cls y_Mod_takes y_Mod_takes ∈ wsG := ⟨mw_Mod_takes, Or.inl (wg 1333 (by decide +kernel) rfl), (wg 1335 (by decide +kernel) rfl), (wp (q := (y_Mod_takes, 54)) (by decide +kernel) rfl)⟩
theorem mw_Mod_begins_II : MW y_Mod_begins_II b_Mod_begins_II 3 none 2 := ⟨(wg 14 (by decide +kernel) rfl), (wg 1340 (by decide +kernel) rfl), ⟨by decide, by decide, by decide +kernel⟩, by decide⟩
theorem cv_Mod_201 : MW y_Mod_begins_II b_Mod_begins_II 3 none 2 ∧ LK "GuideWalksLastModel" 201 y_Mod_begins_II ∧ Cond.instanceMethod y_Mod_begins_II ∈ wsG ∧ Cond.selects y_Mod_begins_II.cls y_Mod_begins_II y_Mod_begins_II ∈ wsG := ⟨mw_Mod_begins_II, Or.inl (wg 1337 (by decide +kernel) rfl), (wg 1339 (by decide +kernel) rfl), (wp (q := (y_Mod_begins_II, 54)) (by decide +kernel) rfl)⟩
theorem mw_Mod_isDigit : MW y_Mod_isDigit b_Mod_isDigit 1 (some .boolean) 0 := ⟨(wg 14 (by decide +kernel) rfl), (wg 1354 (by decide +kernel) rfl), ⟨by decide, by decide, by decide +kernel⟩, by decide⟩
theorem cv_Mod_221 : MW y_Mod_isDigit b_Mod_isDigit 1 (some .boolean) 0 ∧ LK "GuideWalksLastModel" 221 y_Mod_isDigit ∧ Cond.instanceMethod y_Mod_isDigit ∈ wsG ∧ Cond.selects y_Mod_isDigit.cls y_Mod_isDigit y_Mod_isDigit ∈ wsG := ⟨mw_Mod_isDigit, Or.inl (wg 1351 (by decide +kernel) rfl), (wg 1353 (by decide +kernel) rfl), (wp (q := (y_Mod_isDigit, 54)) (by decide +kernel) rfl)⟩
theorem mw_Mod_readsThing : MW y_Mod_readsThing b_Mod_readsThing 5 (some .boolean) 1 := ⟨(wg 14 (by decide +kernel) rfl), (wg 1349 (by decide +kernel) rfl), ⟨by decide, by decide, by decide +kernel⟩, by decide⟩
theorem cv_Mod_229 : MW y_Mod_readsThing b_Mod_readsThing 5 (some .boolean) 1 ∧ LK "GuideWalksLastModel" 229 y_Mod_readsThing ∧ Cond.instanceMethod y_Mod_readsThing ∈ wsG ∧ Cond.selects y_Mod_readsThing.cls y_Mod_readsThing y_Mod_readsThing ∈ wsG := ⟨mw_Mod_readsThing, Or.inl (wg 1346 (by decide +kernel) rfl), (wg 1348 (by decide +kernel) rfl), (wp (q := (y_Mod_readsThing, 54)) (by decide +kernel) rfl)⟩
theorem mw_Mod_faultOf : MW y_Mod_faultOf b_Mod_faultOf 5 (some .int) 3 := ⟨(wg 14 (by decide +kernel) rfl), (wg 1360 (by decide +kernel) rfl), ⟨by decide, by decide, by decide +kernel⟩, by decide⟩
theorem cv_Mod_232 : MW y_Mod_faultOf b_Mod_faultOf 5 (some .int) 3 ∧ LK "GuideWalksLastModel" 232 y_Mod_faultOf ∧ Cond.instanceMethod y_Mod_faultOf ∈ wsG ∧ Cond.selects y_Mod_faultOf.cls y_Mod_faultOf y_Mod_faultOf ∈ wsG := ⟨mw_Mod_faultOf, Or.inl (wg 1357 (by decide +kernel) rfl), (wg 1359 (by decide +kernel) rfl), (wp (q := (y_Mod_faultOf, 54)) (by decide +kernel) rfl)⟩
theorem mw_Mod_isCell : MW y_Mod_isCell b_Mod_isCell 2 (some .boolean) 1 := ⟨(wg 14 (by decide +kernel) rfl), (wg 1368 (by decide +kernel) rfl), ⟨by decide, by decide, by decide +kernel⟩, by decide⟩
theorem cv_Mod_236 : MW y_Mod_isCell b_Mod_isCell 2 (some .boolean) 1 ∧ LK "GuideWalksLastModel" 236 y_Mod_isCell ∧ Cond.instanceMethod y_Mod_isCell ∈ wsG ∧ Cond.selects y_Mod_isCell.cls y_Mod_isCell y_Mod_isCell ∈ wsG := ⟨mw_Mod_isCell, Or.inl (wg 1365 (by decide +kernel) rfl), (wg 1367 (by decide +kernel) rfl), (wp (q := (y_Mod_isCell, 54)) (by decide +kernel) rfl)⟩
theorem mw_Mod_puts : MW y_Mod_puts b_Mod_puts 4 none 2 := ⟨(wg 14 (by decide +kernel) rfl), (wg 1415 (by decide +kernel) rfl), ⟨by decide, by decide, by decide +kernel⟩, by decide⟩
theorem cv_Mod_245 : MW y_Mod_puts b_Mod_puts 4 none 2 ∧ LK "GuideWalksLastModel" 245 y_Mod_puts ∧ Cond.instanceMethod y_Mod_puts ∈ wsG ∧ Cond.selects y_Mod_puts.cls y_Mod_puts y_Mod_puts ∈ wsG := ⟨mw_Mod_puts, Or.inl (wg 1412 (by decide +kernel) rfl), (wg 1414 (by decide +kernel) rfl), (wp (q := (y_Mod_puts, 54)) (by decide +kernel) rfl)⟩
theorem mw_Mod_turned : MW y_Mod_turned b_Mod_turned 2 (some .int) 2 := ⟨(wg 14 (by decide +kernel) rfl), (wg 1422 (by decide +kernel) rfl), ⟨by decide, by decide, by decide +kernel⟩, by decide⟩
theorem cv_Mod_249 : MW y_Mod_turned b_Mod_turned 2 (some .int) 2 ∧ LK "GuideWalksLastModel" 249 y_Mod_turned ∧ Cond.static y_Mod_turned ∈ wsG := ⟨mw_Mod_turned, Or.inl (wg 1420 (by decide +kernel) rfl), (wg 1421 (by decide +kernel) rfl)⟩
theorem mw_Mod_cellBy : MW y_Mod_cellBy b_Mod_cellBy 6 (some .int) 2 := ⟨(wg 14 (by decide +kernel) rfl), (wg 1426 (by decide +kernel) rfl), ⟨by decide, by decide, by decide +kernel⟩, by decide⟩
theorem cv_Mod_252 : MW y_Mod_cellBy b_Mod_cellBy 6 (some .int) 2 ∧ LK "GuideWalksLastModel" 252 y_Mod_cellBy ∧ Cond.instanceMethod y_Mod_cellBy ∈ wsG ∧ Cond.selects y_Mod_cellBy.cls y_Mod_cellBy y_Mod_cellBy ∈ wsG := ⟨mw_Mod_cellBy, Or.inl (wg 1423 (by decide +kernel) rfl), (wg 1425 (by decide +kernel) rfl), (wp (q := (y_Mod_cellBy, 54)) (by decide +kernel) rfl)⟩
theorem mw_Mod_draws : MW y_Mod_draws b_Mod_draws 2 (some .int) 1 := ⟨(wg 14 (by decide +kernel) rfl), (wg 1438 (by decide +kernel) rfl), ⟨by decide, by decide, by decide +kernel⟩, by decide⟩
theorem cv_Mod_256 : MW y_Mod_draws b_Mod_draws 2 (some .int) 1 ∧ LK "GuideWalksLastModel" 256 y_Mod_draws ∧ Cond.instanceMethod y_Mod_draws ∈ wsG ∧ Cond.selects y_Mod_draws.cls y_Mod_draws y_Mod_draws ∈ wsG := ⟨mw_Mod_draws, Or.inl (wg 1435 (by decide +kernel) rfl), (wg 1437 (by decide +kernel) rfl), (wp (q := (y_Mod_draws, 54)) (by decide +kernel) rfl)⟩
theorem mw_Mod_isTurn : MW y_Mod_isTurn b_Mod_isTurn 1 (some .boolean) 1 := ⟨(wg 14 (by decide +kernel) rfl), (wg 1402 (by decide +kernel) rfl), ⟨by decide, by decide, by decide +kernel⟩, by decide⟩
theorem cv_Mod_261 : MW y_Mod_isTurn b_Mod_isTurn 1 (some .boolean) 1 ∧ LK "GuideWalksLastModel" 261 y_Mod_isTurn ∧ Cond.static y_Mod_isTurn ∈ wsG := ⟨mw_Mod_isTurn, Or.inl (wg 1400 (by decide +kernel) rfl), (wg 1401 (by decide +kernel) rfl)⟩
theorem mw_Mod_isEnd : MW y_Mod_isEnd b_Mod_isEnd 2 (some .boolean) 1 := ⟨(wg 14 (by decide +kernel) rfl), (wg 1407 (by decide +kernel) rfl), ⟨by decide, by decide, by decide +kernel⟩, by decide⟩
theorem cv_Mod_264 : MW y_Mod_isEnd b_Mod_isEnd 2 (some .boolean) 1 ∧ LK "GuideWalksLastModel" 264 y_Mod_isEnd ∧ Cond.instanceMethod y_Mod_isEnd ∈ wsG ∧ Cond.selects y_Mod_isEnd.cls y_Mod_isEnd y_Mod_isEnd ∈ wsG := ⟨mw_Mod_isEnd, Or.inl (wg 1404 (by decide +kernel) rfl), (wg 1406 (by decide +kernel) rfl), (wp (q := (y_Mod_isEnd, 54)) (by decide +kernel) rfl)⟩
theorem mw_Mod_putsBy : MW y_Mod_putsBy b_Mod_putsBy 2 none 0 := ⟨(wg 14 (by decide +kernel) rfl), (wg 1411 (by decide +kernel) rfl), ⟨by decide, by decide, by decide +kernel⟩, by decide⟩
theorem cv_Mod_267 : MW y_Mod_putsBy b_Mod_putsBy 2 none 0 ∧ LK "GuideWalksLastModel" 267 y_Mod_putsBy ∧ Cond.instanceMethod y_Mod_putsBy ∈ wsG ∧ Cond.selects y_Mod_putsBy.cls y_Mod_putsBy y_Mod_putsBy ∈ wsG := ⟨mw_Mod_putsBy, Or.inl (wg 1408 (by decide +kernel) rfl), (wg 1410 (by decide +kernel) rfl), (wp (q := (y_Mod_putsBy, 54)) (by decide +kernel) rfl)⟩
theorem mw_Mod_steps : MW y_Mod_steps b_Mod_steps 3 (some .int) 1 := ⟨(wg 14 (by decide +kernel) rfl), (wg 1419 (by decide +kernel) rfl), ⟨by decide, by decide, by decide +kernel⟩, by decide⟩
theorem cv_Mod_270 : MW y_Mod_steps b_Mod_steps 3 (some .int) 1 ∧ LK "GuideWalksLastModel" 270 y_Mod_steps ∧ Cond.instanceMethod y_Mod_steps ∈ wsG ∧ Cond.selects y_Mod_steps.cls y_Mod_steps y_Mod_steps ∈ wsG := ⟨mw_Mod_steps, Or.inl (wg 1416 (by decide +kernel) rfl), (wg 1418 (by decide +kernel) rfl), (wp (q := (y_Mod_steps, 54)) (by decide +kernel) rfl)⟩
theorem mw_Mod_turnByWeights : MW y_Mod_turnByWeights b_Mod_turnByWeights 2 (some .int) 0 := ⟨(wg 14 (by decide +kernel) rfl), (wg 1434 (by decide +kernel) rfl), ⟨by decide, by decide, by decide +kernel⟩, by decide⟩
theorem cv_Mod_273 : MW y_Mod_turnByWeights b_Mod_turnByWeights 2 (some .int) 0 ∧ LK "GuideWalksLastModel" 273 y_Mod_turnByWeights ∧ Cond.instanceMethod y_Mod_turnByWeights ∈ wsG ∧ Cond.selects y_Mod_turnByWeights.cls y_Mod_turnByWeights y_Mod_turnByWeights ∈ wsG := ⟨mw_Mod_turnByWeights, Or.inl (wg 1431 (by decide +kernel) rfl), (wg 1433 (by decide +kernel) rfl), (wp (q := (y_Mod_turnByWeights, 54)) (by decide +kernel) rfl)⟩
theorem mw_Mod_takesBack : MW y_Mod_takesBack b_Mod_takesBack 4 none 2 := ⟨(wg 14 (by decide +kernel) rfl), (wg 1455 (by decide +kernel) rfl), ⟨by decide, by decide, by decide +kernel⟩, by decide⟩
theorem cv_Mod_276 : MW y_Mod_takesBack b_Mod_takesBack 4 none 2 ∧ LK "GuideWalksLastModel" 276 y_Mod_takesBack ∧ Cond.instanceMethod y_Mod_takesBack ∈ wsG ∧ Cond.selects y_Mod_takesBack.cls y_Mod_takesBack y_Mod_takesBack ∈ wsG := ⟨mw_Mod_takesBack, Or.inl (wg 1452 (by decide +kernel) rfl), (wg 1454 (by decide +kernel) rfl), (wp (q := (y_Mod_takesBack, 54)) (by decide +kernel) rfl)⟩
theorem mw_Mod_endOf : MW y_Mod_endOf b_Mod_endOf 1 (some .int) 1 := ⟨(wg 14 (by decide +kernel) rfl), (wg 1463 (by decide +kernel) rfl), ⟨by decide, by decide, by decide +kernel⟩, by decide⟩
theorem cv_Mod_281 : MW y_Mod_endOf b_Mod_endOf 1 (some .int) 1 ∧ LK "GuideWalksLastModel" 281 y_Mod_endOf ∧ Cond.static y_Mod_endOf ∈ wsG := ⟨mw_Mod_endOf, Or.inl (wg 1461 (by decide +kernel) rfl), (wg 1462 (by decide +kernel) rfl)⟩
theorem mw_Mod_farBehind : MW y_Mod_farBehind b_Mod_farBehind 5 (some .int) 3 := ⟨(wg 14 (by decide +kernel) rfl), (wg 1476 (by decide +kernel) rfl), ⟨by decide, by decide, by decide +kernel⟩, by decide⟩
theorem cv_Mod_285 : MW y_Mod_farBehind b_Mod_farBehind 5 (some .int) 3 ∧ LK "GuideWalksLastModel" 285 y_Mod_farBehind ∧ Cond.instanceMethod y_Mod_farBehind ∈ wsG ∧ Cond.selects y_Mod_farBehind.cls y_Mod_farBehind y_Mod_farBehind ∈ wsG := ⟨mw_Mod_farBehind, Or.inl (wg 1473 (by decide +kernel) rfl), (wg 1475 (by decide +kernel) rfl), (wp (q := (y_Mod_farBehind, 54)) (by decide +kernel) rfl)⟩
theorem mw_Mod_measures : MW y_Mod_measures b_Mod_measures 6 none 0 := ⟨(wg 14 (by decide +kernel) rfl), (wg 1471 (by decide +kernel) rfl), ⟨by decide, by decide, by decide +kernel⟩, by decide⟩
theorem cv_Mod_289 : MW y_Mod_measures b_Mod_measures 6 none 0 ∧ LK "GuideWalksLastModel" 289 y_Mod_measures ∧ Cond.instanceMethod y_Mod_measures ∈ wsG ∧ Cond.selects y_Mod_measures.cls y_Mod_measures y_Mod_measures ∈ wsG := ⟨mw_Mod_measures, Or.inl (wg 1468 (by decide +kernel) rfl), (wg 1470 (by decide +kernel) rfl), (wp (q := (y_Mod_measures, 54)) (by decide +kernel) rfl)⟩
theorem mw_Mod_seesHere : MW y_Mod_seesHere b_Mod_seesHere 2 none 0 := ⟨(wg 14 (by decide +kernel) rfl), (wg 1484 (by decide +kernel) rfl), ⟨by decide, by decide, by decide +kernel⟩, by decide⟩
theorem cv_Mod_292 : MW y_Mod_seesHere b_Mod_seesHere 2 none 0 ∧ LK "GuideWalksLastModel" 292 y_Mod_seesHere ∧ Cond.instanceMethod y_Mod_seesHere ∈ wsG ∧ Cond.selects y_Mod_seesHere.cls y_Mod_seesHere y_Mod_seesHere ∈ wsG := ⟨mw_Mod_seesHere, Or.inl (wg 1481 (by decide +kernel) rfl), (wg 1483 (by decide +kernel) rfl), (wp (q := (y_Mod_seesHere, 54)) (by decide +kernel) rfl)⟩
theorem mw_Mod_spreads : MW y_Mod_spreads b_Mod_spreads 7 (some .boolean) 1 := ⟨(wg 14 (by decide +kernel) rfl), (wg 1488 (by decide +kernel) rfl), ⟨by decide, by decide, by decide +kernel⟩, by decide⟩
theorem cv_Mod_295 : MW y_Mod_spreads b_Mod_spreads 7 (some .boolean) 1 ∧ LK "GuideWalksLastModel" 295 y_Mod_spreads ∧ Cond.instanceMethod y_Mod_spreads ∈ wsG ∧ Cond.selects y_Mod_spreads.cls y_Mod_spreads y_Mod_spreads ∈ wsG := ⟨mw_Mod_spreads, Or.inl (wg 1485 (by decide +kernel) rfl), (wg 1487 (by decide +kernel) rfl), (wp (q := (y_Mod_spreads, 54)) (by decide +kernel) rfl)⟩
theorem mw_Mod_tellsSeen : MW y_Mod_tellsSeen b_Mod_tellsSeen 10 (some .int) 1 := ⟨(wg 14 (by decide +kernel) rfl), (wg 1492 (by decide +kernel) rfl), ⟨by decide, by decide, by decide +kernel⟩, by decide⟩
theorem cv_Mod_299 : MW y_Mod_tellsSeen b_Mod_tellsSeen 10 (some .int) 1 ∧ LK "GuideWalksLastModel" 299 y_Mod_tellsSeen ∧ Cond.instanceMethod y_Mod_tellsSeen ∈ wsG ∧ Cond.selects y_Mod_tellsSeen.cls y_Mod_tellsSeen y_Mod_tellsSeen ∈ wsG := ⟨mw_Mod_tellsSeen, Or.inl (wg 1489 (by decide +kernel) rfl), (wg 1491 (by decide +kernel) rfl), (wp (q := (y_Mod_tellsSeen, 54)) (by decide +kernel) rfl)⟩
theorem mw_Mod_stateOf : MW y_Mod_stateOf b_Mod_stateOf 4 (some .int) 3 := ⟨(wg 14 (by decide +kernel) rfl), (wg 1512 (by decide +kernel) rfl), ⟨by decide, by decide, by decide +kernel⟩, by decide⟩
theorem cv_Mod_304 : MW y_Mod_stateOf b_Mod_stateOf 4 (some .int) 3 ∧ LK "GuideWalksLastModel" 304 y_Mod_stateOf ∧ Cond.instanceMethod y_Mod_stateOf ∈ wsG ∧ Cond.selects y_Mod_stateOf.cls y_Mod_stateOf y_Mod_stateOf ∈ wsG := ⟨mw_Mod_stateOf, Or.inl (wg 1509 (by decide +kernel) rfl), (wg 1511 (by decide +kernel) rfl), (wp (q := (y_Mod_stateOf, 54)) (by decide +kernel) rfl)⟩
theorem mw_Mod_partOf : MW y_Mod_partOf b_Mod_partOf 3 (some .int) 2 := ⟨(wg 14 (by decide +kernel) rfl), (wg 1525 (by decide +kernel) rfl), ⟨by decide, by decide, by decide +kernel⟩, by decide⟩
theorem cv_Mod_307 : MW y_Mod_partOf b_Mod_partOf 3 (some .int) 2 ∧ LK "GuideWalksLastModel" 307 y_Mod_partOf ∧ Cond.instanceMethod y_Mod_partOf ∈ wsG ∧ Cond.selects y_Mod_partOf.cls y_Mod_partOf y_Mod_partOf ∈ wsG := ⟨mw_Mod_partOf, Or.inl (wg 1522 (by decide +kernel) rfl), (wg 1524 (by decide +kernel) rfl), (wp (q := (y_Mod_partOf, 54)) (by decide +kernel) rfl)⟩
theorem mw_Mod_comesOf : MW y_Mod_comesOf b_Mod_comesOf 11 (some .long) 5 := ⟨(wg 14 (by decide +kernel) rfl), (wg 1521 (by decide +kernel) rfl), ⟨by decide, by decide, by decide +kernel⟩, by decide⟩
theorem cv_Mod_310 : MW y_Mod_comesOf b_Mod_comesOf 11 (some .long) 5 ∧ LK "GuideWalksLastModel" 310 y_Mod_comesOf ∧ Cond.instanceMethod y_Mod_comesOf ∈ wsG ∧ Cond.selects y_Mod_comesOf.cls y_Mod_comesOf y_Mod_comesOf ∈ wsG := ⟨mw_Mod_comesOf, Or.inl (wg 1518 (by decide +kernel) rfl), (wg 1520 (by decide +kernel) rfl), (wp (q := (y_Mod_comesOf, 54)) (by decide +kernel) rfl)⟩
theorem mw_JMath_max_JJ : MW y_JMath_max_JJ b_JMath_max_JJ 4 (some .long) 2 := ⟨(wg 15 (by decide +kernel) rfl), (wg 1528 (by decide +kernel) rfl), ⟨by decide, by decide, by decide +kernel⟩, by decide⟩
theorem cv_Mod_314 : MW y_JMath_max_JJ b_JMath_max_JJ 4 (some .long) 2 ∧ LK "GuideWalksLastModel" 314 y_JMath_max_JJ ∧ Cond.static y_JMath_max_JJ ∈ wsG := ⟨mw_JMath_max_JJ, Or.inl (wg 1526 (by decide +kernel) rfl), (wg 1527 (by decide +kernel) rfl)⟩
theorem mw_Mod_laysOut : MW y_Mod_laysOut b_Mod_laysOut 6 none 1 := ⟨(wg 14 (by decide +kernel) rfl), (wg 1508 (by decide +kernel) rfl), ⟨by decide, by decide, by decide +kernel⟩, by decide⟩
theorem cv_Mod_317 : MW y_Mod_laysOut b_Mod_laysOut 6 none 1 ∧ LK "GuideWalksLastModel" 317 y_Mod_laysOut ∧ Cond.instanceMethod y_Mod_laysOut ∈ wsG ∧ Cond.selects y_Mod_laysOut.cls y_Mod_laysOut y_Mod_laysOut ∈ wsG := ⟨mw_Mod_laysOut, Or.inl (wg 1505 (by decide +kernel) rfl), (wg 1507 (by decide +kernel) rfl), (wp (q := (y_Mod_laysOut, 54)) (by decide +kernel) rfl)⟩
theorem mw_Mod_goesBack : MW y_Mod_goesBack b_Mod_goesBack 9 none 1 := ⟨(wg 14 (by decide +kernel) rfl), (wg 1516 (by decide +kernel) rfl), ⟨by decide, by decide, by decide +kernel⟩, by decide⟩
theorem cv_Mod_321 : MW y_Mod_goesBack b_Mod_goesBack 9 none 1 ∧ LK "GuideWalksLastModel" 321 y_Mod_goesBack ∧ Cond.instanceMethod y_Mod_goesBack ∈ wsG ∧ Cond.selects y_Mod_goesBack.cls y_Mod_goesBack y_Mod_goesBack ∈ wsG := ⟨mw_Mod_goesBack, Or.inl (wg 1513 (by decide +kernel) rfl), (wg 1515 (by decide +kernel) rfl), (wp (q := (y_Mod_goesBack, 54)) (by decide +kernel) rfl)⟩
theorem mw_Mod_areSteps : MW y_Mod_areSteps b_Mod_areSteps 1 (some .boolean) 1 := ⟨(wg 14 (by decide +kernel) rfl), (wg 1499 (by decide +kernel) rfl), ⟨by decide, by decide, by decide +kernel⟩, by decide⟩
theorem cv_Mod_326 : MW y_Mod_areSteps b_Mod_areSteps 1 (some .boolean) 1 ∧ LK "GuideWalksLastModel" 326 y_Mod_areSteps ∧ Cond.static y_Mod_areSteps ∈ wsG := ⟨mw_Mod_areSteps, Or.inl (wg 1497 (by decide +kernel) rfl), (wg 1498 (by decide +kernel) rfl)⟩
theorem mw_Mod_works : MW y_Mod_works b_Mod_works 5 none 3 := ⟨(wg 14 (by decide +kernel) rfl), (wg 1504 (by decide +kernel) rfl), ⟨by decide, by decide, by decide +kernel⟩, by decide⟩
theorem cv_Mod_329 : MW y_Mod_works b_Mod_works 5 none 3 ∧ LK "GuideWalksLastModel" 329 y_Mod_works ∧ Cond.instanceMethod y_Mod_works ∈ wsG ∧ Cond.selects y_Mod_works.cls y_Mod_works y_Mod_works ∈ wsG := ⟨mw_Mod_works, Or.inl (wg 1501 (by decide +kernel) rfl), (wg 1503 (by decide +kernel) rfl), (wp (q := (y_Mod_works, 54)) (by decide +kernel) rfl)⟩
theorem mw_Mod_chanceNow : MW y_Mod_chanceNow b_Mod_chanceNow 2 (some .long) 1 := ⟨(wg 14 (by decide +kernel) rfl), (wg 1532 (by decide +kernel) rfl), ⟨by decide, by decide, by decide +kernel⟩, by decide⟩
theorem cv_Mod_333 : MW y_Mod_chanceNow b_Mod_chanceNow 2 (some .long) 1 ∧ LK "GuideWalksLastModel" 333 y_Mod_chanceNow ∧ Cond.instanceMethod y_Mod_chanceNow ∈ wsG ∧ Cond.selects y_Mod_chanceNow.cls y_Mod_chanceNow y_Mod_chanceNow ∈ wsG := ⟨mw_Mod_chanceNow, Or.inl (wg 1529 (by decide +kernel) rfl), (wg 1531 (by decide +kernel) rfl), (wp (q := (y_Mod_chanceNow, 54)) (by decide +kernel) rfl)⟩
theorem mw_Mod_whole : MW y_Mod_whole b_Mod_whole 4 (some .long) 1 := ⟨(wg 14 (by decide +kernel) rfl), (wg 1535 (by decide +kernel) rfl), ⟨by decide, by decide, by decide +kernel⟩, by decide⟩
theorem cv_Mod_337 : MW y_Mod_whole b_Mod_whole 4 (some .long) 1 ∧ LK "GuideWalksLastModel" 337 y_Mod_whole ∧ Cond.static y_Mod_whole ∈ wsG := ⟨mw_Mod_whole, Or.inl (wg 1533 (by decide +kernel) rfl), (wg 1534 (by decide +kernel) rfl)⟩
theorem mw_Mod_entersFraction : MW y_Mod_entersFraction b_Mod_entersFraction 7 none 2 := ⟨(wg 14 (by decide +kernel) rfl), (wg 1539 (by decide +kernel) rfl), ⟨by decide, by decide, by decide +kernel⟩, by decide⟩
theorem cv_Mod_340 : MW y_Mod_entersFraction b_Mod_entersFraction 7 none 2 ∧ LK "GuideWalksLastModel" 340 y_Mod_entersFraction ∧ Cond.instanceMethod y_Mod_entersFraction ∈ wsG ∧ Cond.selects y_Mod_entersFraction.cls y_Mod_entersFraction y_Mod_entersFraction ∈ wsG := ⟨mw_Mod_entersFraction, Or.inl (wg 1536 (by decide +kernel) rfl), (wg 1538 (by decide +kernel) rfl), (wp (q := (y_Mod_entersFraction, 54)) (by decide +kernel) rfl)⟩
theorem mw_Mod_massOn : MW y_Mod_massOn b_Mod_massOn 5 (some .long) 1 := ⟨(wg 14 (by decide +kernel) rfl), (wg 1573 (by decide +kernel) rfl), ⟨by decide, by decide, by decide +kernel⟩, by decide⟩
theorem cv_Mod_344 : MW y_Mod_massOn b_Mod_massOn 5 (some .long) 1 ∧ LK "GuideWalksLastModel" 344 y_Mod_massOn ∧ Cond.instanceMethod y_Mod_massOn ∈ wsG ∧ Cond.selects y_Mod_massOn.cls y_Mod_massOn y_Mod_massOn ∈ wsG := ⟨mw_Mod_massOn, Or.inl (wg 1570 (by decide +kernel) rfl), (wg 1572 (by decide +kernel) rfl), (wp (q := (y_Mod_massOn, 54)) (by decide +kernel) rfl)⟩
theorem mw_Mod_goesOn : MW y_Mod_goesOn b_Mod_goesOn 7 none 0 := ⟨(wg 14 (by decide +kernel) rfl), (wg 1577 (by decide +kernel) rfl), ⟨by decide, by decide, by decide +kernel⟩, by decide⟩
theorem cv_Mod_347 : MW y_Mod_goesOn b_Mod_goesOn 7 none 0 ∧ LK "GuideWalksLastModel" 347 y_Mod_goesOn ∧ Cond.instanceMethod y_Mod_goesOn ∈ wsG ∧ Cond.selects y_Mod_goesOn.cls y_Mod_goesOn y_Mod_goesOn ∈ wsG := ⟨mw_Mod_goesOn, Or.inl (wg 1574 (by decide +kernel) rfl), (wg 1576 (by decide +kernel) rfl), (wp (q := (y_Mod_goesOn, 54)) (by decide +kernel) rfl)⟩
theorem mw_Mod_wantsBack : MW y_Mod_wantsBack b_Mod_wantsBack 7 none 2 := ⟨(wg 14 (by decide +kernel) rfl), (wg 1601 (by decide +kernel) rfl), ⟨by decide, by decide, by decide +kernel⟩, by decide⟩
theorem cv_Mod_350 : MW y_Mod_wantsBack b_Mod_wantsBack 7 none 2 ∧ LK "GuideWalksLastModel" 350 y_Mod_wantsBack ∧ Cond.instanceMethod y_Mod_wantsBack ∈ wsG ∧ Cond.selects y_Mod_wantsBack.cls y_Mod_wantsBack y_Mod_wantsBack ∈ wsG := ⟨mw_Mod_wantsBack, Or.inl (wg 1598 (by decide +kernel) rfl), (wg 1600 (by decide +kernel) rfl), (wp (q := (y_Mod_wantsBack, 54)) (by decide +kernel) rfl)⟩
theorem mw_Mod_wantsAt : MW y_Mod_wantsAt b_Mod_wantsAt 13 none 5 := ⟨(wg 14 (by decide +kernel) rfl), (wg 1605 (by decide +kernel) rfl), ⟨by decide, by decide, by decide +kernel⟩, by decide⟩
theorem cv_Mod_354 : MW y_Mod_wantsAt b_Mod_wantsAt 13 none 5 ∧ LK "GuideWalksLastModel" 354 y_Mod_wantsAt ∧ Cond.instanceMethod y_Mod_wantsAt ∈ wsG ∧ Cond.selects y_Mod_wantsAt.cls y_Mod_wantsAt y_Mod_wantsAt ∈ wsG := ⟨mw_Mod_wantsAt, Or.inl (wg 1602 (by decide +kernel) rfl), (wg 1604 (by decide +kernel) rfl), (wp (q := (y_Mod_wantsAt, 54)) (by decide +kernel) rfl)⟩
theorem mw_Mod_areFew : MW y_Mod_areFew b_Mod_areFew 1 (some .boolean) 1 := ⟨(wg 14 (by decide +kernel) rfl), (wg 1592 (by decide +kernel) rfl), ⟨by decide, by decide, by decide +kernel⟩, by decide⟩
theorem cv_Mod_360 : MW y_Mod_areFew b_Mod_areFew 1 (some .boolean) 1 ∧ LK "GuideWalksLastModel" 360 y_Mod_areFew ∧ Cond.static y_Mod_areFew ∈ wsG := ⟨mw_Mod_areFew, Or.inl (wg 1590 (by decide +kernel) rfl), (wg 1591 (by decide +kernel) rfl)⟩
theorem mw_Mod_wants : MW y_Mod_wants b_Mod_wants 6 none 2 := ⟨(wg 14 (by decide +kernel) rfl), (wg 1597 (by decide +kernel) rfl), ⟨by decide, by decide, by decide +kernel⟩, by decide⟩
theorem cv_Mod_363 : MW y_Mod_wants b_Mod_wants 6 none 2 ∧ LK "GuideWalksLastModel" 363 y_Mod_wants ∧ Cond.instanceMethod y_Mod_wants ∈ wsG ∧ Cond.selects y_Mod_wants.cls y_Mod_wants y_Mod_wants ∈ wsG := ⟨mw_Mod_wants, Or.inl (wg 1594 (by decide +kernel) rfl), (wg 1596 (by decide +kernel) rfl), (wp (q := (y_Mod_wants, 54)) (by decide +kernel) rfl)⟩
theorem mw_Mod_followed : MW y_Mod_followed b_Mod_followed 6 (some .int) 1 := ⟨(wg 14 (by decide +kernel) rfl), (wg 1633 (by decide +kernel) rfl), ⟨by decide, by decide, by decide +kernel⟩, by decide⟩
theorem cv_Mod_373 : MW y_Mod_followed b_Mod_followed 6 (some .int) 1 ∧ LK "GuideWalksLastModel" 373 y_Mod_followed ∧ Cond.instanceMethod y_Mod_followed ∈ wsG ∧ Cond.selects y_Mod_followed.cls y_Mod_followed y_Mod_followed ∈ wsG := ⟨mw_Mod_followed, Or.inl (wg 1630 (by decide +kernel) rfl), (wg 1632 (by decide +kernel) rfl), (wp (q := (y_Mod_followed, 54)) (by decide +kernel) rfl)⟩
theorem cv_Mod_376 : MW y_JInt_bitCount b_JInt_bitCount 1 (some .int) 1 ∧ LK "GuideWalksLastModel" 376 y_JInt_bitCount ∧ Cond.static y_JInt_bitCount ∈ wsG := ⟨mw_JInt_bitCount, Or.inl (wg 1649 (by decide +kernel) rfl), (wg 867 (by decide +kernel) rfl)⟩
theorem mw_Mod_boundOf : MW y_Mod_boundOf b_Mod_boundOf 2 (some .int) 2 := ⟨(wg 14 (by decide +kernel) rfl), (wg 1648 (by decide +kernel) rfl), ⟨by decide, by decide, by decide +kernel⟩, by decide⟩
theorem cv_Mod_385 : MW y_Mod_boundOf b_Mod_boundOf 2 (some .int) 2 ∧ LK "GuideWalksLastModel" 385 y_Mod_boundOf ∧ Cond.static y_Mod_boundOf ∈ wsG := ⟨mw_Mod_boundOf, Or.inl (wg 1646 (by decide +kernel) rfl), (wg 1647 (by decide +kernel) rfl)⟩
theorem mw_JInt_numberOfTrailingZeros : MW y_JInt_numberOfTrailingZeros b_JInt_numberOfTrailingZeros 2 (some .int) 1 := ⟨(wg 22 (by decide +kernel) rfl), (wg 1653 (by decide +kernel) rfl), ⟨by decide, by decide, by decide +kernel⟩, by decide⟩
theorem cv_Mod_388 : MW y_JInt_numberOfTrailingZeros b_JInt_numberOfTrailingZeros 2 (some .int) 1 ∧ LK "GuideWalksLastModel" 388 y_JInt_numberOfTrailingZeros ∧ Cond.static y_JInt_numberOfTrailingZeros ∈ wsG := ⟨mw_JInt_numberOfTrailingZeros, Or.inl (wg 1651 (by decide +kernel) rfl), (wg 1652 (by decide +kernel) rfl)⟩
theorem mw_Mod_has : MW y_Mod_has b_Mod_has 2 (some .boolean) 2 := ⟨(wg 14 (by decide +kernel) rfl), (wg 1657 (by decide +kernel) rfl), ⟨by decide, by decide, by decide +kernel⟩, by decide⟩
theorem cv_Mod_391 : MW y_Mod_has b_Mod_has 2 (some .boolean) 2 ∧ LK "GuideWalksLastModel" 391 y_Mod_has ∧ Cond.static y_Mod_has ∈ wsG := ⟨mw_Mod_has, Or.inl (wg 1655 (by decide +kernel) rfl), (wg 1656 (by decide +kernel) rfl)⟩
theorem mw_Mod_chooses : MW y_Mod_chooses b_Mod_chooses 8 none 3 := ⟨(wg 14 (by decide +kernel) rfl), (wg 1645 (by decide +kernel) rfl), ⟨by decide, by decide, by decide +kernel⟩, by decide⟩
theorem cv_Mod_395 : MW y_Mod_chooses b_Mod_chooses 8 none 3 ∧ LK "GuideWalksLastModel" 395 y_Mod_chooses ∧ Cond.instanceMethod y_Mod_chooses ∈ wsG ∧ Cond.selects y_Mod_chooses.cls y_Mod_chooses y_Mod_chooses ∈ wsG := ⟨mw_Mod_chooses, Or.inl (wg 1642 (by decide +kernel) rfl), (wg 1644 (by decide +kernel) rfl), (wp (q := (y_Mod_chooses, 54)) (by decide +kernel) rfl)⟩
theorem mw_JMath_abs_I : MW y_JMath_abs_I b_JMath_abs_I 1 (some .int) 1 := ⟨(wg 15 (by decide +kernel) rfl), (wg 1672 (by decide +kernel) rfl), ⟨by decide, by decide, by decide +kernel⟩, by decide⟩
theorem cv_Mod_399 : MW y_JMath_abs_I b_JMath_abs_I 1 (some .int) 1 ∧ LK "GuideWalksLastModel" 399 y_JMath_abs_I ∧ Cond.static y_JMath_abs_I ∈ wsG := ⟨mw_JMath_abs_I, Or.inl (wg 1670 (by decide +kernel) rfl), (wg 1671 (by decide +kernel) rfl)⟩
theorem mw_Mod_isBeside : MW y_Mod_isBeside b_Mod_isBeside 3 (some .boolean) 2 := ⟨(wg 14 (by decide +kernel) rfl), (wg 1669 (by decide +kernel) rfl), ⟨by decide, by decide, by decide +kernel⟩, by decide⟩
theorem cv_Mod_401 : MW y_Mod_isBeside b_Mod_isBeside 3 (some .boolean) 2 ∧ LK "GuideWalksLastModel" 401 y_Mod_isBeside ∧ Cond.instanceMethod y_Mod_isBeside ∈ wsG ∧ Cond.selects y_Mod_isBeside.cls y_Mod_isBeside y_Mod_isBeside ∈ wsG := ⟨mw_Mod_isBeside, Or.inl (wg 1666 (by decide +kernel) rfl), (wg 1668 (by decide +kernel) rfl), (wp (q := (y_Mod_isBeside, 54)) (by decide +kernel) rfl)⟩
theorem mw_Mod_leads : MW y_Mod_leads b_Mod_leads 4 (some .boolean) 3 := ⟨(wg 14 (by decide +kernel) rfl), (wg 1689 (by decide +kernel) rfl), ⟨by decide, by decide, by decide +kernel⟩, by decide⟩
theorem cv_Mod_407 : MW y_Mod_leads b_Mod_leads 4 (some .boolean) 3 ∧ LK "GuideWalksLastModel" 407 y_Mod_leads ∧ Cond.instanceMethod y_Mod_leads ∈ wsG ∧ Cond.selects y_Mod_leads.cls y_Mod_leads y_Mod_leads ∈ wsG := ⟨mw_Mod_leads, Or.inl (wg 1686 (by decide +kernel) rfl), (wg 1688 (by decide +kernel) rfl), (wp (q := (y_Mod_leads, 54)) (by decide +kernel) rfl)⟩
theorem mw_Mod_isLie : MW y_Mod_isLie b_Mod_isLie 5 (some .boolean) 3 := ⟨(wg 14 (by decide +kernel) rfl), (wg 1693 (by decide +kernel) rfl), ⟨by decide, by decide, by decide +kernel⟩, by decide⟩
theorem cv_Mod_411 : MW y_Mod_isLie b_Mod_isLie 5 (some .boolean) 3 ∧ LK "GuideWalksLastModel" 411 y_Mod_isLie ∧ Cond.instanceMethod y_Mod_isLie ∈ wsG ∧ Cond.selects y_Mod_isLie.cls y_Mod_isLie y_Mod_isLie ∈ wsG := ⟨mw_Mod_isLie, Or.inl (wg 1690 (by decide +kernel) rfl), (wg 1692 (by decide +kernel) rfl), (wp (q := (y_Mod_isLie, 54)) (by decide +kernel) rfl)⟩
theorem mw_Mod_looksBack : MW y_Mod_looksBack b_Mod_looksBack 8 none 0 := ⟨(wg 14 (by decide +kernel) rfl), (wg 1685 (by decide +kernel) rfl), ⟨by decide, by decide, by decide +kernel⟩, by decide⟩
theorem cv_Mod_416 : MW y_Mod_looksBack b_Mod_looksBack 8 none 0 ∧ LK "GuideWalksLastModel" 416 y_Mod_looksBack ∧ Cond.instanceMethod y_Mod_looksBack ∈ wsG ∧ Cond.selects y_Mod_looksBack.cls y_Mod_looksBack y_Mod_looksBack ∈ wsG := ⟨mw_Mod_looksBack, Or.inl (wg 1682 (by decide +kernel) rfl), (wg 1684 (by decide +kernel) rfl), (wp (q := (y_Mod_looksBack, 54)) (by decide +kernel) rfl)⟩
theorem mw_Mod_hires : MW y_Mod_hires b_Mod_hires 7 none 5 := ⟨(wg 14 (by decide +kernel) rfl), (wg 1715 (by decide +kernel) rfl), ⟨by decide, by decide, by decide +kernel⟩, by decide⟩
theorem cv_Mod_426 : MW y_Mod_hires b_Mod_hires 7 none 5 ∧ LK "GuideWalksLastModel" 426 y_Mod_hires ∧ Cond.instanceMethod y_Mod_hires ∈ wsG ∧ Cond.selects y_Mod_hires.cls y_Mod_hires y_Mod_hires ∈ wsG := ⟨mw_Mod_hires, Or.inl (wg 1712 (by decide +kernel) rfl), (wg 1714 (by decide +kernel) rfl), (wp (q := (y_Mod_hires, 54)) (by decide +kernel) rfl)⟩
theorem mw_Mod_hiresBy : MW y_Mod_hiresBy b_Mod_hiresBy 3 (some .int) 2 := ⟨(wg 14 (by decide +kernel) rfl), (wg 1711 (by decide +kernel) rfl), ⟨by decide, by decide, by decide +kernel⟩, by decide⟩
theorem cv_Mod_430 : MW y_Mod_hiresBy b_Mod_hiresBy 3 (some .int) 2 ∧ LK "GuideWalksLastModel" 430 y_Mod_hiresBy ∧ Cond.instanceMethod y_Mod_hiresBy ∈ wsG ∧ Cond.selects y_Mod_hiresBy.cls y_Mod_hiresBy y_Mod_hiresBy ∈ wsG := ⟨mw_Mod_hiresBy, Or.inl (wg 1708 (by decide +kernel) rfl), (wg 1710 (by decide +kernel) rfl), (wp (q := (y_Mod_hiresBy, 54)) (by decide +kernel) rfl)⟩
theorem mw_Mod_refuse : MW y_Mod_refuse b_Mod_refuse 1 (some .long) 0 := ⟨(wg 14 (by decide +kernel) rfl), (wg 1743 (by decide +kernel) rfl), ⟨by decide, by decide, by decide +kernel⟩, by decide⟩
theorem cv_Mod_433 : MW y_Mod_refuse b_Mod_refuse 1 (some .long) 0 ∧ LK "GuideWalksLastModel" 433 y_Mod_refuse ∧ Cond.instanceMethod y_Mod_refuse ∈ wsG ∧ Cond.selects y_Mod_refuse.cls y_Mod_refuse y_Mod_refuse ∈ wsG := ⟨mw_Mod_refuse, Or.inl (wg 1740 (by decide +kernel) rfl), (wg 1742 (by decide +kernel) rfl), (wp (q := (y_Mod_refuse, 54)) (by decide +kernel) rfl)⟩
theorem mw_JStr_coder : MW y_JStr_coder b_JStr_coder 1 (some .byte) 0 := ⟨(wg 16 (by decide +kernel) rfl), (wg 1292 (by decide +kernel) rfl), ⟨by decide, by decide, by decide +kernel⟩, by decide⟩
theorem cv_JStr_335 : MW y_JStr_coder b_JStr_coder 1 (some .byte) 0 ∧ LK "java/lang/String" 335 y_JStr_coder ∧ Cond.instanceMethod y_JStr_coder ∈ wsG ∧ Cond.selects y_JStr_coder.cls y_JStr_coder y_JStr_coder ∈ wsG := ⟨mw_JStr_coder, Or.inl (wg 1289 (by decide +kernel) rfl), (wg 1290 (by decide +kernel) rfl), (wg 1291 (by decide +kernel) rfl)⟩
theorem mw_JStr_isLatin1 : MW y_JStr_isLatin1 b_JStr_isLatin1 1 (some .boolean) 0 := ⟨(wg 16 (by decide +kernel) rfl), (wg 1302 (by decide +kernel) rfl), ⟨by decide, by decide, by decide +kernel⟩, by decide⟩
theorem cv_JStr_492 : MW y_JStr_isLatin1 b_JStr_isLatin1 1 (some .boolean) 0 ∧ LK "java/lang/String" 492 y_JStr_isLatin1 ∧ Cond.instanceMethod y_JStr_isLatin1 ∈ wsG ∧ Cond.selects y_JStr_isLatin1.cls y_JStr_isLatin1 y_JStr_isLatin1 ∈ wsG := ⟨mw_JStr_isLatin1, Or.inl (wg 1299 (by decide +kernel) rfl), (wg 1300 (by decide +kernel) rfl), (wg 1301 (by decide +kernel) rfl)⟩
theorem mw_JSL1_charAt : MW y_JSL1_charAt b_JSL1_charAt 2 (some .char) 2 := ⟨(wg 17 (by decide +kernel) rfl), (wg 1305 (by decide +kernel) rfl), ⟨by decide, by decide, by decide +kernel⟩, by decide⟩
theorem cv_JStr_495 : MW y_JSL1_charAt b_JSL1_charAt 2 (some .char) 2 ∧ LK "java/lang/String" 495 y_JSL1_charAt ∧ Cond.static y_JSL1_charAt ∈ wsG := ⟨mw_JSL1_charAt, Or.inl (wg 1303 (by decide +kernel) rfl), (wg 1304 (by decide +kernel) rfl)⟩
theorem mw_JPre_checkIndex : MW y_JPre_checkIndex b_JPre_checkIndex 3 (some .int) 3 := ⟨(wg 18 (by decide +kernel) rfl), (wg 1313 (by decide +kernel) rfl), ⟨by decide, by decide, by decide +kernel⟩, by decide⟩
theorem cv_JStr_1059 : MW y_JPre_checkIndex b_JPre_checkIndex 3 (some .int) 3 ∧ LK "java/lang/String" 1059 y_JPre_checkIndex ∧ Cond.static y_JPre_checkIndex ∈ wsG := ⟨mw_JPre_checkIndex, Or.inl (wg 1311 (by decide +kernel) rfl), (wg 1312 (by decide +kernel) rfl)⟩
theorem mw_JStr_checkIndex : MW y_JStr_checkIndex b_JStr_checkIndex 2 none 2 := ⟨(wg 16 (by decide +kernel) rfl), (wg 1308 (by decide +kernel) rfl), ⟨by decide, by decide, by decide +kernel⟩, by decide⟩
theorem cv_JSL1_9 : MW y_JStr_checkIndex b_JStr_checkIndex 2 none 2 ∧ LK "java/lang/StringLatin1" 9 y_JStr_checkIndex ∧ Cond.static y_JStr_checkIndex ∈ wsG := ⟨mw_JStr_checkIndex, Or.inl (wg 1306 (by decide +kernel) rfl), (wg 1307 (by decide +kernel) rfl)⟩
theorem nw_GWL_7 : NW "GuideWalksLast" 7 8 := ⟨by decide, (wg 35 (by decide +kernel) rfl), (wg 36 (by decide +kernel) rfl), (wg 2 (by decide +kernel) rfl), by decide +kernel⟩
theorem nw_GWL_16 : NW "GuideWalksLast" 16 4 := ⟨by decide, (wg 49 (by decide +kernel) rfl), (wg 50 (by decide +kernel) rfl), (wg 3 (by decide +kernel) rfl), by decide +kernel⟩
theorem nw_GWL_23 : NW "GuideWalksLast" 23 6 := ⟨by decide, (wg 64 (by decide +kernel) rfl), (wg 65 (by decide +kernel) rfl), (wg 4 (by decide +kernel) rfl), by decide +kernel⟩
theorem nw_GWL_34 : NW "GuideWalksLast" 34 0 := ⟨by decide, (wg 119 (by decide +kernel) rfl), (wg 120 (by decide +kernel) rfl), (wg 7 (by decide +kernel) rfl), by decide +kernel⟩
theorem nw_GWL_55 : NW "GuideWalksLast" 55 5 := ⟨by decide, (wg 150 (by decide +kernel) rfl), (wg 72 (by decide +kernel) rfl), (wg 5 (by decide +kernel) rfl), by decide +kernel⟩
theorem nw_GWL_65 : NW "GuideWalksLast" 65 9 := ⟨by decide, (wg 151 (by decide +kernel) rfl), (wg 152 (by decide +kernel) rfl), (wg 8 (by decide +kernel) rfl), by decide +kernel⟩
theorem nw_GWL_72 : NW "GuideWalksLast" 72 3 := ⟨by decide, (wg 168 (by decide +kernel) rfl), (wg 169 (by decide +kernel) rfl), (wg 9 (by decide +kernel) rfl), by decide +kernel⟩
theorem nw_GWL_79 : NW "GuideWalksLast" 79 2 := ⟨by decide, (wg 187 (by decide +kernel) rfl), (wg 188 (by decide +kernel) rfl), (wg 10 (by decide +kernel) rfl), by decide +kernel⟩
theorem nw_GWL_94 : NW "GuideWalksLast" 94 1 := ⟨by decide, (wg 215 (by decide +kernel) rfl), (wg 216 (by decide +kernel) rfl), (wg 11 (by decide +kernel) rfl), by decide +kernel⟩
theorem nw_GWL_103 : NW "GuideWalksLast" 103 10 := ⟨by decide, (wg 263 (by decide +kernel) rfl), (wg 264 (by decide +kernel) rfl), (wg 12 (by decide +kernel) rfl), by decide +kernel⟩
theorem nw_GWL_112 : NW "GuideWalksLast" 112 7 := ⟨by decide, (wg 288 (by decide +kernel) rfl), (wg 289 (by decide +kernel) rfl), (wg 13 (by decide +kernel) rfl), by decide +kernel⟩
theorem nw_Guide_9 : NW "GuideWalksLast$Guide" 9 9 := ⟨by decide, (wg 221 (by decide +kernel) rfl), (wg 152 (by decide +kernel) rfl), (wg 8 (by decide +kernel) rfl), by decide +kernel⟩
theorem nw_Guide_31 : NW "GuideWalksLast$Guide" 31 0 := ⟨by decide, (wg 223 (by decide +kernel) rfl), (wg 120 (by decide +kernel) rfl), (wg 7 (by decide +kernel) rfl), by decide +kernel⟩
theorem nw_Past_9 : NW "GuideWalksLast$Past" 9 5 := ⟨by decide, (wg 70 (by decide +kernel) rfl), (wg 72 (by decide +kernel) rfl), (wg 5 (by decide +kernel) rfl), by decide +kernel⟩
theorem na_20 : Cond.arrayClass (newarray.typeOf .int) ∈ wsG := (wg 48 (by decide +kernel) rfl)
theorem na_21 : Cond.arrayClass (newarray.typeOf .long) ∈ wsG := (wg 63 (by decide +kernel) rfl)
theorem na_22 : Cond.arrayClass (newarray.typeOf .boolean) ∈ wsG := (wg 167 (by decide +kernel) rfl)
theorem an_GWL_34 : Cond.classLink "GuideWalksLast" 34 "GuideWalksLast$Fee" ∈ wsG := (wg 119 (by decide +kernel) rfl)
theorem an_GWL_55 : Cond.classLink "GuideWalksLast" 55 "GuideWalksLast$Party" ∈ wsG := (wg 150 (by decide +kernel) rfl)
theorem an_Past_9 : Cond.classLink "GuideWalksLast$Past" 9 "GuideWalksLast$Party" ∈ wsG := (wg 70 (by decide +kernel) rfl)
theorem oi_i : Cond.instanceMethod Lib.objectInit ∈ wsG := (wg 33 (by decide +kernel) rfl)
theorem oi_c : Cond.code Lib.objectInit ⟨#[0xb1]⟩ 1 none ∈ wsG := (wg 34 (by decide +kernel) rfl)
theorem oi_GWL_1 : Cond.methodLink "GuideWalksLast" 1 Lib.objectInit ∈ wsG := (wg 32 (by decide +kernel) rfl)
theorem oi_Fee_3 : Cond.methodLink "GuideWalksLast$Fee" 3 Lib.objectInit ∈ wsG := (wg 124 (by decide +kernel) rfl)
theorem oi_Guide_3 : Cond.methodLink "GuideWalksLast$Guide" 3 Lib.objectInit ∈ wsG := (wg 220 (by decide +kernel) rfl)
theorem oi_Land_3 : Cond.methodLink "GuideWalksLast$Land" 3 Lib.objectInit ∈ wsG := (wg 192 (by decide +kernel) rfl)
theorem oi_Market_3 : Cond.methodLink "GuideWalksLast$Market" 3 Lib.objectInit ∈ wsG := (wg 173 (by decide +kernel) rfl)
theorem oi_Numbers_3 : Cond.methodLink "GuideWalksLast$Numbers" 3 Lib.objectInit ∈ wsG := (wg 54 (by decide +kernel) rfl)
theorem oi_Party_3 : Cond.methodLink "GuideWalksLast$Party" 3 Lib.objectInit ∈ wsG := (wg 76 (by decide +kernel) rfl)
theorem oi_Past_3 : Cond.methodLink "GuideWalksLast$Past" 3 Lib.objectInit ∈ wsG := (wg 69 (by decide +kernel) rfl)
theorem oi_Prints_3 : Cond.methodLink "GuideWalksLast$Prints" 3 Lib.objectInit ∈ wsG := (wg 293 (by decide +kernel) rfl)
theorem oi_Signs_3 : Cond.methodLink "GuideWalksLast$Signs" 3 Lib.objectInit ∈ wsG := (wg 40 (by decide +kernel) rfl)
theorem oi_Spread_3 : Cond.methodLink "GuideWalksLast$Spread" 3 Lib.objectInit ∈ wsG := (wg 156 (by decide +kernel) rfl)
theorem oi_Trail_3 : Cond.methodLink "GuideWalksLast$Trail" 3 Lib.objectInit ∈ wsG := (wg 268 (by decide +kernel) rfl)
theorem oi_Mod_28 : Cond.methodLink "GuideWalksLastModel" 28 Lib.objectInit ∈ wsG := (wg 1090 (by decide +kernel) rfl)
theorem gh_GWL_409 : Cond.fieldLink "GuideWalksLast" 409 "GuideWalksLast" "HUNDREDS" "[J" ∈ wsG := (wg 713 (by decide +kernel) rfl)
theorem gh_JStr_38 : Cond.fieldLink "java/lang/String" 38 "java/lang/String" "COMPACT_STRINGS" "Z" ∈ wsG := (wg 1293 (by decide +kernel) rfl)
theorem gh_JStr_1053 : Cond.fieldLink "java/lang/String" 1053 "jdk/internal/util/Preconditions" "SIOOBE_FORMATTER" "Ljava/util/function/BiFunction;" ∈ wsG := (wg 1309 (by decide +kernel) rfl)
theorem zf_JStr_9 : Cond.fieldLink "java/lang/String" 9 "java/lang/String" "value" "[B" ∈ wsG := (wg 1761 (by decide +kernel) rfl)
theorem zf_JStr_15 : Cond.fieldLink "java/lang/String" 15 "java/lang/String" "coder" "B" ∈ wsG := (wg 1762 (by decide +kernel) rfl)
theorem cp_n : Cond.native arraycopyName ∈ wsG := (wg 545 (by decide +kernel) rfl)
theorem cp_s : Cond.static arraycopyName ∈ wsG := (wg 544 (by decide +kernel) rfl)
theorem cp_i : Cond.initialized "java/lang/System" ∈ wsG := (wg 20 (by decide +kernel) rfl)
theorem cp_Party_40 : Cond.methodLink "GuideWalksLast$Party" 40 arraycopyName ∈ wsG := (wg 543 (by decide +kernel) rfl)
