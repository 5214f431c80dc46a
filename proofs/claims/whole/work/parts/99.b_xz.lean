/-! a frame whose end is any premise on what follows it -/
abbrev HYP : Type := Program → Jvm.Env → Room → State → MethodId → Array Value → List Frame → Method → Code → (State → Prop) → Prop
def XZ (E : Env) (y : MethodName) (cc : ByteArray) (nL : Nat) (ret : Option FieldType) (tg : Bool) (d nc ns pc : Nat) (o : List (Option Value)) (st : List Value) (S : MS) (I : MI) (L : ML) (R : MR) (n : Nat) (K : HYP) : Prop :=
  ∀ (p : Program) (e : Jvm.Env) (Rm : Room) (s : State) (m : MethodId) (args : Array Value) (below : List Frame) (meth : Method) (c : Code) (Zs : State → Prop) (H : Heap) (locs : List Loc) (cells slots : Nat) (ls : Array Slot),
    Fx E y cc nL ret p s m args meth c → d ≤ Rm.frames → 60 * d ≤ Rm.locals → K p e Rm s m args below meth c Zs →
    WR E tg S I L R n H → va_S (aA E) s.heap H locs → cells + nc ≤ Rm.cells → slots + ns ≤ Rm.slots → LH ls nL o →
    W p E.1 e Rm s m args below meth c H locs cells slots Zs (F0 m pc ls st)
/-- the premise that X has -/
def HK (E : Env) (cc : ByteArray) (ret : Option FieldType) (tg : Bool) (K : KT) : HYP := fun p e Rm s m args below meth c Zs =>
  ∀ (v : Option Value) (S' : MS) (I' : MI) (L' : ML) (R' : MR) (n' : Nat) (H' : Heap) (locs' : List Loc) (cells' slots' pc' : Nat) (ls' : Array Slot), K v S' I' L' R' n' → WR E tg S' I' L' R' n' H' → va_S (aA E) s.heap H' locs' → cells' ≤ Rm.cells → slots' ≤ Rm.slots → RetAt cc ret pc' v →
      W p E.1 e Rm s m args below meth c H' locs' cells' slots' Zs (F0 m pc' ls' v.toList)
section XZR
variable {E : Env} {y : MethodName} {cc : ByteArray} {nL : Nat} {ret : Option FieldType} {tg : Bool} {d nc ns pc : Nat} {o : List (Option Value)} {st : List Value} {S S' : MS} {I I' : MI} {L L' : ML} {R R' : MR} {n n' : Nat} {K : HYP}
theorem XZ.of {K' : KT} (h : X E y cc nL ret tg d nc ns pc o st S I L R n K') (hK : ∀ p e Rm s m args below meth c Zs, K p e Rm s m args below meth c Zs → HK E cc ret tg K' p e Rm s m args below meth c Zs) : XZ E y cc nL ret tg d nc ns pc o st S I L R n K :=
  fun p e Rm s m args below meth c Zs H locs cells slots ls hF hd hl hZ hW hS hc hs hL => h p e Rm s m args below meth c Zs H locs cells slots ls hF hd hl (hK p e Rm s m args below meth c Zs hZ) hW hS hc hs hL
/-- what follows may leave things of no name -/
theorem XZ.untag (h : XZ E y cc nL ret false d nc ns pc o st S I L R n K) : XZ E y cc nL ret true d nc ns pc o st S I L R n K :=
  fun p e Rm s m args below meth c Zs H locs cells slots ls hF hd hl hZ hW hS hc hs hL => h p e Rm s m args below meth c Zs H locs cells slots ls hF hd hl hZ ⟨hW.1, hW.2.1, hW.2.2.1, hW.2.2.2.1, fun z => (nomatch z)⟩ hS hc hs hL
theorem XZ.pass {pc' : Nat} {st' : List Value} (h : ∀ {p : Program} {e : Jvm.Env} {Rm : Room} {s : State} {m : MethodId} {args : Array Value} {below : List Frame} {meth : Method} {c : Code} {Zs : State → Prop} {H : Heap} {locs : List Loc} {cells slots : Nat} {ls : Array Slot}, Fx E y cc nL ret p s m args meth c → LH ls nL o →
    W p E.1 e Rm s m args below meth c H locs cells slots Zs (F0 m pc' ls st') → W p E.1 e Rm s m args below meth c H locs cells slots Zs (F0 m pc ls st))
    (k : XZ E y cc nL ret tg d nc ns pc' o st' S I L R n K) : XZ E y cc nL ret tg d nc ns pc o st S I L R n K :=
  fun p e Rm s m args below meth c Zs H locs cells slots ls hF hd hl hZ hW hS hc hs hL => h hF hL (k p e Rm s m args below meth c Zs H locs cells slots ls hF hd hl hZ hW hS hc hs hL)
theorem XZ.passL {pc' : Nat} {st' : List Value} {o' : List (Option Value)} (h : ∀ {p : Program} {e : Jvm.Env} {Rm : Room} {s : State} {m : MethodId} {args : Array Value} {below : List Frame} {meth : Method} {c : Code} {Zs : State → Prop} {H : Heap} {locs : List Loc} {cells slots : Nat} {ls : Array Slot}, Fx E y cc nL ret p s m args meth c → LH ls nL o →
    (∀ ls' : Array Slot, LH ls' nL o' → W p E.1 e Rm s m args below meth c H locs cells slots Zs (F0 m pc' ls' st')) → W p E.1 e Rm s m args below meth c H locs cells slots Zs (F0 m pc ls st))
    (k : XZ E y cc nL ret tg d nc ns pc' o' st' S I L R n K) : XZ E y cc nL ret tg d nc ns pc o st S I L R n K :=
  fun p e Rm s m args below meth c Zs H locs cells slots ls hF hd hl hZ hW hS hc hs hL => h hF hL (fun ls' hL' => k p e Rm s m args below meth c Zs H locs cells slots ls' hF hd hl hZ hW hS hc hs hL')
theorem XZ.iconst {i : Int} {v : Int32} (hv : Int32.ofInt i = v) (hd : decode cc pc = .ok (.iconst i, 1)) (k : XZ E y cc nL ret tg d nc ns (pc + 1) o (.int v :: st) S I L R n K) : XZ E y cc nL ret tg d nc ns pc o (st) S I L R n K :=
  XZ.pass (fun hF hL h => lv_iconst hF.1 hF.2.1 hd hv h) k
theorem XZ.dupr {a : Nat} (hd : decode cc pc = .ok (.dup, 1)) (k : XZ E y cc nL ret tg d nc ns (pc + 1) o (.ref a :: .ref a :: st) S I L R n K) : XZ E y cc nL ret tg d nc ns pc o (.ref a :: st) S I L R n K :=
  XZ.pass (fun hF hL h => lv_dup hF.1 hF.2.1 hd rfl h) k
theorem XZ.aload_0 {tl : List (Option Value)} {x : Nat} (hd : decode cc pc = .ok (.aload_n (0 : Fin 4), 1)) (k : XZ E y cc nL ret tg d nc ns (pc + 1) (some (.ref x) :: tl) (.ref x :: st) S I L R n K) : XZ E y cc nL ret tg d nc ns pc (some (.ref x) :: tl) st S I L R n K :=
  XZ.pass (fun hF hL h => lv_aload_n hF.1 hF.2.1 hd rfl (hL.at (i := 0) rfl) h) k
theorem XZ.iload_1 {o0 : Option Value} {tl : List (Option Value)} {x : Int32} (hd : decode cc pc = .ok (.iload_n (1 : Fin 4), 1)) (k : XZ E y cc nL ret tg d nc ns (pc + 1) (o0 :: some (.int x) :: tl) (.int x :: st) S I L R n K) : XZ E y cc nL ret tg d nc ns pc (o0 :: some (.int x) :: tl) st S I L R n K :=
  XZ.pass (fun hF hL h => lv_iload_n hF.1 hF.2.1 hd rfl (hL.at (i := 1) rfl) h) k
theorem XZ.astore_1 {o0 ox : Option Value} {tl : List (Option Value)} {x : Nat} (hd : decode cc pc = .ok (.astore_n (1 : Fin 4), 1)) (hn : 1 < nL) (hg : nlg (some o0) = true) (k : XZ E y cc nL ret tg d nc ns (pc + 1) (o0 :: some (.ref x) :: tl) st S I L R n K) : XZ E y cc nL ret tg d nc ns pc (o0 :: ox :: tl) (.ref x :: st) S I L R n K :=
  XZ.passL (fun hF hL h => lv_astore_n hF.1 hF.2.1 hd rfl hL hn rfl (fun ls' hl => h ls' (LH.st1 (Or.inr hg) hl))) k
theorem XZ.astore_2 {o0 o1 ox : Option Value} {tl : List (Option Value)} {x : Nat} (hd : decode cc pc = .ok (.astore_n (2 : Fin 4), 1)) (hn : 2 < nL) (hg : nlg (some o1) = true) (k : XZ E y cc nL ret tg d nc ns (pc + 1) (o0 :: o1 :: some (.ref x) :: tl) st S I L R n K) : XZ E y cc nL ret tg d nc ns pc (o0 :: o1 :: ox :: tl) (.ref x :: st) S I L R n K :=
  XZ.passL (fun hF hL h => lv_astore_n hF.1 hF.2.1 hd rfl hL hn rfl (fun ls' hl => h ls' (LH.st1 (Or.inr hg) hl))) k
theorem XZ.astore_3 {o0 o1 o2 ox : Option Value} {tl : List (Option Value)} {x : Nat} (hd : decode cc pc = .ok (.astore_n (3 : Fin 4), 1)) (hn : 3 < nL) (hg : nlg (some o2) = true) (k : XZ E y cc nL ret tg d nc ns (pc + 1) (o0 :: o1 :: o2 :: some (.ref x) :: tl) st S I L R n K) : XZ E y cc nL ret tg d nc ns pc (o0 :: o1 :: o2 :: ox :: tl) (.ref x :: st) S I L R n K :=
  XZ.passL (fun hF hL h => lv_astore_n hF.1 hF.2.1 hd rfl hL hn rfl (fun ls' hl => h ls' (LH.st1 (Or.inr hg) hl))) k
theorem XZ.istore_4 {o0 o1 o2 o3 ox : Option Value} {tl : List (Option Value)} {x : Int32} (hd : decode cc pc = .ok (.istore 4, 2)) (hn : 4 < nL) (hg : nlg (some o3) = true) (k : XZ E y cc nL ret tg d nc ns (pc + 2) (o0 :: o1 :: o2 :: o3 :: some (.int x) :: tl) st S I L R n K) : XZ E y cc nL ret tg d nc ns pc (o0 :: o1 :: o2 :: o3 :: ox :: tl) (.int x :: st) S I L R n K :=
  XZ.passL (fun hF hL h => lv_istore hF.1 hF.2.1 hd hL hn rfl (fun ls' hl => h ls' (LH.st1 (Or.inr hg) hl))) k
theorem XZ.aload_2 {o0 o1 : Option Value} {tl : List (Option Value)} {x : Nat} (hd : decode cc pc = .ok (.aload_n (2 : Fin 4), 1)) (k : XZ E y cc nL ret tg d nc ns (pc + 1) (o0 :: o1 :: some (.ref x) :: tl) (.ref x :: st) S I L R n K) : XZ E y cc nL ret tg d nc ns pc (o0 :: o1 :: some (.ref x) :: tl) st S I L R n K :=
  XZ.pass (fun hF hL h => lv_aload_n hF.1 hF.2.1 hd rfl (hL.at (i := 2) rfl) h) k
theorem XZ.if_lt {a : Int32} {off : Int} {tgt : Nat} (ht : (pc : Int) + off = (tgt : Int)) (hd : decode cc pc = .ok (.ifCond .lt off, 3)) (kt : a < 0 → XZ E y cc nL ret tg d nc ns tgt o st S I L R n K) (kf : ¬ (a < 0) → XZ E y cc nL ret tg d nc ns (pc + 3) o st S I L R n K) : XZ E y cc nL ret tg d nc ns pc o (.int a :: st) S I L R n K :=
  fun p e Rm s m args below meth c Zs H locs cells slots ls hF h1 h2 hZ hW hS hc hs hL => lv_if_lt hF.1 hF.2.1 hd ht (fun q => kt q p e Rm s m args below meth c Zs H locs cells slots ls hF h1 h2 hZ hW hS hc hs hL) (fun q => kf q p e Rm s m args below meth c Zs H locs cells slots ls hF h1 h2 hZ hW hS hc hs hL)
theorem XZ.icmp_lt {a b : Int32} {off : Int} {tgt : Nat} (ht : (pc : Int) + off = (tgt : Int)) (hd : decode cc pc = .ok (.if_icmp .lt off, 3)) (kt : a < b → XZ E y cc nL ret tg d nc ns tgt o st S I L R n K) (kf : ¬ (a < b) → XZ E y cc nL ret tg d nc ns (pc + 3) o st S I L R n K) : XZ E y cc nL ret tg d nc ns pc o (.int b :: .int a :: st) S I L R n K :=
  fun p e Rm s m args below meth c Zs H locs cells slots ls hF h1 h2 hZ hW hS hc hs hL => lv_icmp_lt hF.1 hF.2.1 hd ht (fun q => kt q p e Rm s m args below meth c Zs H locs cells slots ls hF h1 h2 hZ hW hS hc hs hL) (fun q => kf q p e Rm s m args below meth c Zs H locs cells slots ls hF h1 h2 hZ hW hS hc hs hL)
theorem XZ.getf {x ci k a : Nat} {v : Value} (hw : FW y.cls x ci k) (hd : decode cc pc = .ok (.getfield x, 3)) (hS : (S a).1 = ci) (hv : fv E I L R a k (cT ci k) = v) (kk : XZ E y cc nL ret tg d nc ns (pc + 3) o (v :: st) S I L R n K) : XZ E y cc nL ret tg d nc ns pc o (.ref (e_b E + a) :: st) S I L R n K := by
  intro p e Rm s m args below meth c Zs H locs cells slots ls hF h1 h2 hZ hW hS0 hc hs hL
  obtain ⟨w1, w2, w3⟩ := hw
  have hlt := hW.lt hS (by omega)
  have hat := memL_at (E := E) (S := S) (I := I) (L := L) (R := R) hlt
  rw [cel_o hS (by omega)] at hat
  have hsame : ∀ z, s.fieldFound? (clT ci k).1 (clT ci k).2.1 (clT ci k).2.2.1 = some z → s.fieldFound? (clR ci) (clT ci k).2.1 (clT ci k).2.2.1 = some z := by rw [(cl_ok ci w1).2.2.2.2 k w2]; exact fun _ h => h
  have kk' := kk p e Rm s m args below meth c Zs H locs cells slots ls hF h1 h2 hZ hW hS0 hc hs hL
  rcases w3 with w3 | ⟨h, w3⟩
  · exact va_get hF.1 hF.2.1 hF.2.2.2.2.1 (cl_in w1) hF.2.2.2.1 hF.2.2.2.2.2.2.2.2.1.1 hW.1 a hat (cl_ok ci w1).1 k w2 (hF.2.2.2.2.1 _ w3) hsame (by rw [cel_fs w2, hv]) hd kk'
  · exact va_getN hF.1 hF.2.1 hF.2.2.2.2.1 (cl_in w1) hF.2.2.2.1 hF.2.2.2.2.2.2.2.2.1.1 hW.1 a hat (cl_ok ci w1).1 k w2 ((hF.2.2.2.2.2.2.2.2.1.2.1 _ w3).use rfl) hsame (by rw [cel_fs w2, hv]) hd kk'
theorem XZ.getI {x ci k a : Nat} (hw : FW y.cls x ci k) (hd : decode cc pc = .ok (.getfield x, 3)) (ht : ∀ r, fv E I L r a k (cT ci k) = .int (I a k)) (hS : (S a).1 = ci) (kk : XZ E y cc nL ret tg d nc ns (pc + 3) o (.int (I a k) :: st) S I L R n K) : XZ E y cc nL ret tg d nc ns pc o (.ref (e_b E + a) :: st) S I L R n K := XZ.getf hw hd hS (ht R) kk
theorem XZ.getR {x ci k a b : Nat} (hw : FW y.cls x ci k) (hd : decode cc pc = .ok (.getfield x, 3)) (ht : ∀ i, fv E i L R a k (cT ci k) = rv E (R a k)) (hS : (S a).1 = ci) (hb : R a k = some b) (kk : XZ E y cc nL ret tg d nc ns (pc + 3) o (.ref (e_b E + b) :: st) S I L R n K) : XZ E y cc nL ret tg d nc ns pc o (.ref (e_b E + a) :: st) S I L R n K := XZ.getf hw hd hS (by rw [ht, hb]; rfl) kk
theorem XZ.widen {nc' ns' : Nat} (h1 : nc' ≤ nc) (h2 : ns' ≤ ns) (k : XZ E y cc nL ret tg d nc' ns' pc o st S I L R n K) : XZ E y cc nL ret tg d nc ns pc o st S I L R n K :=
  fun p e Rm s m args below meth c Zs H locs cells slots ls hF hd hl hZ hW hS hc hs hL => k p e Rm s m args below meth c Zs H locs cells slots ls hF hd hl hZ hW hS (by omega) (by omega) hL
theorem XZ.new {x ci m1 m2 : Nat} (hw : NW y.cls x ci) (hd : decode cc pc = .ok (.new x, 3)) (htg : tg = true) (h1 : m1 = nc + 1) (h2 : m2 = ns + cN ci)
    (kk : XZ E y cc nL ret tg d nc ns (pc + 3) o (.ref (e_b E + n) :: st) (wS S n (ci, 0)) (zI I n) (zL L n) (zR R n) (n + 1) K) : XZ E y cc nL ret tg d m1 m2 pc o st S I L R n K := by
  subst h1; subst h2; subst htg
  intro p e Rm s m args below meth c Zs H locs cells slots ls hF h1 h2 hZ hW hS0 hc hs hL
  obtain ⟨w1, w2, w3, w4, w5⟩ := hw
  have hcl := (cl_ok ci w1).1
  have hts := hF.2.2.2.2.1
  have hKn := hF.2.2.2.2.2.2.2.2.1.1.1 ci _ hcl
  have hs0 := hW.2.2.2.2 rfl
  refine W.newcK hF.1 hF.2.1 hF.2.2.2.1 (hts _ w2) (hts _ w3) (hts _ w4) rfl hd (by omega) (by omega) hKn.2.1 rfl fun H1 kC hkC e1 z1 o1 => ?_
  have hw' : WR E true (wS S n (ci, 0)) (zI I n) (zL L n) (zR R n) (n + 1) H1 := by
    refine hW.push (t := (ci, 0)) (e1 := .inr (ci, (List.range (cN ci)).map (fun k => fv E (zI I n) (zL L n) (zR R n) n k (cT ci k)))) z1 o1 (by show ci < 25; omega) ⟨_, hcl, ?_⟩ ?_
    · refine (u_born (cT ci) hts (cl_in w1) hKn hkC (by rw [← hs0]; exact e1) (cl_ok ci w1).2.2.1).to fun j hj => ?_
      have h5 := w5 j hj
      simp only [vp_V, List.getD_eq_getElem?_getD, List.getElem?_map, List.getElem?_range hj, Option.map_some, Option.getD_some]
      generalize cT ci j = t at h5 ⊢
      cases t <;> simp_all [defaultValue, fv, zI, zL, zR, rv, va_rf]
    · rw [cel_o (ci := ci) (by simp [wS]) (by omega)]
  have := kk p e Rm s m args below meth c Zs H1 locs (cells + 1) (slots + cN ci) ls hF h1 h2 hZ hw' ⟨by have := hS0.1; omega, fun q g1 g2 => (o1 q (Nat.lt_of_lt_of_le g1 hS0.1)).trans (hS0.2.1 q g1 g2), hS0.2.2⟩ (by omega) (by omega) hL
  rw [show e_b E + n = H.size from hs0.symm] at this
  exact this
theorem XZ.newarray {a : ArrayType} {t N m1 m2 : Nat} {z : Int32} (hd : decode cc pc = .ok (.newarray a, 2)) (hw : Cond.arrayClass (newarray.typeOf a) ∈ wsG) (hz : z = Int32.ofNat N) (hN : N < 100000) (ht : (t = 20 ∧ newarray.typeOf a = .int) ∨ (t = 21 ∧ newarray.typeOf a = .long) ∨ (t = 22 ∧ newarray.typeOf a = .boolean)) (htg : tg = true) (h1 : m1 = nc + 1) (h2 : m2 = ns + N)
    (kk : XZ E y cc nL ret tg d nc ns (pc + 2) o (.ref (e_b E + n) :: st) (wS S n (t, N)) (zI I n) (zL L n) (zR R n) (n + 1) K) : XZ E y cc nL ret tg d m1 m2 pc o (.int z :: st) S I L R n K := by
  subst h1; subst h2; subst htg; subst hz
  intro p e Rm s m args below meth c Zs H locs cells slots ls hF h1 h2 hZ hW hS0 hc hs hL
  have hts := hF.2.2.2.2.1
  have hK := hF.2.2.2.2.2.2.2.2.1.1
  have hs0 := hW.2.2.2.2 rfl
  have hcl : (Int32.ofNat N).toNatClampNeg = N := nI_clamp (by omega)
  refine va_newaK (N := N) hF.1 hF.2.1 (hts _ hw) rfl hd rfl (nI_pos (by omega)) hcl ?_ (by omega) (by omega) rfl fun H1 cA e1 z1 o1 hAr hNm => ?_
  · rcases ht with ⟨-, h⟩ | ⟨-, h⟩ | ⟨-, h⟩ <;> rw [h] <;> simp [componentBytes] <;> omega
  have hw' : WR E true (wS S n (t, N)) (zI I n) (zL L n) (zR R n) (n + 1) H1 := by
    rcases ht with ⟨rfl, h⟩ | ⟨rfl, h⟩ | ⟨rfl, h⟩
    · rw [h] at e1 hNm
      have := ra_eq (hK.2 0 _ rfl).2 hNm
      subst this
      refine hW.push (t := (20, N)) (e1 := .inl (E.2.2.2 0, N, .inl (fun _ => 0))) z1 o1 (Nat.le_of_ble_eq_true rfl) ?_ ?_
      · show H1[e_b E + n]? = some (vp_cell _ _)
        rw [← hs0, e1, vp_cell_i]; rfl
      · rw [cel_20 (by simp [wS])]
        simp only [wS, if_true]
        congr 4
        funext j; simp [zI]
    · rw [h] at e1 hNm
      have := ra_eq (hK.2 1 _ rfl).2 hNm
      subst this
      refine hW.push (t := (21, N)) (e1 := .inl (E.2.2.2 1, N, .inr (.inl (fun _ => 0)))) z1 o1 (Nat.le_of_ble_eq_true rfl) ?_ ?_
      · show H1[e_b E + n]? = some (vp_cell _ _)
        rw [← hs0, e1, vp_cell_l]; rfl
      · rw [cel_21 (by simp [wS])]
        simp only [wS, if_true]
        congr 5
        funext j; simp [zL]
    · rw [h] at e1 hNm
      have := ra_eq (hK.2 2 _ rfl).2 hNm
      subst this
      refine hW.push (t := (22, N)) (e1 := .inl (E.2.2.2 2, N, .inl (fun _ => 0))) z1 o1 (Nat.le_of_ble_eq_true rfl) ?_ ?_
      · show H1[e_b E + n]? = some (vp_cell _ _)
        rw [← hs0, e1, vp_cell_i]; rfl
      · rw [cel_22 (by simp [wS])]
        simp only [wS, if_true]
        congr 4
        funext j; simp [zI]
  have := kk p e Rm s m args below meth c Zs H1 locs (cells + 1) (slots + N) ls hF h1 h2 hZ hw' ⟨by have := hS0.1; omega, fun q g1 g2 => (o1 q (Nat.lt_of_lt_of_le g1 hS0.1)).trans (hS0.2.1 q g1 g2), hS0.2.2⟩ (by omega) (by omega) hL
  rw [show e_b E + n = H.size from hs0.symm] at this
  exact this
theorem va_goZ {K' : KT} {mc ms : Nat} {stk : List Value}
    {p : Program} {e : Jvm.Env} {Rm : Room} {s : State} {m : MethodId} {args : Array Value} {below : List Frame} {meth : Method} {c : Code} {Zs : State → Prop} {H : Heap} {locs : List Loc} {cells slots : Nat} {ls : Array Slot}
    (hr : va_Run p E.1 e Rm s m args below meth c H locs cells slots mc ms (F0 m pc ls stk) st (fun (st : State) (oc : Outcome) (t : State) => ∃ (v : Option Value) (S' : MS) (I' : MI) (L' : ML) (R' : MR) (n' : Nat), oc = .returned v ∧ K' v S' I' L' R' n' ∧ WR E tg S' I' L' R' n' t.heap ∧ st.heap.size ≤ t.heap.size) (aA E))
    (kk : ∀ v S' I' L' R' n', K' v S' I' L' R' n' → XZ E y cc nL ret tg d nc ns (pc + 3) o (v.toList ++ st) S' I' L' R' n' K)
    (hF : Fx E y cc nL ret p s m args meth c) (h1 : d ≤ Rm.frames) (h2 : 60 * d ≤ Rm.locals)
    (hZ : K p e Rm s m args below meth c Zs)
    (hS0 : va_S (aA E) s.heap H locs) (hW : HB E H) (hc : cells + (mc + nc) ≤ Rm.cells) (hs : slots + (ms + ns) ≤ Rm.slots) (hL : LH ls nL o) : W p E.1 e Rm s m args below meth c H locs cells slots Zs (F0 m pc ls stk) := by
  intro T hT XX
  obtain ⟨v, st₀, t, T', L', h0, X', hL', e1, e2, ⟨v', S', I', L1, R', n', hv, hK', hW', hsz⟩, stp⟩ := hr T hT XX
  cases hv
  rw [h0] at hsz
  have hsz' : H.size ≤ T'.heap.size := by rw [e1]; exact hsz
  obtain ⟨t2, a1, b1⟩ := kk v S' I' L1 R' n' hK' p e Rm s m args below meth c Zs T'.heap (locs ++ L') (cells + mc) (slots + ms) ls hF h1 h2 hZ (by rw [e1]; exact hW')
    ⟨Nat.le_trans hS0.1 hsz', fun q g1 g2 => by
      have hb : q < e_b E := Nat.lt_of_not_le g2
      rw [e1, hW'.2.1.2 q hb, hF.2.2.2.2.2.2.2.2.2.2 q hb], fun q hq => by
      rcases List.mem_append.mp hq with h | h
      · exact hS0.2.2 q h
      · exact hL' q h⟩ (by omega) (by omega) hL T' rfl X'
  exact ⟨t2, stp t2 a1, b1⟩
theorem XZ.callI {x b d' mc ms : Nat} {y' : MethodName} {cc' : ByteArray} {nL' : Nat} {K' : KT} {As stk : List Value}
    (hw : MW y' cc' nL' none As.length ∧ LK y.cls x y' ∧ Cond.instanceMethod y' ∈ wsG ∧ y'.name = "<init>") (hd : decode cc pc = .ok (.invokespecial x, 3)) (hdd : d' + 1 ≤ d)
    (hC : C E y' cc' nL' none tg d' mc ms (.ref (e_b E + b) :: As) S I L R n K') (hst : stk = As.reverse ++ .ref (e_b E + b) :: st) (hsum : (st.map fun v => v.category).sum ≤ 8)
    (kk : ∀ v S' I' L' R' n', K' v S' I' L' R' n' → XZ E y cc nL ret tg d nc ns (pc + 3) o (v.toList ++ st) S' I' L' R' n' K) : XZ E y cc nL ret tg d (mc + nc) (ms + ns) pc o stk S I L R n K := by
  intro p e Rm s m args below meth c Zs H locs cells slots ls hF h1 h2 hZ hW hS0 hc hs hL
  obtain ⟨⟨g1, g2, g3, g4⟩, g5, g6, g7⟩ := hw
  have hts := hF.2.2.2.2.1
  have hvm := hF.2.2.2.2.2.2.2.2.1
  have hpre : PreS s H (fun (a : Array Value) (U : State) => a = (Value.ref (e_b E + b) :: As).toArray ∧ VMok E U ∧ WR E tg S I L R n U.heap) (.ref (e_b E + b) :: As) :=
    ⟨pcBlind, fun U hU hWm => ⟨rfl, hvm.warm hWm, by rw [hU]; exact hW⟩⟩
  have hRm : d' + 1 ≤ Rm.frames ∧ 8 + (nL' + 11) + 60 * d' ≤ Rm.locals := by omega
  rcases g5 with g5 | ⟨h, g5⟩
  · exact va_goZ (va_runI (n := As.length) ⟨hF.1, hF.2.1, hF.2.2.1, hF.2.2.2.1, hts⟩ hC ⟨callB_of As.length hts (goodG _ _ _ _ g2) rfl rfl rfl (hts _ g1) (hts _ g5) g3 hRm, g7, hts _ g6⟩ hpre rfl rfl hL.1 hst (lv_room hsum) hd (by omega)) kk hF h1 h2 hZ hS0 hW.2.1 hc hs hL
  · exact va_goZ (va_runIN (n := As.length) ⟨hF.1, hF.2.1, hF.2.2.1, hF.2.2.2.1, hts⟩ hC ⟨va_cnB As.length hts (goodG _ _ _ _ g2) rfl rfl rfl (hvm.2.2.1 _ g5) (hts _ g1) g3 hRm, g7, hts _ g6⟩ hpre rfl rfl hL.1 hst (lv_room hsum) hd (by omega)) kk hF h1 h2 hZ hS0 hW.2.1 hc hs hL
theorem XZ.callIv {x b d' mc ms m1 m2 : Nat} {y' : MethodName} {cc' : ByteArray} {nL' : Nat} {As stk : List Value} (hC : C E y' cc' nL' none tg d' mc ms (.ref (e_b E + b) :: As) S I L R n (Kq (none) S' I' L' R' n')) (hw : MW y' cc' nL' none As.length ∧ LK y.cls x y' ∧ Cond.instanceMethod y' ∈ wsG ∧ y'.name = "<init>") (hd : decode cc pc = .ok (.invokespecial x, 3)) (hdd : d' + 1 ≤ d) (hst : stk = As.reverse ++ .ref (e_b E + b) :: st) (hsum : (st.map fun v => v.category).sum ≤ 8) (h1 : m1 = mc + nc) (h2 : m2 = ms + ns)
    (kk : XZ E y cc nL ret tg d nc ns (pc + 3) o (st) S' I' L' R' n' K) : XZ E y cc nL ret tg d m1 m2 pc o stk S I L R n K := by
  subst h1; subst h2
  refine XZ.callI hw hd hdd hC hst hsum (fun v1 S1 I1 L1 R1 n1 hk => ?_)
  obtain ⟨rfl, rfl, rfl, rfl, rfl, rfl⟩ := hk
  exact kk
end XZR
