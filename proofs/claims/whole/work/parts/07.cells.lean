section XN
variable {E : Env} {y : MethodName} {cc : ByteArray} {nL : Nat} {ret : Option FieldType} {tg : Bool} {d nc ns pc : Nat} {o : List (Option Value)} {st : List Value} {S : MS} {I : MI} {L : ML} {R : MR} {n : Nat} {K : KT}
theorem X.widen {nc' ns' : Nat} (h1 : nc' ≤ nc) (h2 : ns' ≤ ns) (k : X E y cc nL ret tg d nc' ns' pc o st S I L R n K) : X E y cc nL ret tg d nc ns pc o st S I L R n K :=
  fun p e Rm s m args below meth c Zs H locs cells slots ls hF hd hl hZ hW hS hc hs hL => k p e Rm s m args below meth c Zs H locs cells slots ls hF hd hl hZ hW hS (by omega) (by omega) hL
/-- what holds behind a new cell -/
theorem WR.push {H H' : Heap} {e1 : va_E} {t : Nat × Nat} (hW : WR E true S I L R n H) (hz : H'.size = H.size + 1) (hq : ∀ q, q < H.size → H'[q]? = H[q]?) (ht : t.1 < 25)
    (he : va_at E.2.2.1 vwCl (e_b E + n, e1) H') (e1' : e1 = cel E (wS S n t) (zI I n) (zL L n) (zR R n) n) : WR E true (wS S n t) (zI I n) (zL L n) (zR R n) (n + 1) H' := by
  have hs := hW.2.2.2.2 rfl
  refine ⟨?_, hW.2.1.of (by omega) (fun q h => hq q (by have := hW.2.1.1; omega)), fun a ha => ?_, by omega, fun _ => by omega⟩
  · rw [← memL_push (S := S) (I := I) (L := L) (R := R) e1' (fun b hb => cel_eq (by simp [wS, hb]) (by funext j; simp [zI, hb]) (by funext j; simp [zL, hb]) (by funext j; simp [zR, hb]))]
    refine va_P.app (hW.1.kept fun k x hx => hq _ ((hW.1 k x hx).lt)) (fun k x hx => ?_)
    have hz1 : k < 1 := (List.getElem?_eq_some_iff.mp hx).1
    rw [show k = 0 by omega] at hx
    cases hx
    exact he
  · have := hW.2.2.1 a (by omega)
    show 25 ≤ (if a = n then t else S a).1
    rw [if_neg (by omega)]
    exact this
def NW (own : String) (x ci : Nat) : Prop := ci < 13 ∧ Cond.classLink own x (clR ci) ∈ wsG ∧ Cond.instantiable (clR ci) (cN ci) ∈ wsG ∧ Cond.initialized (clR ci) ∈ wsG ∧ ∀ k, k < cN ci → cT ci k ≠ .float ∧ cT ci k ≠ .double
theorem X.new {x ci m1 m2 : Nat} (hw : NW y.cls x ci) (hd : decode cc pc = .ok (.new x, 3)) (htg : tg = true) (h1 : m1 = nc + 1) (h2 : m2 = ns + cN ci)
    (kk : X E y cc nL ret tg d nc ns (pc + 3) o (.ref (e_b E + n) :: st) (wS S n (ci, 0)) (zI I n) (zL L n) (zR R n) (n + 1) K) : X E y cc nL ret tg d m1 m2 pc o st S I L R n K := by
  subst h1; subst h2; subst htg
  intro p e Rm s m args below meth c Zs H locs cells slots ls hF h1 h2 hZ hW hS0 hc hs hL
  obtain ⟨w1, w2, w3, w4, w5⟩ := hw
  have hcl := (cl_ok ci w1).1
  have hts := hF.2.2.2.2.1
  have hKn := hF.2.2.2.2.2.2.2.2.1.1.1 ci _ hcl
  have hs0 := hW.2.2.2.2 rfl
  refine W.newcK hF.1 hF.2.1 hF.2.2.2.1 (hts _ w2) (hts _ w3) (hts _ w4) rfl hd (by omega) (by omega) hKn.2.1 rfl fun H1 kC hkC e1 z1 o1 => ?_
  have hw' : WR E true (wS S n (ci, 0)) (zI I n) (zL L n) (zR R n) (n + 1) H1 := by
    refine hW.push (t := (ci, 0)) (e1 := .inr (ci, (List.range (cN ci)).map (fun k => fv E (zI I n) (zL L n) (zR R n) n k (cT ci k)))) z1 o1 (by show ci < 25; omega) ⟨_, hcl, ?_⟩ ?_
    · refine (u_born (cT ci) hts (cl_in w1) hKn hkC (by rw [← hs0]; exact e1) (cl_ok ci w1).2.2.1).to fun j hj => ?_
      have h5 := w5 j hj
      simp only [vp_V, List.getD_eq_getElem?_getD, List.getElem?_map, List.getElem?_range hj, Option.map_some, Option.getD_some]
      generalize cT ci j = t at h5 ⊢
      cases t <;> simp_all [defaultValue, fv, zI, zL, zR, rv, va_rf]
    · rw [cel_o (ci := ci) (by simp [wS]) (by omega)]
  have := kk p e Rm s m args below meth c Zs H1 locs (cells + 1) (slots + cN ci) ls hF h1 h2 hZ hw' ⟨by have := hS0.1; omega, fun q g1 g2 => (o1 q (Nat.lt_of_lt_of_le g1 hS0.1)).trans (hS0.2.1 q g1 g2), hS0.2.2⟩ (by omega) (by omega) hL
  rw [show e_b E + n = H.size from hs0.symm] at this
  exact this
theorem ra_eq {U : State} {cA cB : ClassId} {ty : FieldType} (h1 : va_RA U cA ty) (h2 : U.vm.findClass ("[" ++ ty.toString) = some cB) : cB = cA := by
  cases ty with
  | object C =>
    obtain ⟨kA, comp, -, -, -, h4⟩ := h1
    exact Option.some.inj (h2.symm.trans h4)
  | _ => exact Option.some.inj (h2.symm.trans h1)
theorem X.newarray {a : ArrayType} {t N m1 m2 : Nat} {z : Int32} (hd : decode cc pc = .ok (.newarray a, 2)) (hw : Cond.arrayClass (newarray.typeOf a) ∈ wsG) (hz : z = Int32.ofNat N) (hN : N < 100000) (ht : (t = 20 ∧ newarray.typeOf a = .int) ∨ (t = 21 ∧ newarray.typeOf a = .long) ∨ (t = 22 ∧ newarray.typeOf a = .boolean)) (htg : tg = true) (h1 : m1 = nc + 1) (h2 : m2 = ns + N)
    (kk : X E y cc nL ret tg d nc ns (pc + 2) o (.ref (e_b E + n) :: st) (wS S n (t, N)) (zI I n) (zL L n) (zR R n) (n + 1) K) : X E y cc nL ret tg d m1 m2 pc o (.int z :: st) S I L R n K := by
  subst h1; subst h2; subst htg; subst hz
  intro p e Rm s m args below meth c Zs H locs cells slots ls hF h1 h2 hZ hW hS0 hc hs hL
  have hts := hF.2.2.2.2.1
  have hK := hF.2.2.2.2.2.2.2.2.1.1
  have hs0 := hW.2.2.2.2 rfl
  have hcl : (Int32.ofNat N).toNatClampNeg = N := nI_clamp (by omega)
  refine va_newaK (N := N) hF.1 hF.2.1 (hts _ hw) rfl hd rfl (nI_pos (by omega)) hcl ?_ (by omega) (by omega) rfl fun H1 cA e1 z1 o1 hAr hNm => ?_
  · rcases ht with ⟨-, h⟩ | ⟨-, h⟩ | ⟨-, h⟩ <;> rw [h] <;> simp [componentBytes] <;> omega
  have hw' : WR E true (wS S n (t, N)) (zI I n) (zL L n) (zR R n) (n + 1) H1 := by
    rcases ht with ⟨rfl, h⟩ | ⟨rfl, h⟩ | ⟨rfl, h⟩
    · rw [h] at e1 hNm
      have := ra_eq (hK.2 0 _ rfl).2 hNm
      subst this
      refine hW.push (t := (20, N)) (e1 := .inl (E.2.2.2 0, N, .inl (fun _ => 0))) z1 o1 (Nat.le_of_ble_eq_true rfl) ?_ ?_
      · show H1[e_b E + n]? = some (vp_cell _ _)
        rw [← hs0, e1, vp_cell_i]; rfl
      · rw [cel_20 (by simp [wS])]
        simp only [wS, if_true]
        congr 4
        funext j; simp [zI]
    · rw [h] at e1 hNm
      have := ra_eq (hK.2 1 _ rfl).2 hNm
      subst this
      refine hW.push (t := (21, N)) (e1 := .inl (E.2.2.2 1, N, .inr (.inl (fun _ => 0)))) z1 o1 (Nat.le_of_ble_eq_true rfl) ?_ ?_
      · show H1[e_b E + n]? = some (vp_cell _ _)
        rw [← hs0, e1, vp_cell_l]; rfl
      · rw [cel_21 (by simp [wS])]
        simp only [wS, if_true]
        congr 5
        funext j; simp [zL]
    · rw [h] at e1 hNm
      have := ra_eq (hK.2 2 _ rfl).2 hNm
      subst this
      refine hW.push (t := (22, N)) (e1 := .inl (E.2.2.2 2, N, .inl (fun _ => 0))) z1 o1 (Nat.le_of_ble_eq_true rfl) ?_ ?_
      · show H1[e_b E + n]? = some (vp_cell _ _)
        rw [← hs0, e1, vp_cell_i]; rfl
      · rw [cel_22 (by simp [wS])]
        simp only [wS, if_true]
        congr 4
        funext j; simp [zI]
  have := kk p e Rm s m args below meth c Zs H1 locs (cells + 1) (slots + N) ls hF h1 h2 hZ hw' ⟨by have := hS0.1; omega, fun q g1 g2 => (o1 q (Nat.lt_of_lt_of_le g1 hS0.1)).trans (hS0.2.1 q g1 g2), hS0.2.2⟩ (by omega) (by omega) hL
  rw [show e_b E + n = H.size from hs0.symm] at this
  exact this
theorem X.anewarray {x t N m1 m2 : Nat} {z : Int32} {cn : String} (hd : decode cc pc = .ok (.anewarray x, 3)) (hw : Cond.classLink y.cls x cn ∈ wsG) (hz : z = Int32.ofNat N) (hN : N < 100000) (ht : (t = 23 ∧ cn = "GuideWalksLast$Fee") ∨ (t = 24 ∧ cn = "GuideWalksLast$Party")) (htg : tg = true) (h1 : m1 = nc + 1) (h2 : m2 = ns + N)
    (kk : X E y cc nL ret tg d nc ns (pc + 3) o (.ref (e_b E + n) :: st) (wS S n (t, N)) (zI I n) (zL L n) (zR R n) (n + 1) K) : X E y cc nL ret tg d m1 m2 pc o (.int z :: st) S I L R n K := by
  subst h1; subst h2; subst htg; subst hz
  intro p e Rm s m args below meth c Zs H locs cells slots ls hF h1 h2 hZ hW hS0 hc hs hL
  have hts := hF.2.2.2.2.1
  have hvm := hF.2.2.2.2.2.2.2.2.1
  have hK := hvm.1
  have hs0 := hW.2.2.2.2 rfl
  have hcl : (Int32.ofNat N).toNatClampNeg = N := nI_clamp (by omega)
  have hao : va_AO cn s := by
    rcases ht with ⟨-, rfl⟩ | ⟨-, rfl⟩
    · exact hvm.2.2.2.2.1
    · exact hvm.2.2.2.2.2.1
  refine W.anew hF.1 hF.2.1 hF.2.2.2.1 (hts _ hw) (va_AO.use hao) rfl hd rfl (nI_pos (by omega)) (by rw [hcl]; omega) (by omega) (by rw [hcl]; omega) fun cA kA comp f1 f2 f3 f4 => ?_
  rw [hcl]
  generalize hH1 : H.push ({ cls := cA, slots := Array.replicate N .null, vm := .none } : Cell) = H1
  have z1 : H1.size = H.size + 1 := by rw [← hH1, Array.size_push]
  have e1 : H1[H.size]? = some (arrV cA N (fun _ => .null)) := by rw [← hH1, Array.getElem?_push_size, ← arrV_new]
  have o1 : ∀ q : Nat, q < H.size → H1[q]? = H[q]? := fun q hq => by rw [← hH1, Array.getElem?_push, if_neg (Nat.ne_of_lt hq)]
  have hw' : WR E true (wS S n (t, N)) (zI I n) (zL L n) (zR R n) (n + 1) H1 := by
    rcases ht with ⟨rfl, rfl⟩ | ⟨rfl, rfl⟩
    · have := ra_eq (hK.2 3 _ rfl).2 f1
      subst this
      refine hW.push (t := (23, N)) (e1 := .inl (E.2.2.2 3, N, .inr (.inr (.inr (.inr (fun _ => none)))))) z1 o1 (Nat.le_of_ble_eq_true rfl) ?_ ?_
      · show H1[e_b E + n]? = some (vp_cell _ _)
        rw [← hs0, e1, vp_cell_q]; rfl
      · rw [cel_23 (by simp [wS])]
        simp only [wS, if_true]
        congr 7
        funext j; simp [zR]
    · have := ra_eq (hK.2 4 _ rfl).2 f1
      subst this
      refine hW.push (t := (24, N)) (e1 := .inl (E.2.2.2 4, N, .inr (.inr (.inr (.inr (fun _ => none)))))) z1 o1 (Nat.le_of_ble_eq_true rfl) ?_ ?_
      · show H1[e_b E + n]? = some (vp_cell _ _)
        rw [← hs0, e1, vp_cell_q]; rfl
      · rw [cel_24 (by simp [wS])]
        simp only [wS, if_true]
        congr 7
        funext j; simp [zR]
  have := kk p e Rm s m args below meth c Zs H1 locs (cells + 1) (slots + N) ls hF h1 h2 hZ hw' ⟨by have := hS0.1; omega, fun q g1 g2 => (o1 q (Nat.lt_of_lt_of_le g1 hS0.1)).trans (hS0.2.1 q g1 g2), hS0.2.2⟩ (by omega) (by omega) hL
  rw [show e_b E + n = H.size from hs0.symm] at this
  exact this
theorem X.aastore {a v ci : Nat} {i : Int32} (hd : decode cc pc = .ok (.aastore, 1)) (hS : ((S a).1 = 23 ∧ ci = 0) ∨ ((S a).1 = 24 ∧ ci = 5)) (hv : (S v).1 = ci) (hin : vp_in i (S a).2) (kk : X E y cc nL ret tg d nc ns (pc + 1) o st S I L (wR R a i.toNatClampNeg (some v)) n K) : X E y cc nL ret tg d nc ns pc o (.ref (e_b E + v) :: .int i :: .ref (e_b E + a) :: st) S I L R n K := by
  intro p e Rm s m args below meth c Zs H locs cells slots ls hF h1 h2 hZ hW hS0 hc hs hL
  have hK := hF.2.2.2.2.2.2.2.2.1.1
  have hatv := memL_at (E := E) (S := S) (I := I) (L := L) (R := R) (hW.lt hv (by omega))
  rw [cel_o hv (by omega)] at hatv
  have hlt : i.toNatClampNeg < (S a).2 := Nat.not_le.mp fun q => hin (Or.inr q)
  have h0 : ¬ i < 0 := fun q => hin (Or.inl q)
  have go : ∀ (t0 : Nat) (cA : ClassId) (C : String), ci < 13 → clR ci = C → (e_ty E)[t0]? = some (cA, .object C) → (memL E S I L R n)[a]? = some (e_b E + a, .inl (cA, (S a).2, .inr (.inr (.inr (.inr (fun k => (R a k).map (fun b => e_b E + b))))))) →
      (∀ R', cel E S I L R' a = .inl (cA, (S a).2, .inr (.inr (.inr (.inr (fun k => (R' a k).map (fun b => e_b E + b))))))) → W p E.1 e Rm s m args below meth c H locs cells slots Zs (F0 m pc ls (.ref (e_b E + v) :: .int i :: .ref (e_b E + a) :: st)) := by
    intro t0 cA C hci hC ht hat hcel
    subst hC
    obtain ⟨r, w1, cellV, g1, g2, g3, -⟩ := hW.1 v _ hatv
    have hcls := (hK.1 ci _ (cl_ok ci hci).1).2
    obtain ⟨kA, comp, k1, k2, k3, -⟩ := (hK.2 t0 _ ht).2
    have hcomp : comp = E.2.2.1.1 ci := Option.some.inj (k3.symm.trans hcls.1)
    subst hcomp
    obtain ⟨kC, hkC, -⟩ := hcls.2
    refine W.aast hF.1 hF.2.1 (hW.1 a _ hat) (fun q h => by cases h) (fun h => by cases h) k1 k2 rfl hkC ⟨h0, by show _ < (arrV _ _ _).slots.size; rw [arrV_size]; exact hlt⟩ g1 (fun q h => by rw [g3] at h; cases h) (by rw [g2]; exact hkC) (by rw [g2]; exact va_assign hcls) rfl rfl hd fun H1 e1 z oq => ?_
    refine kk p e Rm s m args below meth c Zs H1 _ cells slots ls hF h1 h2 hZ (hW.put hat (e1 := .inl (cA, (S a).2, .inr (.inr (.inr (.inr (fun k => (wR R a i.toNatClampNeg (some v) a k).map (fun b => e_b E + b))))))) ?_ z oq (by rw [hcel]) (fun _ _ => rfl) (fun _ _ => rfl) (fun b hb => by funext j; simp [wR, hb])) (hS0.put z oq (Nat.le_add_right _ _)) hc hs hL
    show H1[e_b E + a]? = some (vp_cell _ _)
    rw [e1, vp_cell_q, vp_cell_q, arrV_store]
    congr 2
    funext q
    by_cases hq : q = i.toNatClampNeg
    · subst hq
      simp [updV, wR, va_rf]
    · simp [updV, wR, hq]
  have hlta := hW.lt (ci := (S a).1) rfl (by omega)
  rcases hS with ⟨hS, rfl⟩ | ⟨hS, rfl⟩
  · exact go 3 _ _ (by decide) rfl rfl (by rw [memL_at hlta, cel_23 hS]) (fun R' => cel_23 hS)
  · exact go 4 _ _ (by decide) rfl rfl (by rw [memL_at hlta, cel_24 hS]) (fun R' => cel_24 hS)
/-- copying an int array's head into another one (behind the making of all cells) -/
def cpI (I : MI) (a b N : Nat) : MI := fun c j => if c = b ∧ j < N then I a j else I c j
theorem X.copyi {x a b N : Nat} {z : Int32} (hd : decode cc pc = .ok (.invokestatic x, 3)) (hl : Cond.methodLink y.cls x arraycopyName ∈ wsG) (hn : Cond.native arraycopyName ∈ wsG) (hst : Cond.static arraycopyName ∈ wsG) (hi : Cond.initialized "java/lang/System" ∈ wsG)
    (ha : (S a).1 = 20) (hb : (S b).1 = 20) (hz : z = Int32.ofNat N) (hN : N < 100000) (h4 : N ≤ (S a).2) (h5 : N ≤ (S b).2) (htg : tg = false) (hdd : 1 ≤ d) (hsum : (st.map fun v => v.category).sum ≤ 8)
    (kk : X E y cc nL ret tg d nc ns (pc + 3) o st S (cpI I a b N) L R n K) : X E y cc nL ret tg d nc ns pc o (.int z :: .int 0 :: .ref (e_b E + b) :: .int 0 :: .ref (e_b E + a) :: st) S I L R n K := by
  subst htg; subst hz
  intro p e Rm s m args below meth c Zs H locs cells slots ls hF h1 h2 hZ hW hS0 hc hs hL
  have hts := hF.2.2.2.2.1
  have hK := hF.2.2.2.2.2.2.2.2.1.1
  have hata := memL_at (E := E) (S := S) (I := I) (L := L) (R := R) (hW.lt ha (by omega))
  rw [cel_20 ha] at hata
  have hltb := hW.lt hb (by omega)
  have hatb := memL_at (E := E) (S := S) (I := I) (L := L) (R := R) hltb
  rw [cel_20 hb] at hatb
  have hcl : (Int32.ofNat N).toNatClampNeg = N := nI_clamp (by omega)
  have z0 : (0 : Int32).toNatClampNeg = 0 := by decide
  refine va_copyi (ty := .int) hF.1 hF.2.1 (by rw [hF.2.2.1]; exact hL.1.symm) hF.2.2.2.1 (hts _ hl) (hts _ hn) (hts _ hst) (hts _ hi) hK hW.1 memL_D hS0 a b 0 0 hata hatb rfl rfl rfl (by decide) (by decide) (nI_pos (by omega)) (by rw [z0, hcl]; omega) (by rw [z0, hcl]; omega) (fun _ _ => rfl) (by omega) ?_ hd fun H1 locs1 hP hD hS1 => ?_
  · have e9 : nativeFrameWords "java/lang/System" "arraycopy" 5 ≤ 40 := by decide +kernel
    omega
  · have hset : (memL E S I L R n).set b (e_b E + b, .inl (E.2.2.2 0, (S b).2, .inl (va_cpy (I a) (I b) (0 : Int32).toNatClampNeg (0 : Int32).toNatClampNeg (Int32.ofNat N).toNatClampNeg))) = memL E S (cpI I a b N) L R n := by
      refine memL_set ?_ (fun q hq => cel_eq rfl (by funext j; simp [cpI, hq]) rfl rfl)
      rw [cel_20 hb, z0, hcl]
      congr 4
      funext j
      simp [va_cpy, cpI]
    rw [hset] at hP
    refine kk p e Rm s m args below meth c Zs H1 locs1 cells slots ls hF h1 h2 hZ ⟨hP, ?_, hW.2.2.1, ?_, fun h => by cases h⟩ hS1 hc hs hL
    · exact ⟨Nat.le_trans hF.2.2.2.2.2.2.2.2.2.1 hS1.1, fun q h => by rw [hS1.2.1 q (Nat.lt_of_lt_of_le h hF.2.2.2.2.2.2.2.2.2.1) (Nat.not_le.mpr h)]; exact hF.2.2.2.2.2.2.2.2.2.2 q h⟩
    · have h8 : n - 1 < n := by omega
      have := (hP (n - 1) _ (memL_at h8)).lt
      show e_b E + n ≤ H1.size
      have h9 : (e_b E + (n - 1)) < H1.size := this
      omega
/-! the one static row: HUNDREDS -/
def hund (k : Nat) : Int64 := (#[1, 100, 10000, 1000000, 100000000, 10000000000, 1000000000000, 100000000000000, 10000000000000000] : Array Int64).getD k 0
/-- the signs of the three texts that among() looks through -/
def amL (ix : Nat) : List Int32 := match ix with
  | 6 => [46, 111, 35, 72]
  | 7 => [104, 120, 115, 97]
  | _ => [108, 111, 114]
def lenS (ix : Nat) : Nat := [4, 4, 3].getD (ix - 6) 0
def bytS (ix j : Nat) : Int32 := ([amL 6, amL 7, amL 8].getD (ix - 6) []).getD j 0
/-- the formatter that is only carried: null or a thing -/
def fF (E : Env) : Value := if E.2.2.2 21 = 0 then .null else .ref (E.2.2.2 20)
theorem fF_c (E : Env) : fF E = .null ∨ ∃ x, fF E = .ref x := by
  unfold fF
  split
  · exact Or.inl rfl
  · exact Or.inr ⟨_, rfl⟩
def OKE (E : Env) : Prop := va_Z "GuideWalksLast" "HUNDREDS" "[J" (.ref (E.2.2.2 5)) (aA E) E.2.1 E.2.1.heap ∧ va_T .long (E.2.2.2 5) 9 (fun j => .long (hund j)) (aA E) E.2.1 E.2.1.heap ∧
  vk_S 3 [4, 4, 3] [amL 6, amL 7, amL 8] (fun i => E.2.2.2 (i + 6)) (fun i => E.2.2.2 (i + 16)) (aA E) E.2.1 E.2.1.heap ∧ va_Z "java/lang/String" "COMPACT_STRINGS" "Z" (.int 1) (aA E) E.2.1 E.2.1.heap ∧
  va_Z "jdk/internal/util/Preconditions" "SIOOBE_FORMATTER" "Ljava/util/function/BiFunction;" (fF E) (aA E) E.2.1 E.2.1.heap ∧ E.1.flags = flags0 ∧ (Jvm.Cond.and given_1 narrow_1).before #[Value.ref (E.2.2.2 9)] E.2.1 = true ∧ ∀ w ∈ lw_tbl, w.before #[Value.ref (E.2.2.2 9)] E.2.1 = true
theorem X.getsH {x : Nat} (hE : OKE E) (hd : decode cc pc = .ok (.getstatic x, 3)) (hw : Cond.fieldLink y.cls x "GuideWalksLast" "HUNDREDS" "[J" ∈ wsG)
    (kk : X E y cc nL ret tg d nc ns (pc + 3) o (.ref (E.2.2.2 5) :: st) S I L R n K) : X E y cc nL ret tg d nc ns pc o st S I L R n K := by
  intro p e Rm s m args below meth c Zs H locs cells slots ls hF h1 h2 hZ hW hS0 hc hs hL
  have hvm := hF.2.2.2.2.2.2.2.2.1
  have hH := hF.2.2.2.2.2.2.2.2.2
  exact va_gets hF.1 hF.2.1 ((hE.1.moved hvm.2.2.2.2.2.2).kept (fun a ha _ => hH.2 a ha)) hS0 hF.2.2.2.1 (hF.2.2.2.2.1 _ hw) (fun _ h => h) hd (kk p e Rm s m args below meth c Zs H locs cells slots ls hF h1 h2 hZ hW hS0 hc hs hL)
theorem X.alenH (hE : OKE E) (hd : decode cc pc = .ok (.arraylength, 1))
    (kk : X E y cc nL ret tg d nc ns (pc + 1) o (.int 9 :: st) S I L R n K) : X E y cc nL ret tg d nc ns pc o (.ref (E.2.2.2 5) :: st) S I L R n K := by
  intro p e Rm s m args below meth c Zs H locs cells slots ls hF h1 h2 hZ hW hS0 hc hs hL
  have hvm := hF.2.2.2.2.2.2.2.2.1
  have hH := hF.2.2.2.2.2.2.2.2.2
  exact va_tlen hF.1 hF.2.1 ((hE.2.1.moved hvm.2.2.2.2.2.2).kept (fun a ha _ => hH.2 a ha)) hS0 rfl hd (kk p e Rm s m args below meth c Zs H locs cells slots ls hF h1 h2 hZ hW hS0 hc hs hL)
theorem X.laldH {i : Int32} (hE : OKE E) (hd : decode cc pc = .ok (.laload, 1)) (hin : vp_in i 9)
    (kk : X E y cc nL ret tg d nc ns (pc + 1) o (.long (hund i.toNatClampNeg) :: st) S I L R n K) : X E y cc nL ret tg d nc ns pc o (.int i :: .ref (E.2.2.2 5) :: st) S I L R n K := by
  intro p e Rm s m args below meth c Zs H locs cells slots ls hF h1 h2 hZ hW hS0 hc hs hL
  have hvm := hF.2.2.2.2.2.2.2.2.1
  have hH := hF.2.2.2.2.2.2.2.2.2
  exact va_tl hF.1 hF.2.1 ((hE.2.1.moved hvm.2.2.2.2.2.2).kept (fun a ha _ => hH.2 a ha)) hS0 hin rfl hd (kk p e Rm s m args below meth c Zs H locs cells slots ls hF h1 h2 hZ hW hS0 hc hs hL)
/-! the three texts -/
theorem vkS {s : State} (hE : OKE E) (hv : VMok E s) (hH : HB E s.heap) : vk_S 3 [4, 4, 3] [amL 6, amL 7, amL 8] (fun i => E.2.2.2 (i + 6)) (fun i => E.2.2.2 (i + 16)) (aA E) s s.heap := (hE.2.2.1.moved hv.2.2.2.2.2.2).kept (fun a ha _ => hH.2 a ha)
theorem ix6 {ix : Nat} (h : 6 ≤ ix ∧ ix < 9) : ∃ i, i < 3 ∧ ix = i + 6 := ⟨ix - 6, by omega, by omega⟩
theorem X.zval {x ix : Nat} (hE : OKE E) (hi : 6 ≤ ix ∧ ix < 9) (hd : decode cc pc = .ok (.getfield x, 3)) (hw : Cond.fieldLink y.cls x "java/lang/String" "value" "[B" ∈ wsG)
    (kk : X E y cc nL ret tg d nc ns (pc + 3) o (.ref (E.2.2.2 (ix + 10)) :: st) S I L R n K) : X E y cc nL ret tg d nc ns pc o (.ref (E.2.2.2 ix) :: st) S I L R n K := by
  intro p e Rm s m args below meth c Zs H locs cells slots ls hF h1 h2 hZ hW hS0 hc hs hL
  obtain ⟨i, hi3, rfl⟩ := ix6 hi
  exact vk_getf hF.1 hF.2.1 ((vkS hE hF.2.2.2.2.2.2.2.2.1 hF.2.2.2.2.2.2.2.2.2).1 i hi3).2.2.1 hS0 hF.2.2.2.1 (hF.2.2.2.2.1 _ hw) (fun _ h => h) hd (kk p e Rm s m args below meth c Zs H locs cells slots ls hF h1 h2 hZ hW hS0 hc hs hL)
theorem X.zcod {x ix : Nat} (hE : OKE E) (hi : 6 ≤ ix ∧ ix < 9) (hd : decode cc pc = .ok (.getfield x, 3)) (hw : Cond.fieldLink y.cls x "java/lang/String" "coder" "B" ∈ wsG)
    (kk : X E y cc nL ret tg d nc ns (pc + 3) o (.int 0 :: st) S I L R n K) : X E y cc nL ret tg d nc ns pc o (.ref (E.2.2.2 ix) :: st) S I L R n K := by
  intro p e Rm s m args below meth c Zs H locs cells slots ls hF h1 h2 hZ hW hS0 hc hs hL
  obtain ⟨i, hi3, rfl⟩ := ix6 hi
  exact vk_getf hF.1 hF.2.1 ((vkS hE hF.2.2.2.2.2.2.2.2.1 hF.2.2.2.2.2.2.2.2.2).1 i hi3).2.1 hS0 hF.2.2.2.1 (hF.2.2.2.2.1 _ hw) (fun _ h => h) hd (kk p e Rm s m args below meth c Zs H locs cells slots ls hF h1 h2 hZ hW hS0 hc hs hL)
theorem X.zlen {ix : Nat} (hE : OKE E) (hi : 6 ≤ ix ∧ ix < 9) (hd : decode cc pc = .ok (.arraylength, 1))
    (kk : X E y cc nL ret tg d nc ns (pc + 1) o (.int (Int32.ofNat (lenS ix)) :: st) S I L R n K) : X E y cc nL ret tg d nc ns pc o (.ref (E.2.2.2 (ix + 10)) :: st) S I L R n K := by
  intro p e Rm s m args below meth c Zs H locs cells slots ls hF h1 h2 hZ hW hS0 hc hs hL
  obtain ⟨i, hi3, rfl⟩ := ix6 hi
  exact va_tlen hF.1 hF.2.1 ((vkS hE hF.2.2.2.2.2.2.2.2.1 hF.2.2.2.2.2.2.2.2.2).1 i hi3).2.2.2 hS0 (by simp [lenS]) hd (kk p e Rm s m args below meth c Zs H locs cells slots ls hF h1 h2 hZ hW hS0 hc hs hL)
theorem X.zbald {ix : Nat} {i0 : Int32} (hE : OKE E) (hi : 6 ≤ ix ∧ ix < 9) (hd : decode cc pc = .ok (.baload, 1)) (hin : vp_in i0 (lenS ix))
    (kk : X E y cc nL ret tg d nc ns (pc + 1) o (.int (bytS ix i0.toNatClampNeg) :: st) S I L R n K) : X E y cc nL ret tg d nc ns pc o (.int i0 :: .ref (E.2.2.2 (ix + 10)) :: st) S I L R n K := by
  intro p e Rm s m args below meth c Zs H locs cells slots ls hF h1 h2 hZ hW hS0 hc hs hL
  obtain ⟨i, hi3, rfl⟩ := ix6 hi
  exact va_tb hF.1 hF.2.1 ((vkS hE hF.2.2.2.2.2.2.2.2.1 hF.2.2.2.2.2.2.2.2.2).1 i hi3).2.2.2 hS0 (by simpa [lenS] using hin) (by simp [bytS]) hd (kk p e Rm s m args below meth c Zs H locs cells slots ls hF h1 h2 hZ hW hS0 hc hs hL)
theorem X.getsC {x : Nat} (hE : OKE E) (hd : decode cc pc = .ok (.getstatic x, 3)) (hw : Cond.fieldLink y.cls x "java/lang/String" "COMPACT_STRINGS" "Z" ∈ wsG)
    (kk : X E y cc nL ret tg d nc ns (pc + 3) o (.int 1 :: st) S I L R n K) : X E y cc nL ret tg d nc ns pc o st S I L R n K := by
  intro p e Rm s m args below meth c Zs H locs cells slots ls hF h1 h2 hZ hW hS0 hc hs hL
  have hvm := hF.2.2.2.2.2.2.2.2.1
  have hH := hF.2.2.2.2.2.2.2.2.2
  exact va_gets hF.1 hF.2.1 ((hE.2.2.2.1.moved hvm.2.2.2.2.2.2).kept (fun a ha _ => hH.2 a ha)) hS0 hF.2.2.2.1 (hF.2.2.2.2.1 _ hw) (fun _ h => h) hd (kk p e Rm s m args below meth c Zs H locs cells slots ls hF h1 h2 hZ hW hS0 hc hs hL)
theorem X.getsF {x : Nat} (hE : OKE E) (hd : decode cc pc = .ok (.getstatic x, 3)) (hw : Cond.fieldLink y.cls x "jdk/internal/util/Preconditions" "SIOOBE_FORMATTER" "Ljava/util/function/BiFunction;" ∈ wsG)
    (kk : X E y cc nL ret tg d nc ns (pc + 3) o (fF E :: st) S I L R n K) : X E y cc nL ret tg d nc ns pc o st S I L R n K := by
  intro p e Rm s m args below meth c Zs H locs cells slots ls hF h1 h2 hZ hW hS0 hc hs hL
  have hvm := hF.2.2.2.2.2.2.2.2.1
  have hH := hF.2.2.2.2.2.2.2.2.2
  exact va_gets hF.1 hF.2.1 ((hE.2.2.2.2.1.moved hvm.2.2.2.2.2.2).kept (fun a ha _ => hH.2 a ha)) hS0 hF.2.2.2.1 (hF.2.2.2.2.1 _ hw) (fun _ h => h) hd (kk p e Rm s m args below meth c Zs H locs cells slots ls hF h1 h2 hZ hW hS0 hc hs hL)
theorem X.i2c {a : Int32} (hd : decode cc pc = .ok (.i2c, 1)) (k : X E y cc nL ret tg d nc ns (pc + 1) o (.int (a.toUInt32 % 65536).toInt32 :: st) S I L R n K) : X E y cc nL ret tg d nc ns pc o (.int a :: st) S I L R n K :=
  X.pass (fun hF hL h => lv_i2c hF.1 hF.2.1 hd rfl h) k
/-- a call on one of the three texts -/
theorem X.callZ {x ix d' mc ms m1 m2 : Nat} {y' : MethodName} {cc' : ByteArray} {nL' : Nat} {ret' : Option FieldType} {As stk : List Value} {v : Int32} {S' : MS} {I' : MI} {L' : ML} {R' : MR} {n' : Nat} (hE : OKE E) (hi : 6 ≤ ix ∧ ix < 9)
    (hC : C E y' cc' nL' ret' tg d' mc ms (.ref (E.2.2.2 ix) :: As) S I L R n (Kq (some (.int v)) S' I' L' R' n'))
    (hw : MW y' cc' nL' ret' As.length ∧ LK y.cls x y' ∧ Cond.instanceMethod y' ∈ wsG ∧ Cond.selects y'.cls y' y' ∈ wsG) (hd : decode cc pc = .ok (.invokevirtual x, 3)) (hcl : y'.cls = "java/lang/String") (hdd : d' + 1 ≤ d)
    (hst : stk = As.reverse ++ .ref (E.2.2.2 ix) :: st) (hsum : (st.map fun v => v.category).sum ≤ 8) (e1 : m1 = mc + nc) (e2 : m2 = ms + ns)
    (kk : X E y cc nL ret tg d nc ns (pc + 3) o (.int v :: st) S' I' L' R' n' K) : X E y cc nL ret tg d m1 m2 pc o stk S I L R n K := by
  subst e1; subst e2
  intro p e Rm s m args below meth c Zs H locs cells slots ls hF h1 h2 hZ hW hS0 hc hs hL
  obtain ⟨⟨g1, g2, g3, g4⟩, g5, g6, g7⟩ := hw
  obtain ⟨i, hi3, rfl⟩ := ix6 hi
  have hts := hF.2.2.2.2.1
  have hvm := hF.2.2.2.2.2.2.2.2.1
  have hrecv := vk_recv (vkS hE hvm hF.2.2.2.2.2.2.2.2.2) hi3 hS0
  rw [← hcl] at hrecv
  have hpre : PreV s H y'.cls (E.2.2.2 (i + 6)) (fun (a : Array Value) (U : State) => a = (Value.ref (E.2.2.2 (i + 6)) :: As).toArray ∧ VMok E U ∧ WR E tg S I L R n U.heap) As :=
    ⟨pcBlind, hrecv, fun U hU hWm => ⟨rfl, hvm.warm hWm, by rw [hU]; exact hW⟩⟩
  have hRm : d' + 1 ≤ Rm.frames ∧ 8 + (nL' + 11) + 60 * d' ≤ Rm.locals := by omega
  have kk' : ∀ v1 S1 I1 L1 R1 n1, Kq (some (.int v)) S' I' L' R' n' v1 S1 I1 L1 R1 n1 → X E y cc nL ret tg d nc ns (pc + 3) o (v1.toList ++ st) S1 I1 L1 R1 n1 K := by
    intro v1 S1 I1 L1 R1 n1 hk
    obtain ⟨rfl, rfl, rfl, rfl, rfl, rfl⟩ := hk
    exact kk
  rcases g5 with g5 | ⟨h, g5⟩
  · exact va_go (va_runV (n := As.length) ⟨hF.1, hF.2.1, hF.2.2.1, hF.2.2.2.1, hts⟩ hC ⟨callB_of As.length hts (goodG _ _ _ _ g2) rfl rfl rfl (hts _ g1) (hts _ g5) g3 hRm, hts _ g6, hts _ g7⟩ hpre rfl rfl hL.1 hst (lv_room hsum) hd (by omega)) kk' hF h1 h2 hZ hS0 hW.2.1 hc hs hL
  · exact va_go (va_runVN (n := As.length) ⟨hF.1, hF.2.1, hF.2.2.1, hF.2.2.2.1, hts⟩ hC ⟨va_cnB As.length hts (goodG _ _ _ _ g2) rfl rfl rfl (hvm.2.2.1 _ g5) (hts _ g1) g3 hRm, hts _ g6, hts _ g7⟩ hpre rfl rfl hL.1 hst (lv_room hsum) hd (by omega)) kk' hF h1 h2 hZ hS0 hW.2.1 hc hs hL
/-! the script -/
def SCR (E : Env) (N : Nat) (xs : Nat → Int32) : Prop := va_X (E.2.2.2 9) N xs E.2.1 E.2.1.heap ∧ E.2.2.2 9 < e_b E
theorem X.slen {N : Nat} {xs : Nat → Int32} (hX : SCR E N xs) (hd : decode cc pc = .ok (.arraylength, 1))
    (kk : X E y cc nL ret tg d nc ns (pc + 1) o (.int (Int32.ofNat N) :: st) S I L R n K) : X E y cc nL ret tg d nc ns pc o (.ref (E.2.2.2 9) :: st) S I L R n K := by
  intro p e Rm s m args below meth c Zs H locs cells slots ls hF h1 h2 hZ hW hS0 hc hs hL
  have hvm := hF.2.2.2.2.2.2.2.2.1
  have hH := hF.2.2.2.2.2.2.2.2.2
  exact va_slen hF.1 hF.2.1 ((hX.1.moved hvm.2.2.2.2.2.2).kept (hH.2 _ hX.2)) (Nat.lt_of_lt_of_le hX.2 hH.1) (Nat.not_le.mpr hX.2) hS0 hd (kk p e Rm s m args below meth c Zs H locs cells slots ls hF h1 h2 hZ hW hS0 hc hs hL)
theorem X.sld {N : Nat} {xs : Nat → Int32} {i : Int32} (hX : SCR E N xs) (hd : decode cc pc = .ok (.iaload, 1)) (hin : vp_in i N)
    (kk : X E y cc nL ret tg d nc ns (pc + 1) o (.int (xs i.toNatClampNeg) :: st) S I L R n K) : X E y cc nL ret tg d nc ns pc o (.int i :: .ref (E.2.2.2 9) :: st) S I L R n K := by
  intro p e Rm s m args below meth c Zs H locs cells slots ls hF h1 h2 hZ hW hS0 hc hs hL
  have hvm := hF.2.2.2.2.2.2.2.2.1
  have hH := hF.2.2.2.2.2.2.2.2.2
  exact va_sld hF.1 hF.2.1 ((hX.1.moved hvm.2.2.2.2.2.2).kept (hH.2 _ hX.2)) (Nat.lt_of_lt_of_le hX.2 hH.1) (Nat.not_le.mpr hX.2) hS0 hin hd (kk p e Rm s m args below meth c Zs H locs cells slots ls hF h1 h2 hZ hW hS0 hc hs hL)
end XN
