section XH
variable {E : Env} {y : MethodName} {cc : ByteArray} {nL : Nat} {ret : Option FieldType} {tg : Bool} {d nc ns pc : Nat} {o : List (Option Value)} {st : List Value} {S : MS} {I : MI} {L : ML} {R : MR} {n : Nat} {K : KT}
/-- the class ci as the tables have it -/
theorem cl_ok : ∀ ci, ci < 13 → vwCl[ci]? = some (clR ci, clT ci, cN ci) ∧ (∀ w ∈ u_ws (clR ci) (clT ci) (cN ci), w ∈ lw_tbl) ∧ (∀ k, k < cN ci → parseFieldDescriptor (clT ci k).2.2.1 = some (cT ci k)) ∧ (∀ a, a < cN ci → ∀ b, b < cN ci → a ≠ b → (clT ci a).2.1 ≠ (clT ci b).2.1) ∧ (∀ k, k < cN ci → (clT ci k).1 = clR ci)
  | 0, _ => ⟨rfl, inT0, tyk0, nm0, dcl0⟩ | 1, _ => ⟨rfl, inT1, tyk1, nm1, dcl1⟩ | 2, _ => ⟨rfl, inT2, tyk2, nm2, dcl2⟩ | 3, _ => ⟨rfl, inT3, tyk3, nm3, dcl3⟩ | 4, _ => ⟨rfl, inT4, tyk4, nm4, dcl4⟩
  | 5, _ => ⟨rfl, inT5, tyk5, nm5, dcl5⟩ | 6, _ => ⟨rfl, inT6, tyk6, nm6, dcl6⟩ | 7, _ => ⟨rfl, inT7, tyk7, nm7, dcl7⟩ | 8, _ => ⟨rfl, inT8, tyk8, nm8, dcl8⟩ | 9, _ => ⟨rfl, inT9, tyk9, nm9, dcl9⟩
  | 10, _ => ⟨rfl, inT10, tyk10, nm10, dcl10⟩ | 11, _ => ⟨rfl, inT11, tyk11, nm11, dcl11⟩ | 12, _ => ⟨rfl, inT12, tyk12, nm12, dcl12⟩
  | k + 13, h => absurd h (by omega)
theorem lay_good (C : String) (T : u_T) (k : Nat) : goodWord (u_lay C T k) = true := by
  unfold u_lay
  split <;> rfl
theorem cl_in {ci : Nat} (h : ci < 13) : ∀ w ∈ u_ws (clR ci) (clT ci) (cN ci), w ∈ wsG := fun w hw => by
  refine wsG_mem ((cl_ok ci h).2.1 w hw) ?_
  obtain ⟨k, -, rfl⟩ := List.mem_map.mp hw
  exact lay_good _ _ _
def FW (own : String) (x ci k : Nat) : Prop := ci < 13 ∧ k < cN ci ∧ (Cond.fieldLink own x (clR ci) (clT ci k).2.1 (clT ci k).2.2.1 ∈ wsG ∨ ∃ h : String, (own, x, clR ci, (clT ci k).2.1, (clT ci k).2.2.1, h) ∈ nestF)
theorem cel_fs {ci k : Nat} {a : Nat} (hk : k < cN ci) : ((List.range (cN ci)).map (fun k => fv E I L R a k (cT ci k)))[k]? = some (fv E I L R a k (cT ci k)) := by simp [hk]
theorem X.getf {x ci k a : Nat} {v : Value} (hw : FW y.cls x ci k) (hd : decode cc pc = .ok (.getfield x, 3)) (hS : (S a).1 = ci) (hv : fv E I L R a k (cT ci k) = v) (kk : X E y cc nL ret tg d nc ns (pc + 3) o (v :: st) S I L R n K) : X E y cc nL ret tg d nc ns pc o (.ref (e_b E + a) :: st) S I L R n K := by
  intro p e Rm s m args below meth c Zs H locs cells slots ls hF h1 h2 hZ hW hS0 hc hs hL
  obtain ⟨w1, w2, w3⟩ := hw
  have hlt := hW.lt hS (by omega)
  have hat := memL_at (E := E) (S := S) (I := I) (L := L) (R := R) hlt
  rw [cel_o hS (by omega)] at hat
  have hsame : ∀ z, s.fieldFound? (clT ci k).1 (clT ci k).2.1 (clT ci k).2.2.1 = some z → s.fieldFound? (clR ci) (clT ci k).2.1 (clT ci k).2.2.1 = some z := by rw [(cl_ok ci w1).2.2.2.2 k w2]; exact fun _ h => h
  have kk' := kk p e Rm s m args below meth c Zs H locs cells slots ls hF h1 h2 hZ hW hS0 hc hs hL
  rcases w3 with w3 | ⟨h, w3⟩
  · exact va_get hF.1 hF.2.1 hF.2.2.2.2.1 (cl_in w1) hF.2.2.2.1 hF.2.2.2.2.2.2.2.2.1.1 hW.1 a hat (cl_ok ci w1).1 k w2 (hF.2.2.2.2.1 _ w3) hsame (by rw [cel_fs w2, hv]) hd kk'
  · exact va_getN hF.1 hF.2.1 hF.2.2.2.2.1 (cl_in w1) hF.2.2.2.1 hF.2.2.2.2.2.2.2.2.1.1 hW.1 a hat (cl_ok ci w1).1 k w2 ((hF.2.2.2.2.2.2.2.2.1.2.1 _ w3).use rfl) hsame (by rw [cel_fs w2, hv]) hd kk'
theorem X.getI {x ci k a : Nat} (hw : FW y.cls x ci k) (hd : decode cc pc = .ok (.getfield x, 3)) (ht : ∀ r, fv E I L r a k (cT ci k) = .int (I a k)) (hS : (S a).1 = ci) (kk : X E y cc nL ret tg d nc ns (pc + 3) o (.int (I a k) :: st) S I L R n K) : X E y cc nL ret tg d nc ns pc o (.ref (e_b E + a) :: st) S I L R n K := X.getf hw hd hS (ht R) kk
theorem X.getR {x ci k a b : Nat} (hw : FW y.cls x ci k) (hd : decode cc pc = .ok (.getfield x, 3)) (ht : ∀ i, fv E i L R a k (cT ci k) = rv E (R a k)) (hS : (S a).1 = ci) (hb : R a k = some b) (kk : X E y cc nL ret tg d nc ns (pc + 3) o (.ref (e_b E + b) :: st) S I L R n K) : X E y cc nL ret tg d nc ns pc o (.ref (e_b E + a) :: st) S I L R n K := X.getf hw hd hS (by rw [ht, hb]; rfl) kk
theorem list_upd {α : Type} {N k : Nat} {f g : Nat → α} {v : α} (hk : g k = v) (hg : ∀ j, j ≠ k → g j = f j) : ((List.range N).map f).set k v = (List.range N).map g := by
  refine List.ext_getElem? fun j => ?_
  by_cases hj : j < N
  · by_cases hjk : j = k
    · subst hjk
      rw [List.getElem?_set_self (by simpa using hj)]
      simp [hj, hk]
    · rw [List.getElem?_set_ne (fun z => hjk z.symm)]
      simp [hj, hg j hjk]
  · rw [List.getElem?_eq_none (by simp; omega), List.getElem?_eq_none (by simp; omega)]
theorem fits_fv (ty : FieldType) (E : Env) (I : MI) (L : ML) (R : MR) (a k : Nat) (h : ty = .int ∨ ty = .long ∨ (∃ c, ty = .object c) ∨ (∃ t, ty = .array t) ∨ ty = .boolean ∧ (I a k = 0 ∨ I a k = 1)) : fits ty (fv E I L R a k ty) = true ∧ narrow ty (fv E I L R a k ty) = fv E I L R a k ty := by
  rcases h with rfl | rfl | ⟨c, rfl⟩ | ⟨t, rfl⟩ | ⟨rfl, h | h⟩
  · exact ⟨rfl, rfl⟩
  · exact ⟨rfl, rfl⟩
  · show fits (.object c) (rv E (R a k)) = true ∧ narrow (.object c) (rv E (R a k)) = rv E (R a k)
    cases R a k <;> exact ⟨rfl, rfl⟩
  · show fits (.array t) (rv E (R a k)) = true ∧ narrow (.array t) (rv E (R a k)) = rv E (R a k)
    cases R a k <;> exact ⟨rfl, rfl⟩
  · simp [fv, h, fits, narrow]
  · simp [fv, h, fits, narrow]
/-- a field's store: the memory behind it is I', L', R', like the old one but at (a, k) -/
theorem X.putf {x ci k a : Nat} {v : Value} {I' : MI} {L' : ML} {R' : MR} (hw : FW y.cls x ci k) (hd : decode cc pc = .ok (.putfield x, 3)) (hS : (S a).1 = ci) (hv : fv E I' L' R' a k (cT ci k) = v)
    (hty : cT ci k = .int ∨ cT ci k = .long ∨ (∃ c, cT ci k = .object c) ∨ (∃ t, cT ci k = .array t) ∨ cT ci k = .boolean ∧ (I' a k = 0 ∨ I' a k = 1))
    (hI : ∀ b j, ¬ (b = a ∧ j = k) → I' b j = I b j) (hL : ∀ b j, ¬ (b = a ∧ j = k) → L' b j = L b j) (hR : ∀ b j, ¬ (b = a ∧ j = k) → R' b j = R b j)
    (hfin : (clT ci k).2.2.2 = false ∨ ((clT ci k).2.2.2 = true ∧ y.name = "<init>" ∧ clR ci = y.cls ∧ Cond.fieldLink y.cls x (clR ci) (clT ci k).2.1 (clT ci k).2.2.1 ∈ wsG))
    (kk : X E y cc nL ret tg d nc ns (pc + 3) o st S I' L' R' n K) : X E y cc nL ret tg d nc ns pc o (v :: .ref (e_b E + a) :: st) S I L R n K := by
  intro p e Rm s m args below meth c Zs H locs cells slots ls hF h1 h2 hZ hW hS0 hc hs hL0
  obtain ⟨w1, w2, w3⟩ := hw
  have hlt := hW.lt hS (by omega)
  have hat := memL_at (E := E) (S := S) (I := I) (L := L) (R := R) hlt
  rw [cel_o hS (by omega)] at hat
  have hsame : ∀ z, s.fieldFound? (clT ci k).1 (clT ci k).2.1 (clT ci k).2.2.1 = some z → s.fieldFound? (clR ci) (clT ci k).2.1 (clT ci k).2.2.1 = some z := by rw [(cl_ok ci w1).2.2.2.2 k w2]; exact fun _ h => h
  have hff := fits_fv (cT ci k) E I' L' R' a k hty
  rw [hv] at hff
  have hset : (memL E S I L R n).set a (e_b E + a, .inr (ci, ((List.range (cN ci)).map (fun k => fv E I L R a k (cT ci k))).set k v)) = memL E S I' L' R' n := by
    refine memL_set ?_ (fun b hb => cel_eq rfl (funext fun j => hI b j (fun q => hb q.1)) (funext fun j => hL b j (fun q => hb q.1)) (funext fun j => hR b j (fun q => hb q.1)))
    rw [cel_o hS (by omega)]
    congr 1
    congr 1
    refine list_upd hv (fun j hj => ?_)
    show fv E I' L' R' a j _ = fv E I L R a j _
    unfold fv
    rw [hI a j (fun q => hj q.2), hL a j (fun q => hj q.2), hR a j (fun q => hj q.2)]
  have go : ∀ (H1 : Heap) (locs1 : List Loc), va_P E.2.2.1 vwCl ((memL E S I L R n).set a (e_b E + a, .inr (ci, ((List.range (cN ci)).map (fun k => fv E I L R a k (cT ci k))).set k v))) H1 → H1.size = H.size → (∀ q, q ≠ e_b E + a → H1[q]? = H[q]?) → va_S (aA E) s.heap H1 locs1 → W p E.1 e Rm s m args below meth c H1 locs1 cells slots Zs (F0 m (pc + 3) ls st) := by
    intro H1 locs1 hP hz hq hS1
    rw [hset] at hP
    exact kk p e Rm s m args below meth c Zs H1 locs1 cells slots ls hF h1 h2 hZ ⟨hP, hW.2.1.of (Nat.le_of_eq hz.symm) (fun q h => hq q (by omega)), hW.2.2.1, by rw [hz]; exact hW.2.2.2.1, fun h => by rw [hz]; exact hW.2.2.2.2 h⟩ hS1 hc hs hL0
  obtain ⟨hx, hb, -, hown, hts, -, -, hnm, hvm, -⟩ := hF
  have hin := cl_in w1
  have hcl := (cl_ok ci w1).1
  have hap := va_apart (own := y.cls) (s := s) hts hin (cT ci) (cl_ok ci w1).2.2.1 (cl_ok ci w1).2.2.2.1 hvm.1 hcl
  obtain ⟨r, g1, cell, q1, q2, q3, q4⟩ := hW.1 a _ hat
  have hr : r = (clR ci, clT ci, cN ci) := Option.some.inj (g1.symm.trans hcl)
  subst hr
  obtain ⟨hSl, hfc, kC, hkC, hkind⟩ := hvm.1.1 ci _ hcl
  obtain ⟨cf, kf, fi, f, hi, hsl⟩ := hSl k w2
  have hlay := hts _ (hin _ (u_in_lay w2))
  have hst := (u_facts hfc hkC (u_lays hts hin w2) hi).1
  have hdsc := (cl_ok ci w1).2.2.1 k w2
  have hlen : k < ((List.range (cN ci)).map (fun k => fv E I L R a k (cT ci k))).length := by simpa using w2
  have fin : ∀ (H' : Heap), H'[e_b E + a]? = some (cell.setSlot (E.2.2.1.2 ci k) v) → H'.size = H.size → (∀ q, q ≠ e_b E + a → H'[q]? = H[q]?) → W p E.1 e Rm s m args below meth c H' (locs ++ [⟨e_b E + a, E.2.2.1.2 ci k⟩]) cells slots Zs (F0 m (pc + 3) ls st) := by
    intro H' e1 e2 e3
    exact go H' _ (hW.1.set memL_D hat ⟨_, hcl, t_OB.to (V := updV (vp_V ((List.range (cN ci)).map (fun k => fv E I L R a k (cT ci k)))) k v) ⟨_, e1, q2, q3, t_set q4 hap w2 v⟩ (fun j _ => vp_updV_set hlen v j)⟩ e3) e2 e3 (hS0.put e2 e3 (Nat.le_add_right _ _))
  rcases hfin with hfin | ⟨hfin, hin2, hdecl, hfl⟩
  · unfold u_lay at hlay
    rw [if_neg (by rw [hfin]; decide)] at hlay
    have h6 := u_store hfc hkC hkind hlay hi hdsc hff.2 hff.1
    rcases w3 with w3 | ⟨h, w3⟩
    · refine W.putK hx hb (f := f) ⟨hown, hts _ w3, ⟨_, _, _, hsame _ hi⟩, hst⟩ (by rw [q2]; exact h6) q1 q3 (by rw [hsl]; exact k2_hasslot (q4 k w2)) rfl rfl hd fun H' e1 e2 e3 => ?_
      rw [hsl] at e1 ⊢
      exact fin H' e1 e2 e3
    · refine va_WputK hx hb (f := f) hown ((hvm.2.1 _ w3).use rfl) (hsame _ hi) hst (by rw [q2]; exact h6) q1 q3 (by rw [hsl]; exact k2_hasslot (q4 k w2)) rfl rfl hd fun H' e1 e2 e3 => ?_
      rw [hsl] at e1 ⊢
      exact fin H' e1 e2 e3
  · unfold u_lay at hlay
    rw [if_pos hfin] at hlay
    have hcf : m.cls = cf := by
      obtain ⟨_, _, c', _, _, _, -, -, hf', -, -, -, hown2, -⟩ := Cond.laysFinal_spec hlay
      have e1 : c' = cf := by have := hi.symm.trans hf'; simp at this; exact this.1.symm
      rw [(cl_ok ci w1).2.2.2.2 k w2, hdecl] at hown2
      rw [← e1]; exact Option.some.inj (hown.symm.trans hown2)
    have h6 := u_fits hfc hkC hkind (Or.inr hlay) hi hdsc hff.2 hff.1
    refine W.putFinK hx hb hown (hts _ hfl) (hsame _ hi) hst hcf (hnm.trans hin2) (by rw [q2]; exact h6) q1 q3 (by rw [hsl]; exact k2_hasslot (q4 k w2)) rfl rfl hd fun H' e1 e2 e3 => ?_
    rw [hsl] at e1 ⊢
    exact fin H' e1 e2 e3
theorem X.putI {x ci k a : Nat} {v : Int32} (hw : FW y.cls x ci k) (hd : decode cc pc = .ok (.putfield x, 3)) (ht : cT ci k = .int) (hfin : (clT ci k).2.2.2 = false) (hS : (S a).1 = ci)
    (kk : X E y cc nL ret tg d nc ns (pc + 3) o st S (wI I a k v) L R n K) : X E y cc nL ret tg d nc ns pc o (.int v :: .ref (e_b E + a) :: st) S I L R n K :=
  X.putf (I' := wI I a k v) (L' := L) (R' := R) hw hd hS (by rw [ht]; simp [fv, wI]) (Or.inl ht) (fun b j h => by simp [wI, h]) (fun _ _ _ => rfl) (fun _ _ _ => rfl) (Or.inl hfin) kk
theorem X.putZ {x ci k a : Nat} {v : Int32} (hw : FW y.cls x ci k) (hd : decode cc pc = .ok (.putfield x, 3)) (ht : cT ci k = .boolean) (hfin : (clT ci k).2.2.2 = false) (hS : (S a).1 = ci) (hv : v = 0 ∨ v = 1)
    (kk : X E y cc nL ret tg d nc ns (pc + 3) o st S (wI I a k v) L R n K) : X E y cc nL ret tg d nc ns pc o (.int v :: .ref (e_b E + a) :: st) S I L R n K :=
  X.putf (I' := wI I a k v) (L' := L) (R' := R) hw hd hS (by rw [ht]; simp [fv, wI]) (Or.inr (Or.inr (Or.inr (Or.inr ⟨ht, by simpa [wI] using hv⟩)))) (fun b j h => by simp [wI, h]) (fun _ _ _ => rfl) (fun _ _ _ => rfl) (Or.inl hfin) kk
theorem X.putR {x ci k a b : Nat} (hw : FW y.cls x ci k) (hd : decode cc pc = .ok (.putfield x, 3)) (ht : (∃ c, cT ci k = .object c) ∨ (∃ t, cT ci k = .array t)) (hS : (S a).1 = ci)
    (hfin : (clT ci k).2.2.2 = false ∨ ((clT ci k).2.2.2 = true ∧ y.name = "<init>" ∧ clR ci = y.cls ∧ Cond.fieldLink y.cls x (clR ci) (clT ci k).2.1 (clT ci k).2.2.1 ∈ wsG))
    (kk : X E y cc nL ret tg d nc ns (pc + 3) o st S I L (wR R a k (some b)) n K) : X E y cc nL ret tg d nc ns pc o (.ref (e_b E + b) :: .ref (e_b E + a) :: st) S I L R n K :=
  X.putf (I' := I) (L' := L) (R' := wR R a k (some b)) hw hd hS (by rcases ht with ⟨c, h⟩ | ⟨c, h⟩ <;> rw [h] <;> simp [fv, wR, rv, va_rf]) (by rcases ht with h | h <;> simp [h]) (fun _ _ _ => rfl) (fun _ _ _ => rfl) (fun b j h => by simp [wR, h]) hfin kk
theorem X.iaload {a : Nat} {i : Int32} (hd : decode cc pc = .ok (.iaload, 1)) (hS : (S a).1 = 20) (hin : vp_in i (S a).2) (kk : X E y cc nL ret tg d nc ns (pc + 1) o (.int (I a i.toNatClampNeg) :: st) S I L R n K) : X E y cc nL ret tg d nc ns pc o (.int i :: .ref (e_b E + a) :: st) S I L R n K := by
  intro p e Rm s m args below meth c Zs H locs cells slots ls hF h1 h2 hZ hW hS0 hc hs hL
  have hat := memL_at (E := E) (S := S) (I := I) (L := L) (R := R) (hW.lt hS (by omega))
  rw [cel_20 hS] at hat
  exact va_iald hF.1 hF.2.1 hF.2.2.2.2.2.2.2.2.1.1 hW.1 a 0 hat rfl hin hd (kk p e Rm s m args below meth c Zs H locs cells slots ls hF h1 h2 hZ hW hS0 hc hs hL)
theorem X.laload {a : Nat} {i : Int32} (hd : decode cc pc = .ok (.laload, 1)) (hS : (S a).1 = 21) (hin : vp_in i (S a).2) (kk : X E y cc nL ret tg d nc ns (pc + 1) o (.long (L a i.toNatClampNeg) :: st) S I L R n K) : X E y cc nL ret tg d nc ns pc o (.int i :: .ref (e_b E + a) :: st) S I L R n K := by
  intro p e Rm s m args below meth c Zs H locs cells slots ls hF h1 h2 hZ hW hS0 hc hs hL
  have hat := memL_at (E := E) (S := S) (I := I) (L := L) (R := R) (hW.lt hS (by omega))
  rw [cel_21 hS] at hat
  exact va_lald hF.1 hF.2.1 hF.2.2.2.2.2.2.2.2.1.1 hW.1 a 1 hat rfl hin hd (kk p e Rm s m args below meth c Zs H locs cells slots ls hF h1 h2 hZ hW hS0 hc hs hL)
theorem X.baload {a : Nat} {i : Int32} (hd : decode cc pc = .ok (.baload, 1)) (hS : (S a).1 = 22) (hin : vp_in i (S a).2) (kk : X E y cc nL ret tg d nc ns (pc + 1) o (.int (I a i.toNatClampNeg) :: st) S I L R n K) : X E y cc nL ret tg d nc ns pc o (.int i :: .ref (e_b E + a) :: st) S I L R n K := by
  intro p e Rm s m args below meth c Zs H locs cells slots ls hF h1 h2 hZ hW hS0 hc hs hL
  have hat := memL_at (E := E) (S := S) (I := I) (L := L) (R := R) (hW.lt hS (by omega))
  rw [cel_22 hS] at hat
  exact va_zald hF.1 hF.2.1 hF.2.2.2.2.2.2.2.2.1.1 hW.1 a 2 hat rfl hin hd (kk p e Rm s m args below meth c Zs H locs cells slots ls hF h1 h2 hZ hW hS0 hc hs hL)
theorem X.aaload {a b : Nat} {i : Int32} (hd : decode cc pc = .ok (.aaload, 1)) (hS : (S a).1 = 23 ∨ (S a).1 = 24) (hin : vp_in i (S a).2) (hb : R a i.toNatClampNeg = some b) (kk : X E y cc nL ret tg d nc ns (pc + 1) o (.ref (e_b E + b) :: st) S I L R n K) : X E y cc nL ret tg d nc ns pc o (.int i :: .ref (e_b E + a) :: st) S I L R n K := by
  intro p e Rm s m args below meth c Zs H locs cells slots ls hF h1 h2 hZ hW hS0 hc hs hL
  have k1 := kk p e Rm s m args below meth c Zs H locs cells slots ls hF h1 h2 hZ hW hS0 hc hs hL
  rcases hS with hS | hS
  · have hat := memL_at (E := E) (S := S) (I := I) (L := L) (R := R) (hW.lt hS (by omega))
    rw [cel_23 hS] at hat
    refine va_aldq hF.1 hF.2.1 hF.2.2.2.2.2.2.2.2.1.1 hW.1 a 3 hat rfl hin hd ?_
    rw [hb]
    exact k1
  · have hat := memL_at (E := E) (S := S) (I := I) (L := L) (R := R) (hW.lt hS (by omega))
    rw [cel_24 hS] at hat
    refine va_aldq hF.1 hF.2.1 hF.2.2.2.2.2.2.2.2.1.1 hW.1 a 4 hat rfl hin hd ?_
    rw [hb]
    exact k1
theorem X.alen {a : Nat} (hd : decode cc pc = .ok (.arraylength, 1)) (hS : 20 ≤ (S a).1 ∧ (S a).1 < 25) (kk : X E y cc nL ret tg d nc ns (pc + 1) o (.int (Int32.ofNat (S a).2) :: st) S I L R n K) : X E y cc nL ret tg d nc ns pc o (.ref (e_b E + a) :: st) S I L R n K := by
  intro p e Rm s m args below meth c Zs H locs cells slots ls hF h1 h2 hZ hW hS0 hc hs hL
  have k1 := kk p e Rm s m args below meth c Zs H locs cells slots ls hF h1 h2 hZ hW hS0 hc hs hL
  have hat := memL_at (E := E) (S := S) (I := I) (L := L) (R := R) (hW.lt rfl hS.2)
  rcases (show (S a).1 = 20 ∨ (S a).1 = 21 ∨ (S a).1 = 22 ∨ (S a).1 = 23 ∨ (S a).1 = 24 by omega) with h | h | h | h | h
  · rw [cel_20 h] at hat
    exact va_alen hF.1 hF.2.1 hF.2.2.2.2.2.2.2.2.1.1 hW.1 a 0 hat rfl rfl hd k1
  · rw [cel_21 h] at hat
    exact va_alen hF.1 hF.2.1 hF.2.2.2.2.2.2.2.2.1.1 hW.1 a 1 hat rfl rfl hd k1
  · rw [cel_22 h] at hat
    exact va_alen hF.1 hF.2.1 hF.2.2.2.2.2.2.2.2.1.1 hW.1 a 2 hat rfl rfl hd k1
  · rw [cel_23 h] at hat
    exact va_alen hF.1 hF.2.1 hF.2.2.2.2.2.2.2.2.1.1 hW.1 a 3 hat rfl rfl hd k1
  · rw [cel_24 h] at hat
    exact va_alen hF.1 hF.2.1 hF.2.2.2.2.2.2.2.2.1.1 hW.1 a 4 hat rfl rfl hd k1
/-- what holds behind a store into cell a -/
theorem WR.put {H H' : Heap} {a : Nat} {e0 e1 : va_E} {I' : MI} {L' : ML} {R' : MR} (hW : WR E tg S I L R n H) (ha : (memL E S I L R n)[a]? = some (e_b E + a, e0)) (he : va_at E.2.2.1 vwCl (e_b E + a, e1) H') (hz : H'.size = H.size) (hq : ∀ q, q ≠ e_b E + a → H'[q]? = H[q]?)
    (e1' : e1 = cel E S I' L' R' a) (hI : ∀ b, b ≠ a → I' b = I b) (hL : ∀ b, b ≠ a → L' b = L b) (hR : ∀ b, b ≠ a → R' b = R b) : WR E tg S I' L' R' n H' := by
  refine ⟨?_, hW.2.1.of (Nat.le_of_eq hz.symm) (fun q h => hq q (by omega)), hW.2.2.1, by rw [hz]; exact hW.2.2.2.1, fun h => by rw [hz]; exact hW.2.2.2.2 h⟩
  rw [← memL_set (I := I) (L := L) (R := R) (S := S) e1' (fun b hb => cel_eq rfl (hI b hb) (hL b hb) (hR b hb))]
  exact hW.1.set memL_D ha he hq
theorem X.iastore {a : Nat} {i v : Int32} (hd : decode cc pc = .ok (.iastore, 1)) (hS : (S a).1 = 20) (hin : vp_in i (S a).2) (kk : X E y cc nL ret tg d nc ns (pc + 1) o st S (wI I a i.toNatClampNeg v) L R n K) : X E y cc nL ret tg d nc ns pc o (.int v :: .int i :: .ref (e_b E + a) :: st) S I L R n K := by
  intro p e Rm s m args below meth c Zs H locs cells slots ls hF h1 h2 hZ hW hS0 hc hs hL
  have hat := memL_at (E := E) (S := S) (I := I) (L := L) (R := R) (hW.lt hS (by omega))
  rw [cel_20 hS] at hat
  have hK := hF.2.2.2.2.2.2.2.2.1.1
  refine W.iast hF.1 hF.2.1 (hW.1 a _ hat) ((hK.2 0 _ rfl).1 _ (fun j => .int (I a j))) (fun q => by cases q) (by show ¬ (i < 0 ∨ (arrV _ _ _).slots.size ≤ _); rw [arrV_size]; exact hin) rfl rfl hd fun H1 e1 z oq => ?_
  refine kk p e Rm s m args below meth c Zs H1 _ cells slots ls hF h1 h2 hZ (hW.put hat (e1 := .inl (E.2.2.2 0, (S a).2, .inl (wI I a i.toNatClampNeg v a))) ?_ z oq (by rw [cel_20 hS]) (fun b hb => by funext j; simp [wI, hb]) (fun _ _ => rfl) (fun _ _ => rfl)) (hS0.put z oq (Nat.le_add_right _ _)) hc hs hL
  show H1[e_b E + a]? = some (vp_cell _ _)
  rw [e1, vp_cell_i, vp_cell_i, arrV_store]
  congr 2
  funext q
  by_cases hq : q = i.toNatClampNeg
  · subst hq
    simp [updV, wI]
  · simp [updV, wI, hq]
theorem X.lastore {a : Nat} {i : Int32} {v : Int64} (hd : decode cc pc = .ok (.lastore, 1)) (hS : (S a).1 = 21) (hin : vp_in i (S a).2) (kk : X E y cc nL ret tg d nc ns (pc + 1) o st S I (wL L a i.toNatClampNeg v) R n K) : X E y cc nL ret tg d nc ns pc o (.long v :: .int i :: .ref (e_b E + a) :: st) S I L R n K := by
  intro p e Rm s m args below meth c Zs H locs cells slots ls hF h1 h2 hZ hW hS0 hc hs hL
  have hat := memL_at (E := E) (S := S) (I := I) (L := L) (R := R) (hW.lt hS (by omega))
  rw [cel_21 hS] at hat
  have hK := hF.2.2.2.2.2.2.2.2.1.1
  refine W.last hF.1 hF.2.1 (hW.1 a _ hat) ((hK.2 1 _ rfl).1 _ (fun j => .long (L a j))) (fun q => by cases q) (by show ¬ (i < 0 ∨ (arrV _ _ _).slots.size ≤ _); rw [arrV_size]; exact hin) rfl rfl hd fun H1 e1 z oq => ?_
  refine kk p e Rm s m args below meth c Zs H1 _ cells slots ls hF h1 h2 hZ (hW.put hat (e1 := .inl (E.2.2.2 1, (S a).2, .inr (.inl (wL L a i.toNatClampNeg v a)))) ?_ z oq (by rw [cel_21 hS]) (fun _ _ => rfl) (fun b hb => by funext j; simp [wL, hb]) (fun _ _ => rfl)) (hS0.put z oq (Nat.le_add_right _ _)) hc hs hL
  show H1[e_b E + a]? = some (vp_cell _ _)
  rw [e1, vp_cell_l, vp_cell_l, arrV_store]
  congr 2
  funext q
  by_cases hq : q = i.toNatClampNeg
  · subst hq
    simp [updV, wL]
  · simp [updV, wL, hq]
theorem X.bastore {a : Nat} {i v : Int32} (hd : decode cc pc = .ok (.bastore, 1)) (hS : (S a).1 = 22) (hin : vp_in i (S a).2) (kk : X E y cc nL ret tg d nc ns (pc + 1) o st S (wI I a i.toNatClampNeg (v &&& 1)) L R n K) : X E y cc nL ret tg d nc ns pc o (.int v :: .int i :: .ref (e_b E + a) :: st) S I L R n K := by
  intro p e Rm s m args below meth c Zs H locs cells slots ls hF h1 h2 hZ hW hS0 hc hs hL
  have hat := memL_at (E := E) (S := S) (I := I) (L := L) (R := R) (hW.lt hS (by omega))
  rw [cel_22 hS] at hat
  have hK := hF.2.2.2.2.2.2.2.2.1.1
  refine W.zast hF.1 hF.2.1 (hW.1 a _ hat) ((hK.2 2 _ rfl).1 _ (fun j => .int (I a j))) (fun q => by cases q) (by show ¬ (i < 0 ∨ (arrV _ _ _).slots.size ≤ _); rw [arrV_size]; exact hin) rfl rfl hd fun H1 e1 z oq => ?_
  refine kk p e Rm s m args below meth c Zs H1 _ cells slots ls hF h1 h2 hZ (hW.put hat (e1 := .inl (E.2.2.2 2, (S a).2, .inl (wI I a i.toNatClampNeg (v &&& 1) a))) ?_ z oq (by rw [cel_22 hS]) (fun b hb => by funext j; simp [wI, hb]) (fun _ _ => rfl) (fun _ _ => rfl)) (hS0.put z oq (Nat.le_add_right _ _)) hc hs hL
  show H1[e_b E + a]? = some (vp_cell _ _)
  rw [e1, vp_cell_i, vp_cell_i, arrV_store]
  congr 2
  funext q
  by_cases hq : q = i.toNatClampNeg
  · subst hq
    simp [updV, wI]
    try rfl
  · simp [updV, wI, hq]
end XH
