set_option maxRecDepth 100000 in
noncomputable def l_Mod_hire_33 (S : MS) (R : MR) (v0 : Nat) (v1 : Int32) (v2 : Int32) : Nat → MI → ML → Int32 → Option (MI × ML)
  | 0, _, _, _ => none
  | f + 1, I, L, v3 =>
    ifb (v1 ≤ v3)
      (some (I, L))
      (bnd1 (R v0 49) fun b10 =>
      asrt ((S b10).1 = 20) <|
      asrt (vp_in v3 (S b10).2) <|
      bnd2 (f_Mod_enters S R I L v0 (Int32.toInt64 (I b10 (Int32.toNatClampNeg v3)))) fun I13 L14 =>
      l_Mod_hire_33 S R v0 v1 v2 f I13 L14 (v3 + 1))
set_option maxRecDepth 100000 in
set_option maxHeartbeats 4000000 in
theorem xl_Mod_hire_33 {E : Env} (hE : OKE E) {tg : Bool} {d : Nat} (hd : 11 ≤ d) {S : MS} {R : MR} {n : Nat} {v0 : Nat} {v1 : Int32} {v2 : Int32} {K : KT} :
    ∀ {f : Nat} {I : MI} {L : ML} {v3 : Int32} {I' : MI} {L' : ML}, (S v0).1 = 12 → l_Mod_hire_33 S R v0 v1 v2 f I L v3 = some (I', L') → X E y_Mod_hire b_Mod_hire 4 (some .int) tg d 0 0 55 [none, none, some (.int v2), none] [] S I' L' R n K → X E y_Mod_hire b_Mod_hire 4 (some .int) tg d 0 0 33 [some (.ref (e_b E + v0)), some (.int v1), some (.int v2), some (.int v3)] [] S I L R n K := by
  intro f
  induction f with
  | zero =>
    intro I L v3 I' L' hS h hk
    rw [l_Mod_hire_33] at h
    cases h
  | succ f ih =>
    intro I L v3 I' L' hS h hk
    rw [l_Mod_hire_33] at h
    refine X.iload_3 (pc := 33) (by decide +kernel) ?_
    refine X.iload_1 (pc := 34) (by decide +kernel) ?_
    rcases ifb_some h with ⟨hq9, h⟩ | ⟨hq9, h⟩
    · refine X.icmp_ge_t (pc := 35) (off := 20) (tgt := 55) hq9 rfl (by decide +kernel) ?_
      have j0 := Option.some.inj h
      obtain ⟨i0, j1⟩ := Prod.mk.inj j0
      subst i0
      subst j1
      refine X.fgt (o' := [none, none, some (.int v2), none]) ⟨rfl, trivial⟩ ?_
      exact hk
    · refine X.icmp_ge_f (pc := 35) (off := 20) (tgt := 55) hq9 rfl (by decide +kernel) ?_
      refine X.aload_0 (pc := 38) (by decide +kernel) ?_
      refine X.aload_0 (pc := 39) (by decide +kernel) ?_
      obtain ⟨b10, hb10, h⟩ := bnd1_some h
      refine X.getR (pc := 40) (k := 49) fw_Mod_132 (by decide +kernel) (fun _ => rfl) hS hb10 ?_
      refine X.iload_3 (pc := 43) (by decide +kernel) ?_
      obtain ⟨hc12, h⟩ := asrt_some h
      obtain ⟨hi11, h⟩ := asrt_some h
      refine X.iaload (pc := 44) (by decide +kernel) hc12 hi11 ?_
      refine X.i2l (pc := 45) (by decide +kernel) ?_
      obtain ⟨I13, L14, hv15, h⟩ := bnd2_some h
      refine X.callVv (pc := 46) (nc := 0) (ns := 0) (c_Mod_enters hE (dle hd (Nat.le_of_ble_eq_true rfl)) hS hv15) cv_Mod_24 (by decide +kernel) hS ⟨by decide, rfl⟩ (ddd hd (Nat.le_of_ble_eq_true rfl)) rfl (Nat.le_of_ble_eq_true rfl) rfl rfl ?_
      refine X.iinc_3 (pc := 49) (z := 1) (v := 1) ic_1 (by decide +kernel) (by decide) rfl ?_
      refine X.goto (pc := 52) (off := (-19)) (tgt := 33) (by decide +kernel) rfl ?_
      exact ih hS h hk
set_option maxRecDepth 100000 in
noncomputable def f_Mod_hire (g : Nat) (S : MS) (R : MR) (I : MI) (L : ML) (t : Nat) (p1 : Int32) : Option (Int32 × MI × ML) :=
  lt (wI I t 0 0) fun (I1 : MI) =>
  bnd1 (f_Mod_in (Int32.toInt64 p1) 1 5) fun x2 =>
  ifb (x2 = 0)
    (some ((-1), I1, L))
    (bnd2 (f_Mod_hiresBy g S R I1 t p1 (-1)) fun x5 I6 =>
    lt (wI I6 t 1 0) fun (I8 : MI) =>
    bnd2 (l_Mod_hire_33 S R t p1 x5 g I8 L 0) fun I16 L17 =>
    some (x5, I16, L17))
set_option maxRecDepth 100000 in
set_option maxHeartbeats 4000000 in
theorem c_Mod_hire {E : Env} (hE : OKE E) {tg : Bool} {d : Nat} (hd : 11 ≤ d) {g : Nat} {S : MS} {I : MI} {L : ML} {R : MR} {n : Nat} {t : Nat} {p1 : Int32} {v : Int32} {I' : MI} {L' : ML} (hS : (S t).1 = 12) (h : f_Mod_hire g S R I L t p1 = some (v, I', L')) : C E y_Mod_hire b_Mod_hire 4 (some .int) tg d 0 0 [.ref (e_b E + t), .int p1] S I L R n (Kq (some (.int v)) S I' L' R n) := by
  refine C.of (o := [some (.ref (e_b E + t)), some (.int p1), none, none]) (by decide) rfl (Nat.le_of_ble_eq_true rfl) ?_
  rw [f_Mod_hire] at h
  refine X.aload_0 (pc := 0) (by decide +kernel) ?_
  refine X.iconst (pc := 1) (i := 0) (v := 0) ic_0 (by decide +kernel) ?_
  refine X.putI (pc := 2) (k := 0) fw_Mod_3 (by decide +kernel) rfl rfl hS ?_
  refine X.nameMI (fun I1 hI1 => ?_)
  have h := lt_at hI1 h
  refine X.iload_1 (pc := 5) (by decide +kernel) ?_
  refine X.i2l (pc := 6) (by decide +kernel) ?_
  refine X.lconst (pc := 7) (i := 1) (v := 1) rfl (by decide +kernel) ?_
  refine X.ldc2 (pc := 8) (x := 358) (v := 5) ld_Mod_358 (by decide +kernel) ?_
  obtain ⟨x2, hv3, h⟩ := bnd1_some h
  refine X.callSi (pc := 11) (nc := 0) (ns := 0) (c_Mod_in hE (dle hd (Nat.le_of_ble_eq_true rfl)) hv3) cv_Mod_151 (by decide +kernel) (ddd hd (Nat.le_of_ble_eq_true rfl)) rfl (Nat.le_of_ble_eq_true rfl) rfl rfl ?_
  rcases ifb_some h with ⟨hq4, h⟩ | ⟨hq4, h⟩
  · refine X.if_ne_f (pc := 14) (off := 5) (tgt := 19) hq4 rfl (by decide +kernel) ?_
    refine X.iconst (pc := 17) (i := (-1)) (v := (-1)) ic_m1 (by decide +kernel) ?_
    have j0 := Option.some.inj h
    obtain ⟨i0, j1⟩ := Prod.mk.inj j0
    obtain ⟨i1, j2⟩ := Prod.mk.inj j1
    subst i0
    subst i1
    subst j2
    exact X.ireturn (pc := 18) (by decide +kernel) ⟨_, rfl, rfl⟩ ⟨rfl, rfl, rfl, rfl, rfl, rfl⟩
  · refine X.if_ne_t (pc := 14) (off := 5) (tgt := 19) hq4 rfl (by decide +kernel) ?_
    refine X.aload_0 (pc := 19) (by decide +kernel) ?_
    refine X.iload_1 (pc := 20) (by decide +kernel) ?_
    refine X.iconst (pc := 21) (i := (-1)) (v := (-1)) ic_m1 (by decide +kernel) ?_
    obtain ⟨x5, I6, hv7, h⟩ := bnd2_some h
    refine X.callVi (pc := 22) (nc := 0) (ns := 0) (c_Mod_hiresBy hE (dle hd (Nat.le_of_ble_eq_true rfl)) hS hv7) cv_Mod_430 (by decide +kernel) hS ⟨by decide, rfl⟩ (ddd hd (Nat.le_of_ble_eq_true rfl)) rfl (Nat.le_of_ble_eq_true rfl) rfl rfl ?_
    refine X.istore_2 (pc := 25) (by decide +kernel) (by decide) rfl ?_
    refine X.aload_0 (pc := 26) (by decide +kernel) ?_
    refine X.iconst (pc := 27) (i := 0) (v := 0) ic_0 (by decide +kernel) ?_
    refine X.putI (pc := 28) (k := 1) fw_Mod_21 (by decide +kernel) rfl rfl hS ?_
    refine X.nameMI (fun I8 hI8 => ?_)
    have h := lt_at hI8 h
    refine X.iconst (pc := 31) (i := 0) (v := 0) ic_0 (by decide +kernel) ?_
    refine X.istore_3 (pc := 32) (by decide +kernel) (by decide) rfl ?_
    obtain ⟨I16, L17, hv18, h⟩ := bnd2_some h
    refine xl_Mod_hire_33 hE hd hS hv18 ?_
    refine X.iload_2 (pc := 55) (by decide +kernel) ?_
    have j0 := Option.some.inj h
    obtain ⟨i0, j1⟩ := Prod.mk.inj j0
    obtain ⟨i1, j2⟩ := Prod.mk.inj j1
    subst i0
    subst i1
    subst j2
    exact X.ireturn (pc := 56) (by decide +kernel) ⟨_, rfl, rfl⟩ ⟨rfl, rfl, rfl, rfl, rfl, rfl⟩
set_option maxRecDepth 100000 in
noncomputable def f_Mod_hoarse (g : Nat) (S : MS) (R : MR) (I : MI) (t : Nat) (p1 : Int32) (p2 : Int32) : Option (Int32 × MI) :=
  lt (wI I t 0 0) fun (I1 : MI) =>
  bnd1 (f_Mod_in (Int32.toInt64 p2) 1 5) fun x2 =>
  ifb (x2 = 0)
    (some ((-1), I1))
    (bnd1 (f_Mod_in (Int32.toInt64 p1) 0 (Int32.toInt64 (p2 - 1))) fun x5 =>
    ifb (x5 = 0)
      (some ((-1), I1))
      (bnd2 (f_Mod_hiresBy g S R I1 t p2 (-1)) fun x8 I9 =>
      bnd2 (f_Mod_hiresBy g S R I9 t p2 p1) fun x11 I12 =>
      lt (x8 - x11) fun (x14 : Int32) =>
      some (x14, I12)))
set_option maxRecDepth 100000 in
set_option maxHeartbeats 4000000 in
theorem c_Mod_hoarse {E : Env} (hE : OKE E) {tg : Bool} {d : Nat} (hd : 11 ≤ d) {g : Nat} {S : MS} {I : MI} {L : ML} {R : MR} {n : Nat} {t : Nat} {p1 : Int32} {p2 : Int32} {v : Int32} {I' : MI} (hS : (S t).1 = 12) (h : f_Mod_hoarse g S R I t p1 p2 = some (v, I')) : C E y_Mod_hoarse b_Mod_hoarse 3 (some .int) tg d 0 0 [.ref (e_b E + t), .int p1, .int p2] S I L R n (Kq (some (.int v)) S I' L R n) := by
  refine C.of (o := [some (.ref (e_b E + t)), some (.int p1), some (.int p2)]) (by decide) rfl (Nat.le_of_ble_eq_true rfl) ?_
  rw [f_Mod_hoarse] at h
  refine X.aload_0 (pc := 0) (by decide +kernel) ?_
  refine X.iconst (pc := 1) (i := 0) (v := 0) ic_0 (by decide +kernel) ?_
  refine X.putI (pc := 2) (k := 0) fw_Mod_3 (by decide +kernel) rfl rfl hS ?_
  refine X.nameMI (fun I1 hI1 => ?_)
  have h := lt_at hI1 h
  refine X.iload_2 (pc := 5) (by decide +kernel) ?_
  refine X.i2l (pc := 6) (by decide +kernel) ?_
  refine X.lconst (pc := 7) (i := 1) (v := 1) rfl (by decide +kernel) ?_
  refine X.ldc2 (pc := 8) (x := 358) (v := 5) ld_Mod_358 (by decide +kernel) ?_
  obtain ⟨x2, hv3, h⟩ := bnd1_some h
  refine X.callSi (pc := 11) (nc := 0) (ns := 0) (c_Mod_in hE (dle hd (Nat.le_of_ble_eq_true rfl)) hv3) cv_Mod_151 (by decide +kernel) (ddd hd (Nat.le_of_ble_eq_true rfl)) rfl (Nat.le_of_ble_eq_true rfl) rfl rfl ?_
  rcases ifb_some h with ⟨hq4, h⟩ | ⟨hq4, h⟩
  · refine X.if_eq_t (pc := 14) (off := 16) (tgt := 30) hq4 rfl (by decide +kernel) ?_
    refine X.iconst (pc := 30) (i := (-1)) (v := (-1)) ic_m1 (by decide +kernel) ?_
    have j0 := Option.some.inj h
    obtain ⟨i0, j1⟩ := Prod.mk.inj j0
    subst i0
    subst j1
    exact X.ireturn (pc := 31) (by decide +kernel) ⟨_, rfl, rfl⟩ ⟨rfl, rfl, rfl, rfl, rfl, rfl⟩
  · refine X.if_eq_f (pc := 14) (off := 16) (tgt := 30) hq4 rfl (by decide +kernel) ?_
    refine X.iload_1 (pc := 17) (by decide +kernel) ?_
    refine X.i2l (pc := 18) (by decide +kernel) ?_
    refine X.lconst (pc := 19) (i := 0) (v := 0) rfl (by decide +kernel) ?_
    refine X.iload_2 (pc := 20) (by decide +kernel) ?_
    refine X.iconst (pc := 21) (i := 1) (v := 1) ic_1 (by decide +kernel) ?_
    refine X.isub (pc := 22) (by decide +kernel) ?_
    refine X.i2l (pc := 23) (by decide +kernel) ?_
    obtain ⟨x5, hv6, h⟩ := bnd1_some h
    refine X.callSi (pc := 24) (nc := 0) (ns := 0) (c_Mod_in hE (dle hd (Nat.le_of_ble_eq_true rfl)) hv6) cv_Mod_151 (by decide +kernel) (ddd hd (Nat.le_of_ble_eq_true rfl)) rfl (Nat.le_of_ble_eq_true rfl) rfl rfl ?_
    rcases ifb_some h with ⟨hq7, h⟩ | ⟨hq7, h⟩
    · refine X.if_ne_f (pc := 27) (off := 5) (tgt := 32) hq7 rfl (by decide +kernel) ?_
      refine X.iconst (pc := 30) (i := (-1)) (v := (-1)) ic_m1 (by decide +kernel) ?_
      have j0 := Option.some.inj h
      obtain ⟨i0, j1⟩ := Prod.mk.inj j0
      subst i0
      subst j1
      exact X.ireturn (pc := 31) (by decide +kernel) ⟨_, rfl, rfl⟩ ⟨rfl, rfl, rfl, rfl, rfl, rfl⟩
    · refine X.if_ne_t (pc := 27) (off := 5) (tgt := 32) hq7 rfl (by decide +kernel) ?_
      refine X.aload_0 (pc := 32) (by decide +kernel) ?_
      refine X.iload_2 (pc := 33) (by decide +kernel) ?_
      refine X.iconst (pc := 34) (i := (-1)) (v := (-1)) ic_m1 (by decide +kernel) ?_
      obtain ⟨x8, I9, hv10, h⟩ := bnd2_some h
      refine X.callVi (pc := 35) (nc := 0) (ns := 0) (c_Mod_hiresBy hE (dle hd (Nat.le_of_ble_eq_true rfl)) hS hv10) cv_Mod_430 (by decide +kernel) hS ⟨by decide, rfl⟩ (ddd hd (Nat.le_of_ble_eq_true rfl)) rfl (Nat.le_of_ble_eq_true rfl) rfl rfl ?_
      refine X.aload_0 (pc := 38) (by decide +kernel) ?_
      refine X.iload_2 (pc := 39) (by decide +kernel) ?_
      refine X.iload_1 (pc := 40) (by decide +kernel) ?_
      obtain ⟨x11, I12, hv13, h⟩ := bnd2_some h
      refine X.callVi (pc := 41) (nc := 0) (ns := 0) (c_Mod_hiresBy hE (dle hd (Nat.le_of_ble_eq_true rfl)) hS hv13) cv_Mod_430 (by decide +kernel) hS ⟨by decide, rfl⟩ (ddd hd (Nat.le_of_ble_eq_true rfl)) rfl (Nat.le_of_ble_eq_true rfl) rfl rfl ?_
      refine X.isub (pc := 44) (by decide +kernel) ?_
      refine X.nameI (fun x14 hx14 => ?_)
      have h := lt_at hx14 h
      have j0 := Option.some.inj h
      obtain ⟨i0, j1⟩ := Prod.mk.inj j0
      subst i0
      subst j1
      exact X.ireturn (pc := 45) (by decide +kernel) ⟨_, rfl, rfl⟩ ⟨rfl, rfl, rfl, rfl, rfl, rfl⟩
set_option maxRecDepth 100000 in
noncomputable def f_Mod_seed (S : MS) (I : MI) (t : Nat) (p1 : Int32) : Option (Int32 × MI) :=
  lt (wI I t 0 0) fun (I1 : MI) =>
  lt (I1 t 12) fun (x2 : Int32) =>
  lt (wI I1 t 12 p1) fun (I3 : MI) =>
  some (x2, I3)
set_option maxRecDepth 100000 in
set_option maxHeartbeats 4000000 in
theorem c_Mod_seed {E : Env} (hE : OKE E) {tg : Bool} {d : Nat} (hd : 0 ≤ d) {S : MS} {I : MI} {L : ML} {R : MR} {n : Nat} {t : Nat} {p1 : Int32} {v : Int32} {I' : MI} (hS : (S t).1 = 12) (h : f_Mod_seed S I t p1 = some (v, I')) : C E y_Mod_seed b_Mod_seed 3 (some .int) tg d 0 0 [.ref (e_b E + t), .int p1] S I L R n (Kq (some (.int v)) S I' L R n) := by
  refine C.of (o := [some (.ref (e_b E + t)), some (.int p1), none]) (by decide) rfl (Nat.le_of_ble_eq_true rfl) ?_
  rw [f_Mod_seed] at h
  refine X.aload_0 (pc := 0) (by decide +kernel) ?_
  refine X.iconst (pc := 1) (i := 0) (v := 0) ic_0 (by decide +kernel) ?_
  refine X.putI (pc := 2) (k := 0) fw_Mod_3 (by decide +kernel) rfl rfl hS ?_
  refine X.nameMI (fun I1 hI1 => ?_)
  have h := lt_at hI1 h
  refine X.aload_0 (pc := 5) (by decide +kernel) ?_
  refine X.getI (pc := 6) (k := 12) fw_Mod_53 (by decide +kernel) (fun _ => rfl) hS ?_
  refine X.nameI (fun x2 hx2 => ?_)
  have h := lt_at hx2 h
  refine X.istore_2 (pc := 9) (by decide +kernel) (by decide) rfl ?_
  refine X.aload_0 (pc := 10) (by decide +kernel) ?_
  refine X.iload_1 (pc := 11) (by decide +kernel) ?_
  refine X.putI (pc := 12) (k := 12) fw_Mod_53 (by decide +kernel) rfl rfl hS ?_
  refine X.nameMI (fun I3 hI3 => ?_)
  have h := lt_at hI3 h
  refine X.iload_2 (pc := 15) (by decide +kernel) ?_
  have j0 := Option.some.inj h
  obtain ⟨i0, j1⟩ := Prod.mk.inj j0
  subst i0
  subst j1
  exact X.ireturn (pc := 16) (by decide +kernel) ⟨_, rfl, rfl⟩ ⟨rfl, rfl, rfl, rfl, rfl, rfl⟩
set_option maxRecDepth 100000 in
noncomputable def f_Mod_keep (g : Nat) (S : MS) (R : MR) (I : MI) (t : Nat) (p1 : Int32) : Option (Int32 × MI) :=
  lt (wI I t 0 0) fun (I1 : MI) =>
  bnd1 (f_Mod_in (Int32.toInt64 p1) 0 2) fun x2 =>
  ifb (x2 = 0)
    (some (0, I1))
    (bnd1 (R t 51) fun b5 =>
    bnd1 (f_Mod_puts g S R I1 t b5 (43 * p1)) fun I6 =>
    bnd1 (R t 52) fun b8 =>
    lt (I6 t 6) fun (x9 : Int32) =>
    asrt ((S b8).1 = 20) <|
    asrt (vp_in p1 (S b8).2) <|
    lt (wI I6 b8 (Int32.toNatClampNeg p1) x9) fun (I12 : MI) =>
    bnd1 (R t 53) fun b13 =>
    bnd1 (R t 5) fun b14 =>
    lt (I12 t 7) fun (x15 : Int32) =>
    asrt ((S b14).1 = 20) <|
    asrt (vp_in x15 (S b14).2) <|
    lt (I12 b14 (Int32.toNatClampNeg x15)) fun (x18 : Int32) =>
    asrt ((S b13).1 = 20) <|
    asrt (vp_in p1 (S b13).2) <|
    lt (wI I12 b13 (Int32.toNatClampNeg p1) x18) fun (I21 : MI) =>
    some (1, I21))
set_option maxRecDepth 100000 in
set_option maxHeartbeats 4000000 in
theorem c_Mod_keep {E : Env} (hE : OKE E) {tg : Bool} {d : Nat} (hd : 1 ≤ d) {g : Nat} {S : MS} {I : MI} {L : ML} {R : MR} {n : Nat} {t : Nat} {p1 : Int32} {v : Int32} {I' : MI} (hS : (S t).1 = 12) (h : f_Mod_keep g S R I t p1 = some (v, I')) : C E y_Mod_keep b_Mod_keep 2 (some .boolean) tg d 0 0 [.ref (e_b E + t), .int p1] S I L R n (Kq (some (.int v)) S I' L R n) := by
  refine C.of (o := [some (.ref (e_b E + t)), some (.int p1)]) (by decide) rfl (Nat.le_of_ble_eq_true rfl) ?_
  rw [f_Mod_keep] at h
  refine X.aload_0 (pc := 0) (by decide +kernel) ?_
  refine X.iconst (pc := 1) (i := 0) (v := 0) ic_0 (by decide +kernel) ?_
  refine X.putI (pc := 2) (k := 0) fw_Mod_3 (by decide +kernel) rfl rfl hS ?_
  refine X.nameMI (fun I1 hI1 => ?_)
  have h := lt_at hI1 h
  refine X.iload_1 (pc := 5) (by decide +kernel) ?_
  refine X.i2l (pc := 6) (by decide +kernel) ?_
  refine X.lconst (pc := 7) (i := 0) (v := 0) rfl (by decide +kernel) ?_
  refine X.ldc2 (pc := 8) (x := 259) (v := 2) ld_Mod_259 (by decide +kernel) ?_
  obtain ⟨x2, hv3, h⟩ := bnd1_some h
  refine X.callSi (pc := 11) (nc := 0) (ns := 0) (c_Mod_in hE (dle hd (Nat.le_of_ble_eq_true rfl)) hv3) cv_Mod_151 (by decide +kernel) (ddd hd (Nat.le_of_ble_eq_true rfl)) rfl (Nat.le_of_ble_eq_true rfl) rfl rfl ?_
  rcases ifb_some h with ⟨hq4, h⟩ | ⟨hq4, h⟩
  · refine X.if_ne_f (pc := 14) (off := 5) (tgt := 19) hq4 rfl (by decide +kernel) ?_
    refine X.iconst (pc := 17) (i := 0) (v := 0) ic_0 (by decide +kernel) ?_
    have j0 := Option.some.inj h
    obtain ⟨i0, j1⟩ := Prod.mk.inj j0
    subst i0
    subst j1
    exact X.ireturn (pc := 18) (by decide +kernel) ⟨_, rfl, nz01 (Or.inl rfl)⟩ ⟨rfl, rfl, rfl, rfl, rfl, rfl⟩
  · refine X.if_ne_t (pc := 14) (off := 5) (tgt := 19) hq4 rfl (by decide +kernel) ?_
    refine X.aload_0 (pc := 19) (by decide +kernel) ?_
    refine X.aload_0 (pc := 20) (by decide +kernel) ?_
    obtain ⟨b5, hb5, h⟩ := bnd1_some h
    refine X.getR (pc := 21) (k := 51) fw_Mod_135 (by decide +kernel) (fun _ => rfl) hS hb5 ?_
    refine X.bipush (pc := 24) (i := 43) (v := 43) bp_43 (by decide +kernel) ?_
    refine X.iload_1 (pc := 26) (by decide +kernel) ?_
    refine X.imul (pc := 27) (by decide +kernel) ?_
    obtain ⟨I6, hv7, h⟩ := bnd1_some h
    refine X.callVv (pc := 28) (nc := 0) (ns := 0) (c_Mod_puts hE (dle hd (Nat.le_of_ble_eq_true rfl)) hS hv7) cv_Mod_245 (by decide +kernel) hS ⟨by decide, rfl⟩ (ddd hd (Nat.le_of_ble_eq_true rfl)) rfl (Nat.le_of_ble_eq_true rfl) rfl rfl ?_
    refine X.aload_0 (pc := 31) (by decide +kernel) ?_
    obtain ⟨b8, hb8, h⟩ := bnd1_some h
    refine X.getR (pc := 32) (k := 52) fw_Mod_138 (by decide +kernel) (fun _ => rfl) hS hb8 ?_
    refine X.iload_1 (pc := 35) (by decide +kernel) ?_
    refine X.aload_0 (pc := 36) (by decide +kernel) ?_
    refine X.getI (pc := 37) (k := 6) fw_Mod_195 (by decide +kernel) (fun _ => rfl) hS ?_
    refine X.nameI (fun x9 hx9 => ?_)
    have h := lt_at hx9 h
    obtain ⟨hc10, h⟩ := asrt_some h
    obtain ⟨hi11, h⟩ := asrt_some h
    refine X.iastore (pc := 40) (by decide +kernel) hc10 hi11 ?_
    refine X.nameMI (fun I12 hI12 => ?_)
    have h := lt_at hI12 h
    refine X.aload_0 (pc := 41) (by decide +kernel) ?_
    obtain ⟨b13, hb13, h⟩ := bnd1_some h
    refine X.getR (pc := 42) (k := 53) fw_Mod_141 (by decide +kernel) (fun _ => rfl) hS hb13 ?_
    refine X.iload_1 (pc := 45) (by decide +kernel) ?_
    refine X.aload_0 (pc := 46) (by decide +kernel) ?_
    obtain ⟨b14, hb14, h⟩ := bnd1_some h
    refine X.getR (pc := 47) (k := 5) fw_Mod_40 (by decide +kernel) (fun _ => rfl) hS hb14 ?_
    refine X.aload_0 (pc := 50) (by decide +kernel) ?_
    refine X.getI (pc := 51) (k := 7) fw_Mod_204 (by decide +kernel) (fun _ => rfl) hS ?_
    refine X.nameI (fun x15 hx15 => ?_)
    have h := lt_at hx15 h
    obtain ⟨hc17, h⟩ := asrt_some h
    obtain ⟨hi16, h⟩ := asrt_some h
    refine X.iaload (pc := 54) (by decide +kernel) hc17 hi16 ?_
    refine X.nameI (fun x18 hx18 => ?_)
    have h := lt_at hx18 h
    obtain ⟨hc19, h⟩ := asrt_some h
    obtain ⟨hi20, h⟩ := asrt_some h
    refine X.iastore (pc := 55) (by decide +kernel) hc19 hi20 ?_
    refine X.nameMI (fun I21 hI21 => ?_)
    have h := lt_at hI21 h
    refine X.iconst (pc := 56) (i := 1) (v := 1) ic_1 (by decide +kernel) ?_
    have j0 := Option.some.inj h
    obtain ⟨i0, j1⟩ := Prod.mk.inj j0
    subst i0
    subst j1
    exact X.ireturn (pc := 57) (by decide +kernel) ⟨_, rfl, nz01 (Or.inr rfl)⟩ ⟨rfl, rfl, rfl, rfl, rfl, rfl⟩
set_option maxRecDepth 100000 in
noncomputable def f_Mod_again (g : Nat) (S : MS) (R : MR) (I : MI) (t : Nat) (p1 : Int32) : Option (Int32 × MI) :=
  lt (wI I t 0 0) fun (I1 : MI) =>
  bnd1 (f_Mod_in (Int32.toInt64 p1) 0 2) fun x2 =>
  ifb (x2 = 0)
    (some (0, I1))
    (bnd1 (R t 52) fun b5 =>
    asrt ((S b5).1 = 20) <|
    asrt (vp_in p1 (S b5).2) <|
    ifb ((I1 b5 (Int32.toNatClampNeg p1)) = (I1 t 6))
      (bnd1 (R t 5) fun b9 =>
      bnd1 (R t 51) fun b10 =>
      lt (43 * p1) fun (x11 : Int32) =>
      asrt ((S b10).1 = 20) <|
      asrt (vp_in x11 (S b10).2) <|
      lt (I1 b10 (Int32.toNatClampNeg x11)) fun (x14 : Int32) =>
      asrt ((S b9).1 = 20) <|
      asrt (vp_in x14 (S b9).2) <|
      bnd1 (R t 53) fun b17 =>
      asrt ((S b17).1 = 20) <|
      asrt (vp_in p1 (S b17).2) <|
      ifb ((I1 b9 (Int32.toNatClampNeg x14)) = (I1 b17 (Int32.toNatClampNeg p1)))
        (bnd1 (f_Mod_takesBack g S R I1 t b10 (43 * p1)) fun I21 =>
        lt (wI I21 t 23 0) fun (I23 : MI) =>
        some (1, I23))
        (some (0, I1)))
      (some (0, I1)))
set_option maxRecDepth 100000 in
set_option maxHeartbeats 4000000 in
theorem c_Mod_again {E : Env} (hE : OKE E) {tg : Bool} {d : Nat} (hd : 1 ≤ d) {g : Nat} {S : MS} {I : MI} {L : ML} {R : MR} {n : Nat} {t : Nat} {p1 : Int32} {v : Int32} {I' : MI} (hS : (S t).1 = 12) (h : f_Mod_again g S R I t p1 = some (v, I')) : C E y_Mod_again b_Mod_again 2 (some .boolean) tg d 0 0 [.ref (e_b E + t), .int p1] S I L R n (Kq (some (.int v)) S I' L R n) := by
  refine C.of (o := [some (.ref (e_b E + t)), some (.int p1)]) (by decide) rfl (Nat.le_of_ble_eq_true rfl) ?_
  rw [f_Mod_again] at h
  refine X.aload_0 (pc := 0) (by decide +kernel) ?_
  refine X.iconst (pc := 1) (i := 0) (v := 0) ic_0 (by decide +kernel) ?_
  refine X.putI (pc := 2) (k := 0) fw_Mod_3 (by decide +kernel) rfl rfl hS ?_
  refine X.nameMI (fun I1 hI1 => ?_)
  have h := lt_at hI1 h
  refine X.iload_1 (pc := 5) (by decide +kernel) ?_
  refine X.i2l (pc := 6) (by decide +kernel) ?_
  refine X.lconst (pc := 7) (i := 0) (v := 0) rfl (by decide +kernel) ?_
  refine X.ldc2 (pc := 8) (x := 259) (v := 2) ld_Mod_259 (by decide +kernel) ?_
  obtain ⟨x2, hv3, h⟩ := bnd1_some h
  refine X.callSi (pc := 11) (nc := 0) (ns := 0) (c_Mod_in hE (dle hd (Nat.le_of_ble_eq_true rfl)) hv3) cv_Mod_151 (by decide +kernel) (ddd hd (Nat.le_of_ble_eq_true rfl)) rfl (Nat.le_of_ble_eq_true rfl) rfl rfl ?_
  rcases ifb_some h with ⟨hq4, h⟩ | ⟨hq4, h⟩
  · refine X.if_eq_t (pc := 14) (off := 39) (tgt := 53) hq4 rfl (by decide +kernel) ?_
    refine X.iconst (pc := 53) (i := 0) (v := 0) ic_0 (by decide +kernel) ?_
    have j0 := Option.some.inj h
    obtain ⟨i0, j1⟩ := Prod.mk.inj j0
    subst i0
    subst j1
    exact X.ireturn (pc := 54) (by decide +kernel) ⟨_, rfl, nz01 (Or.inl rfl)⟩ ⟨rfl, rfl, rfl, rfl, rfl, rfl⟩
  · refine X.if_eq_f (pc := 14) (off := 39) (tgt := 53) hq4 rfl (by decide +kernel) ?_
    refine X.aload_0 (pc := 17) (by decide +kernel) ?_
    obtain ⟨b5, hb5, h⟩ := bnd1_some h
    refine X.getR (pc := 18) (k := 52) fw_Mod_138 (by decide +kernel) (fun _ => rfl) hS hb5 ?_
    refine X.iload_1 (pc := 21) (by decide +kernel) ?_
    obtain ⟨hc7, h⟩ := asrt_some h
    obtain ⟨hi6, h⟩ := asrt_some h
    refine X.iaload (pc := 22) (by decide +kernel) hc7 hi6 ?_
    refine X.aload_0 (pc := 23) (by decide +kernel) ?_
    refine X.getI (pc := 24) (k := 6) fw_Mod_195 (by decide +kernel) (fun _ => rfl) hS ?_
    rcases ifb_some h with ⟨hq8, h⟩ | ⟨hq8, h⟩
    · refine X.icmp_ne_f (pc := 27) (off := 26) (tgt := 53) hq8 rfl (by decide +kernel) ?_
      refine X.aload_0 (pc := 30) (by decide +kernel) ?_
      obtain ⟨b9, hb9, h⟩ := bnd1_some h
      refine X.getR (pc := 31) (k := 5) fw_Mod_40 (by decide +kernel) (fun _ => rfl) hS hb9 ?_
      refine X.aload_0 (pc := 34) (by decide +kernel) ?_
      obtain ⟨b10, hb10, h⟩ := bnd1_some h
      refine X.getR (pc := 35) (k := 51) fw_Mod_135 (by decide +kernel) (fun _ => rfl) hS hb10 ?_
      refine X.bipush (pc := 38) (i := 43) (v := 43) bp_43 (by decide +kernel) ?_
      refine X.iload_1 (pc := 40) (by decide +kernel) ?_
      refine X.imul (pc := 41) (by decide +kernel) ?_
      refine X.nameI (fun x11 hx11 => ?_)
      have h := lt_at hx11 h
      obtain ⟨hc13, h⟩ := asrt_some h
      obtain ⟨hi12, h⟩ := asrt_some h
      refine X.iaload (pc := 42) (by decide +kernel) hc13 hi12 ?_
      refine X.nameI (fun x14 hx14 => ?_)
      have h := lt_at hx14 h
      obtain ⟨hc16, h⟩ := asrt_some h
      obtain ⟨hi15, h⟩ := asrt_some h
      refine X.iaload (pc := 43) (by decide +kernel) hc16 hi15 ?_
      refine X.aload_0 (pc := 44) (by decide +kernel) ?_
      obtain ⟨b17, hb17, h⟩ := bnd1_some h
      refine X.getR (pc := 45) (k := 53) fw_Mod_141 (by decide +kernel) (fun _ => rfl) hS hb17 ?_
      refine X.iload_1 (pc := 48) (by decide +kernel) ?_
      obtain ⟨hc19, h⟩ := asrt_some h
      obtain ⟨hi18, h⟩ := asrt_some h
      refine X.iaload (pc := 49) (by decide +kernel) hc19 hi18 ?_
      rcases ifb_some h with ⟨hq20, h⟩ | ⟨hq20, h⟩
      · refine X.icmp_eq_t (pc := 50) (off := 5) (tgt := 55) hq20 rfl (by decide +kernel) ?_
        refine X.aload_0 (pc := 55) (by decide +kernel) ?_
        refine X.aload_0 (pc := 56) (by decide +kernel) ?_
        refine X.getR (pc := 57) (k := 51) fw_Mod_135 (by decide +kernel) (fun _ => rfl) hS hb10 ?_
        refine X.bipush (pc := 60) (i := 43) (v := 43) bp_43 (by decide +kernel) ?_
        refine X.iload_1 (pc := 62) (by decide +kernel) ?_
        refine X.imul (pc := 63) (by decide +kernel) ?_
        obtain ⟨I21, hv22, h⟩ := bnd1_some h
        refine X.callVv (pc := 64) (nc := 0) (ns := 0) (c_Mod_takesBack hE (dle hd (Nat.le_of_ble_eq_true rfl)) hS hv22) cv_Mod_276 (by decide +kernel) hS ⟨by decide, rfl⟩ (ddd hd (Nat.le_of_ble_eq_true rfl)) rfl (Nat.le_of_ble_eq_true rfl) rfl rfl ?_
        refine X.aload_0 (pc := 67) (by decide +kernel) ?_
        refine X.iconst (pc := 68) (i := 0) (v := 0) ic_0 (by decide +kernel) ?_
        refine X.putI (pc := 69) (k := 23) fw_Mod_216 (by decide +kernel) rfl rfl hS ?_
        refine X.nameMI (fun I23 hI23 => ?_)
        have h := lt_at hI23 h
        refine X.iconst (pc := 72) (i := 1) (v := 1) ic_1 (by decide +kernel) ?_
        have j0 := Option.some.inj h
        obtain ⟨i0, j1⟩ := Prod.mk.inj j0
        subst i0
        subst j1
        exact X.ireturn (pc := 73) (by decide +kernel) ⟨_, rfl, nz01 (Or.inr rfl)⟩ ⟨rfl, rfl, rfl, rfl, rfl, rfl⟩
      · refine X.icmp_eq_f (pc := 50) (off := 5) (tgt := 55) hq20 rfl (by decide +kernel) ?_
        refine X.iconst (pc := 53) (i := 0) (v := 0) ic_0 (by decide +kernel) ?_
        have j0 := Option.some.inj h
        obtain ⟨i0, j1⟩ := Prod.mk.inj j0
        subst i0
        subst j1
        exact X.ireturn (pc := 54) (by decide +kernel) ⟨_, rfl, nz01 (Or.inl rfl)⟩ ⟨rfl, rfl, rfl, rfl, rfl, rfl⟩
    · refine X.icmp_ne_t (pc := 27) (off := 26) (tgt := 53) hq8 rfl (by decide +kernel) ?_
      refine X.iconst (pc := 53) (i := 0) (v := 0) ic_0 (by decide +kernel) ?_
      have j0 := Option.some.inj h
      obtain ⟨i0, j1⟩ := Prod.mk.inj j0
      subst i0
      subst j1
      exact X.ireturn (pc := 54) (by decide +kernel) ⟨_, rfl, nz01 (Or.inl rfl)⟩ ⟨rfl, rfl, rfl, rfl, rfl, rfl⟩
set_option maxRecDepth 100000 in
noncomputable def f_Mod_count (S : MS) (R : MR) (I : MI) (t : Nat) (p1 : Int32) : Option (Int32 × MI) :=
  lt (wI I t 0 0) fun (I1 : MI) =>
  ifb (p1 = 0)
    (bnd1 (f_Mod_cells S I1 t) fun x3 =>
    some (x3, I1))
    (ifb (p1 = 1)
      (lt (I1 t 3) fun (x5 : Int32) =>
      some (x5, I1))
      (ifb (p1 = 2)
        (lt (I1 t 7) fun (x6 : Int32) =>
        some (x6, I1))
        (ifb (p1 = 3)
          (lt (I1 t 8) fun (x7 : Int32) =>
          some (x7, I1))
          (ifb (p1 = 4)
            (bnd1 (R t 5) fun b8 =>
            lt (I1 t 7) fun (x9 : Int32) =>
            asrt ((S b8).1 = 20) <|
            asrt (vp_in x9 (S b8).2) <|
            bnd1 (f_Mod_endOf (I1 b8 (Int32.toNatClampNeg x9))) fun x12 =>
            some (x12, I1))
            (ifb (p1 = 5)
              (lt (I1 t 10) fun (x14 : Int32) =>
              some (x14, I1))
              (ifb (p1 = 6)
                (lt (I1 t 13) fun (x15 : Int32) =>
                some (x15, I1))
                (ifb (p1 = 7)
                  (lt (I1 t 14) fun (x16 : Int32) =>
                  some (x16, I1))
                  (ifb (p1 = 8)
                    (lt (I1 t 23) fun (x17 : Int32) =>
                    some (x17, I1))
                    (ifb (p1 = 9)
                      (lt (I1 t 42) fun (x18 : Int32) =>
                      some (x18, I1))
                      (ifb (p1 = 10)
                        (lt (I1 t 1) fun (x19 : Int32) =>
                        some (x19, I1))
                        (ifb (p1 = 11)
                          (lt (I1 t 17) fun (x20 : Int32) =>
                          some (x20, I1))
                          (some ((-1), I1)))))))))))))
set_option maxRecDepth 100000 in
set_option maxHeartbeats 4000000 in
theorem c_Mod_count {E : Env} (hE : OKE E) {tg : Bool} {d : Nat} (hd : 1 ≤ d) {S : MS} {I : MI} {L : ML} {R : MR} {n : Nat} {t : Nat} {p1 : Int32} {v : Int32} {I' : MI} (hS : (S t).1 = 12) (h : f_Mod_count S R I t p1 = some (v, I')) : C E y_Mod_count b_Mod_count 2 (some .int) tg d 0 0 [.ref (e_b E + t), .int p1] S I L R n (Kq (some (.int v)) S I' L R n) := by
  refine C.of (o := [some (.ref (e_b E + t)), some (.int p1)]) (by decide) rfl (Nat.le_of_ble_eq_true rfl) ?_
  rw [f_Mod_count] at h
  refine X.aload_0 (pc := 0) (by decide +kernel) ?_
  refine X.iconst (pc := 1) (i := 0) (v := 0) ic_0 (by decide +kernel) ?_
  refine X.putI (pc := 2) (k := 0) fw_Mod_3 (by decide +kernel) rfl rfl hS ?_
  refine X.nameMI (fun I1 hI1 => ?_)
  have h := lt_at hI1 h
  refine X.iload_1 (pc := 5) (by decide +kernel) ?_
  rcases ifb_some h with ⟨hq2_0, h⟩ | ⟨hq2_0, h⟩
  · refine X.tabIn (pc := 6) (dflt := 130) (lo := 0) (hi := 11) (offs := #[62, 67, 72, 77, 82, 95, 100, 105, 110, 115, 120, 125]) (len := 62) (off := 62) (tgt := 68) (by decide +kernel) (by rw [hq2_0]; decide +kernel) (by rw [hq2_0]; decide +kernel) (by rw [hq2_0]; decide +kernel) rfl ?_
    refine X.aload_0 (pc := 68) (by decide +kernel) ?_
    obtain ⟨x3, hv4, h⟩ := bnd1_some h
    refine X.callVi (pc := 69) (nc := 0) (ns := 0) (c_Mod_cells hE (dle hd (Nat.le_of_ble_eq_true rfl)) hS hv4) cv_Mod_148 (by decide +kernel) hS ⟨by decide, rfl⟩ (ddd hd (Nat.le_of_ble_eq_true rfl)) rfl (Nat.le_of_ble_eq_true rfl) rfl rfl ?_
    have j0 := Option.some.inj h
    obtain ⟨i0, j1⟩ := Prod.mk.inj j0
    subst i0
    subst j1
    exact X.ireturn (pc := 72) (by decide +kernel) ⟨_, rfl, rfl⟩ ⟨rfl, rfl, rfl, rfl, rfl, rfl⟩
  · rcases ifb_some h with ⟨hq2_1, h⟩ | ⟨hq2_1, h⟩
    · refine X.tabIn (pc := 6) (dflt := 130) (lo := 0) (hi := 11) (offs := #[62, 67, 72, 77, 82, 95, 100, 105, 110, 115, 120, 125]) (len := 62) (off := 67) (tgt := 73) (by decide +kernel) (by rw [hq2_1]; decide +kernel) (by rw [hq2_1]; decide +kernel) (by rw [hq2_1]; decide +kernel) rfl ?_
      refine X.aload_0 (pc := 73) (by decide +kernel) ?_
      refine X.getI (pc := 74) (k := 3) fw_Mod_34 (by decide +kernel) (fun _ => rfl) hS ?_
      refine X.nameI (fun x5 hx5 => ?_)
      have h := lt_at hx5 h
      have j0 := Option.some.inj h
      obtain ⟨i0, j1⟩ := Prod.mk.inj j0
      subst i0
      subst j1
      exact X.ireturn (pc := 77) (by decide +kernel) ⟨_, rfl, rfl⟩ ⟨rfl, rfl, rfl, rfl, rfl, rfl⟩
    · rcases ifb_some h with ⟨hq2_2, h⟩ | ⟨hq2_2, h⟩
      · refine X.tabIn (pc := 6) (dflt := 130) (lo := 0) (hi := 11) (offs := #[62, 67, 72, 77, 82, 95, 100, 105, 110, 115, 120, 125]) (len := 62) (off := 72) (tgt := 78) (by decide +kernel) (by rw [hq2_2]; decide +kernel) (by rw [hq2_2]; decide +kernel) (by rw [hq2_2]; decide +kernel) rfl ?_
        refine X.aload_0 (pc := 78) (by decide +kernel) ?_
        refine X.getI (pc := 79) (k := 7) fw_Mod_204 (by decide +kernel) (fun _ => rfl) hS ?_
        refine X.nameI (fun x6 hx6 => ?_)
        have h := lt_at hx6 h
        have j0 := Option.some.inj h
        obtain ⟨i0, j1⟩ := Prod.mk.inj j0
        subst i0
        subst j1
        exact X.ireturn (pc := 82) (by decide +kernel) ⟨_, rfl, rfl⟩ ⟨rfl, rfl, rfl, rfl, rfl, rfl⟩
      · rcases ifb_some h with ⟨hq2_3, h⟩ | ⟨hq2_3, h⟩
        · refine X.tabIn (pc := 6) (dflt := 130) (lo := 0) (hi := 11) (offs := #[62, 67, 72, 77, 82, 95, 100, 105, 110, 115, 120, 125]) (len := 62) (off := 77) (tgt := 83) (by decide +kernel) (by rw [hq2_3]; decide +kernel) (by rw [hq2_3]; decide +kernel) (by rw [hq2_3]; decide +kernel) rfl ?_
          refine X.aload_0 (pc := 83) (by decide +kernel) ?_
          refine X.getI (pc := 84) (k := 8) fw_Mod_207 (by decide +kernel) (fun _ => rfl) hS ?_
          refine X.nameI (fun x7 hx7 => ?_)
          have h := lt_at hx7 h
          have j0 := Option.some.inj h
          obtain ⟨i0, j1⟩ := Prod.mk.inj j0
          subst i0
          subst j1
          exact X.ireturn (pc := 87) (by decide +kernel) ⟨_, rfl, rfl⟩ ⟨rfl, rfl, rfl, rfl, rfl, rfl⟩
        · rcases ifb_some h with ⟨hq2_4, h⟩ | ⟨hq2_4, h⟩
          · refine X.tabIn (pc := 6) (dflt := 130) (lo := 0) (hi := 11) (offs := #[62, 67, 72, 77, 82, 95, 100, 105, 110, 115, 120, 125]) (len := 62) (off := 82) (tgt := 88) (by decide +kernel) (by rw [hq2_4]; decide +kernel) (by rw [hq2_4]; decide +kernel) (by rw [hq2_4]; decide +kernel) rfl ?_
            refine X.aload_0 (pc := 88) (by decide +kernel) ?_
            obtain ⟨b8, hb8, h⟩ := bnd1_some h
            refine X.getR (pc := 89) (k := 5) fw_Mod_40 (by decide +kernel) (fun _ => rfl) hS hb8 ?_
            refine X.aload_0 (pc := 92) (by decide +kernel) ?_
            refine X.getI (pc := 93) (k := 7) fw_Mod_204 (by decide +kernel) (fun _ => rfl) hS ?_
            refine X.nameI (fun x9 hx9 => ?_)
            have h := lt_at hx9 h
            obtain ⟨hc11, h⟩ := asrt_some h
            obtain ⟨hi10, h⟩ := asrt_some h
            refine X.iaload (pc := 96) (by decide +kernel) hc11 hi10 ?_
            obtain ⟨x12, hv13, h⟩ := bnd1_some h
            refine X.callSi (pc := 97) (nc := 0) (ns := 0) (c_Mod_endOf hE (dle hd (Nat.le_of_ble_eq_true rfl)) hv13) cv_Mod_281 (by decide +kernel) (ddd hd (Nat.le_of_ble_eq_true rfl)) rfl (Nat.le_of_ble_eq_true rfl) rfl rfl ?_
            have j0 := Option.some.inj h
            obtain ⟨i0, j1⟩ := Prod.mk.inj j0
            subst i0
            subst j1
            exact X.ireturn (pc := 100) (by decide +kernel) ⟨_, rfl, rfl⟩ ⟨rfl, rfl, rfl, rfl, rfl, rfl⟩
          · rcases ifb_some h with ⟨hq2_5, h⟩ | ⟨hq2_5, h⟩
            · refine X.tabIn (pc := 6) (dflt := 130) (lo := 0) (hi := 11) (offs := #[62, 67, 72, 77, 82, 95, 100, 105, 110, 115, 120, 125]) (len := 62) (off := 95) (tgt := 101) (by decide +kernel) (by rw [hq2_5]; decide +kernel) (by rw [hq2_5]; decide +kernel) (by rw [hq2_5]; decide +kernel) rfl ?_
              refine X.aload_0 (pc := 101) (by decide +kernel) ?_
              refine X.getI (pc := 102) (k := 10) fw_Mod_47 (by decide +kernel) (fun _ => rfl) hS ?_
              refine X.nameI (fun x14 hx14 => ?_)
              have h := lt_at hx14 h
              have j0 := Option.some.inj h
              obtain ⟨i0, j1⟩ := Prod.mk.inj j0
              subst i0
              subst j1
              exact X.ireturn (pc := 105) (by decide +kernel) ⟨_, rfl, rfl⟩ ⟨rfl, rfl, rfl, rfl, rfl, rfl⟩
            · rcases ifb_some h with ⟨hq2_6, h⟩ | ⟨hq2_6, h⟩
              · refine X.tabIn (pc := 6) (dflt := 130) (lo := 0) (hi := 11) (offs := #[62, 67, 72, 77, 82, 95, 100, 105, 110, 115, 120, 125]) (len := 62) (off := 100) (tgt := 106) (by decide +kernel) (by rw [hq2_6]; decide +kernel) (by rw [hq2_6]; decide +kernel) (by rw [hq2_6]; decide +kernel) rfl ?_
                refine X.aload_0 (pc := 106) (by decide +kernel) ?_
                refine X.getI (pc := 107) (k := 13) fw_Mod_210 (by decide +kernel) (fun _ => rfl) hS ?_
                refine X.nameI (fun x15 hx15 => ?_)
                have h := lt_at hx15 h
                have j0 := Option.some.inj h
                obtain ⟨i0, j1⟩ := Prod.mk.inj j0
                subst i0
                subst j1
                exact X.ireturn (pc := 110) (by decide +kernel) ⟨_, rfl, rfl⟩ ⟨rfl, rfl, rfl, rfl, rfl, rfl⟩
              · rcases ifb_some h with ⟨hq2_7, h⟩ | ⟨hq2_7, h⟩
                · refine X.tabIn (pc := 6) (dflt := 130) (lo := 0) (hi := 11) (offs := #[62, 67, 72, 77, 82, 95, 100, 105, 110, 115, 120, 125]) (len := 62) (off := 105) (tgt := 111) (by decide +kernel) (by rw [hq2_7]; decide +kernel) (by rw [hq2_7]; decide +kernel) (by rw [hq2_7]; decide +kernel) rfl ?_
                  refine X.aload_0 (pc := 111) (by decide +kernel) ?_
                  refine X.getI (pc := 112) (k := 14) fw_Mod_213 (by decide +kernel) (fun _ => rfl) hS ?_
                  refine X.nameI (fun x16 hx16 => ?_)
                  have h := lt_at hx16 h
                  have j0 := Option.some.inj h
                  obtain ⟨i0, j1⟩ := Prod.mk.inj j0
                  subst i0
                  subst j1
                  exact X.ireturn (pc := 115) (by decide +kernel) ⟨_, rfl, rfl⟩ ⟨rfl, rfl, rfl, rfl, rfl, rfl⟩
                · rcases ifb_some h with ⟨hq2_8, h⟩ | ⟨hq2_8, h⟩
                  · refine X.tabIn (pc := 6) (dflt := 130) (lo := 0) (hi := 11) (offs := #[62, 67, 72, 77, 82, 95, 100, 105, 110, 115, 120, 125]) (len := 62) (off := 110) (tgt := 116) (by decide +kernel) (by rw [hq2_8]; decide +kernel) (by rw [hq2_8]; decide +kernel) (by rw [hq2_8]; decide +kernel) rfl ?_
                    refine X.aload_0 (pc := 116) (by decide +kernel) ?_
                    refine X.getI (pc := 117) (k := 23) fw_Mod_216 (by decide +kernel) (fun _ => rfl) hS ?_
                    refine X.nameI (fun x17 hx17 => ?_)
                    have h := lt_at hx17 h
                    have j0 := Option.some.inj h
                    obtain ⟨i0, j1⟩ := Prod.mk.inj j0
                    subst i0
                    subst j1
                    exact X.ireturn (pc := 120) (by decide +kernel) ⟨_, rfl, rfl⟩ ⟨rfl, rfl, rfl, rfl, rfl, rfl⟩
                  · rcases ifb_some h with ⟨hq2_9, h⟩ | ⟨hq2_9, h⟩
                    · refine X.tabIn (pc := 6) (dflt := 130) (lo := 0) (hi := 11) (offs := #[62, 67, 72, 77, 82, 95, 100, 105, 110, 115, 120, 125]) (len := 62) (off := 115) (tgt := 121) (by decide +kernel) (by rw [hq2_9]; decide +kernel) (by rw [hq2_9]; decide +kernel) (by rw [hq2_9]; decide +kernel) rfl ?_
                      refine X.aload_0 (pc := 121) (by decide +kernel) ?_
                      refine X.getI (pc := 122) (k := 42) fw_Mod_198 (by decide +kernel) (fun _ => rfl) hS ?_
                      refine X.nameI (fun x18 hx18 => ?_)
                      have h := lt_at hx18 h
                      have j0 := Option.some.inj h
                      obtain ⟨i0, j1⟩ := Prod.mk.inj j0
                      subst i0
                      subst j1
                      exact X.ireturn (pc := 125) (by decide +kernel) ⟨_, rfl, rfl⟩ ⟨rfl, rfl, rfl, rfl, rfl, rfl⟩
                    · rcases ifb_some h with ⟨hq2_10, h⟩ | ⟨hq2_10, h⟩
                      · refine X.tabIn (pc := 6) (dflt := 130) (lo := 0) (hi := 11) (offs := #[62, 67, 72, 77, 82, 95, 100, 105, 110, 115, 120, 125]) (len := 62) (off := 120) (tgt := 126) (by decide +kernel) (by rw [hq2_10]; decide +kernel) (by rw [hq2_10]; decide +kernel) (by rw [hq2_10]; decide +kernel) rfl ?_
                        refine X.aload_0 (pc := 126) (by decide +kernel) ?_
                        refine X.getI (pc := 127) (k := 1) fw_Mod_21 (by decide +kernel) (fun _ => rfl) hS ?_
                        refine X.nameI (fun x19 hx19 => ?_)
                        have h := lt_at hx19 h
                        have j0 := Option.some.inj h
                        obtain ⟨i0, j1⟩ := Prod.mk.inj j0
                        subst i0
                        subst j1
                        exact X.ireturn (pc := 130) (by decide +kernel) ⟨_, rfl, rfl⟩ ⟨rfl, rfl, rfl, rfl, rfl, rfl⟩
                      · rcases ifb_some h with ⟨hq2_11, h⟩ | ⟨hq2_11, h⟩
                        · refine X.tabIn (pc := 6) (dflt := 130) (lo := 0) (hi := 11) (offs := #[62, 67, 72, 77, 82, 95, 100, 105, 110, 115, 120, 125]) (len := 62) (off := 125) (tgt := 131) (by decide +kernel) (by rw [hq2_11]; decide +kernel) (by rw [hq2_11]; decide +kernel) (by rw [hq2_11]; decide +kernel) rfl ?_
                          refine X.aload_0 (pc := 131) (by decide +kernel) ?_
                          refine X.getI (pc := 132) (k := 17) fw_Mod_159 (by decide +kernel) (fun _ => rfl) hS ?_
                          refine X.nameI (fun x20 hx20 => ?_)
                          have h := lt_at hx20 h
                          have j0 := Option.some.inj h
                          obtain ⟨i0, j1⟩ := Prod.mk.inj j0
                          subst i0
                          subst j1
                          exact X.ireturn (pc := 135) (by decide +kernel) ⟨_, rfl, rfl⟩ ⟨rfl, rfl, rfl, rfl, rfl, rfl⟩
                        · refine X.tabOut (pc := 6) (dflt := 130) (lo := 0) (hi := 11) (offs := #[62, 67, 72, 77, 82, 95, 100, 105, 110, 115, 120, 125]) (len := 62) (tgt := 136) (by decide +kernel) ?_ rfl ?_
                          · refine tabn (N := 12) (fun k hk => ?_)
                            match k, hk with
                            | 0, _ => exact hq2_0
                            | 1, _ => exact hq2_1
                            | 2, _ => exact hq2_2
                            | 3, _ => exact hq2_3
                            | 4, _ => exact hq2_4
                            | 5, _ => exact hq2_5
                            | 6, _ => exact hq2_6
                            | 7, _ => exact hq2_7
                            | 8, _ => exact hq2_8
                            | 9, _ => exact hq2_9
                            | 10, _ => exact hq2_10
                            | 11, _ => exact hq2_11
                            | k + 12, hk => exact absurd hk (by omega)
                          refine X.iconst (pc := 136) (i := (-1)) (v := (-1)) ic_m1 (by decide +kernel) ?_
                          have j0 := Option.some.inj h
                          obtain ⟨i0, j1⟩ := Prod.mk.inj j0
                          subst i0
                          subst j1
                          exact X.ireturn (pc := 137) (by decide +kernel) ⟨_, rfl, rfl⟩ ⟨rfl, rfl, rfl, rfl, rfl, rfl⟩
set_option maxRecDepth 100000 in
noncomputable def f_Mod_refuse (S : MS) (I : MI) (t : Nat) : Option (Int64 × MI) :=
  lt (wI I t 0 1) fun (I1 : MI) =>
  some (0, I1)
set_option maxRecDepth 100000 in
set_option maxHeartbeats 4000000 in
theorem c_Mod_refuse {E : Env} (hE : OKE E) {tg : Bool} {d : Nat} (hd : 0 ≤ d) {S : MS} {I : MI} {L : ML} {R : MR} {n : Nat} {t : Nat} {v : Int64} {I' : MI} (hS : (S t).1 = 12) (h : f_Mod_refuse S I t = some (v, I')) : C E y_Mod_refuse b_Mod_refuse 1 (some .long) tg d 0 0 [.ref (e_b E + t)] S I L R n (Kq (some (.long v)) S I' L R n) := by
  refine C.of (o := [some (.ref (e_b E + t))]) (by decide) rfl (Nat.le_of_ble_eq_true rfl) ?_
  rw [f_Mod_refuse] at h
  refine X.aload_0 (pc := 0) (by decide +kernel) ?_
  refine X.iconst (pc := 1) (i := 1) (v := 1) ic_1 (by decide +kernel) ?_
  refine X.putI (pc := 2) (k := 0) fw_Mod_3 (by decide +kernel) rfl rfl hS ?_
  refine X.nameMI (fun I1 hI1 => ?_)
  have h := lt_at hI1 h
  refine X.lconst (pc := 5) (i := 0) (v := 0) rfl (by decide +kernel) ?_
  have j0 := Option.some.inj h
  obtain ⟨i0, j1⟩ := Prod.mk.inj j0
  subst i0
  subst j1
  exact X.lreturn (pc := 6) (by decide +kernel) rfl ⟨rfl, rfl, rfl, rfl, rfl, rfl⟩
set_option maxRecDepth 100000 in
noncomputable def f_Mod_row (S : MS) (R : MR) (I : MI) (L : ML) (t : Nat) (p1 : Int32) : Option (Int64 × MI) :=
  lt (wI I t 0 0) fun (I1 : MI) =>
  bnd1 (f_Mod_in (Int32.toInt64 p1) 0 (Int32.toInt64 ((I1 t 1) - 1))) fun x2 =>
  ifb (x2 = 0)
    (bnd2 (f_Mod_refuse S I1 t) fun x5 I6 =>
    some (x5, I6))
    (bnd1 (R t 2) fun b8 =>
    asrt ((S b8).1 = 21) <|
    asrt (vp_in p1 (S b8).2) <|
    lt (L b8 (Int32.toNatClampNeg p1)) fun (x11 : Int64) =>
    some (x11, I1))
set_option maxRecDepth 100000 in
set_option maxHeartbeats 4000000 in
theorem c_Mod_row {E : Env} (hE : OKE E) {tg : Bool} {d : Nat} (hd : 1 ≤ d) {S : MS} {I : MI} {L : ML} {R : MR} {n : Nat} {t : Nat} {p1 : Int32} {v : Int64} {I' : MI} (hS : (S t).1 = 12) (h : f_Mod_row S R I L t p1 = some (v, I')) : C E y_Mod_row b_Mod_row 2 (some .long) tg d 0 0 [.ref (e_b E + t), .int p1] S I L R n (Kq (some (.long v)) S I' L R n) := by
  refine C.of (o := [some (.ref (e_b E + t)), some (.int p1)]) (by decide) rfl (Nat.le_of_ble_eq_true rfl) ?_
  rw [f_Mod_row] at h
  refine X.aload_0 (pc := 0) (by decide +kernel) ?_
  refine X.iconst (pc := 1) (i := 0) (v := 0) ic_0 (by decide +kernel) ?_
  refine X.putI (pc := 2) (k := 0) fw_Mod_3 (by decide +kernel) rfl rfl hS ?_
  refine X.nameMI (fun I1 hI1 => ?_)
  have h := lt_at hI1 h
  refine X.iload_1 (pc := 5) (by decide +kernel) ?_
  refine X.i2l (pc := 6) (by decide +kernel) ?_
  refine X.lconst (pc := 7) (i := 0) (v := 0) rfl (by decide +kernel) ?_
  refine X.aload_0 (pc := 8) (by decide +kernel) ?_
  refine X.getI (pc := 9) (k := 1) fw_Mod_21 (by decide +kernel) (fun _ => rfl) hS ?_
  refine X.iconst (pc := 12) (i := 1) (v := 1) ic_1 (by decide +kernel) ?_
  refine X.isub (pc := 13) (by decide +kernel) ?_
  refine X.i2l (pc := 14) (by decide +kernel) ?_
  obtain ⟨x2, hv3, h⟩ := bnd1_some h
  refine X.callSi (pc := 15) (nc := 0) (ns := 0) (c_Mod_in hE (dle hd (Nat.le_of_ble_eq_true rfl)) hv3) cv_Mod_151 (by decide +kernel) (ddd hd (Nat.le_of_ble_eq_true rfl)) rfl (Nat.le_of_ble_eq_true rfl) rfl rfl ?_
  rcases ifb_some h with ⟨hq4, h⟩ | ⟨hq4, h⟩
  · refine X.if_ne_f (pc := 18) (off := 8) (tgt := 26) hq4 rfl (by decide +kernel) ?_
    refine X.aload_0 (pc := 21) (by decide +kernel) ?_
    obtain ⟨x5, I6, hv7, h⟩ := bnd2_some h
    refine X.callVl (pc := 22) (nc := 0) (ns := 0) (c_Mod_refuse hE (dle hd (Nat.le_of_ble_eq_true rfl)) hS hv7) cv_Mod_433 (by decide +kernel) hS ⟨by decide, rfl⟩ (ddd hd (Nat.le_of_ble_eq_true rfl)) rfl (Nat.le_of_ble_eq_true rfl) rfl rfl ?_
    have j0 := Option.some.inj h
    obtain ⟨i0, j1⟩ := Prod.mk.inj j0
    subst i0
    subst j1
    exact X.lreturn (pc := 25) (by decide +kernel) rfl ⟨rfl, rfl, rfl, rfl, rfl, rfl⟩
  · refine X.if_ne_t (pc := 18) (off := 8) (tgt := 26) hq4 rfl (by decide +kernel) ?_
    refine X.aload_0 (pc := 26) (by decide +kernel) ?_
    obtain ⟨b8, hb8, h⟩ := bnd1_some h
    refine X.getR (pc := 27) (k := 2) fw_Mod_17 (by decide +kernel) (fun _ => rfl) hS hb8 ?_
    refine X.iload_1 (pc := 30) (by decide +kernel) ?_
    obtain ⟨hc10, h⟩ := asrt_some h
    obtain ⟨hi9, h⟩ := asrt_some h
    refine X.laload (pc := 31) (by decide +kernel) hc10 hi9 ?_
    refine X.nameL (fun x11 hx11 => ?_)
    have h := lt_at hx11 h
    have j0 := Option.some.inj h
    obtain ⟨i0, j1⟩ := Prod.mk.inj j0
    subst i0
    subst j1
    exact X.lreturn (pc := 32) (by decide +kernel) rfl ⟨rfl, rfl, rfl, rfl, rfl, rfl⟩
