set_option maxRecDepth 100000 in
noncomputable def f_JMath_abs_J (p1 : Int64) : Option Int64 :=
  bnd1 (ifb (0 ≤ (lg_cmp p1 0))
      (some p1)
      (some (-p1))) fun (y2 : Int64) =>
  some y2
set_option maxRecDepth 100000 in
set_option maxHeartbeats 4000000 in
theorem c_JMath_abs_J {E : Env} (hE : OKE E) {tg : Bool} {d : Nat} (hd : 0 ≤ d) {S : MS} {I : MI} {L : ML} {R : MR} {n : Nat} {p1 : Int64} {v : Int64} (h : f_JMath_abs_J p1 = some v) : C E y_JMath_abs_J b_JMath_abs_J 2 (some .long) tg d 0 0 [.long p1] S I L R n (Kq (some (.long v)) S I L R n) := by
  refine C.ofF (o := [some (.long p1), none]) (by decide +kernel) rfl (Nat.le_of_ble_eq_true rfl) ?_
  rw [f_JMath_abs_J] at h
  refine X.lload_0 (pc := 0) (by decide +kernel) ?_
  refine X.lconst (pc := 1) (i := 0) (v := 0) rfl (by decide +kernel) ?_
  refine X.lcmp (pc := 2) (by decide +kernel) ?_
  obtain ⟨y2, hr3, h⟩ := bnd1_some h
  have hj4 : X E y_JMath_abs_J b_JMath_abs_J 2 (some .long) tg d 0 0 12 [none, none] [.long y2] S I L R n (Kq (some (.long v)) S I L R n) := by
    have j0 := Option.some.inj h
    subst j0
    exact X.lreturn (pc := 12) (by decide +kernel) rfl ⟨rfl, rfl, rfl, rfl, rfl, rfl⟩
  have h := hr3
  rcases ifb_some h with ⟨hq1, h⟩ | ⟨hq1, h⟩
  · refine X.if_ge_t (pc := 3) (off := 8) (tgt := 11) hq1 rfl (by decide +kernel) ?_
    refine X.lload_0 (pc := 11) (by decide +kernel) ?_
    have j0 := Option.some.inj h
    subst j0
    refine X.fgt (o' := [none, none]) trivial ?_
    exact hj4
  · refine X.if_ge_f (pc := 3) (off := 8) (tgt := 11) hq1 rfl (by decide +kernel) ?_
    refine X.lload_0 (pc := 6) (by decide +kernel) ?_
    refine X.lneg (pc := 7) (by decide +kernel) ?_
    refine X.goto (pc := 8) (off := 4) (tgt := 12) (by decide +kernel) rfl ?_
    have j0 := Option.some.inj h
    subst j0
    refine X.fgt (o' := [none, none]) trivial ?_
    exact hj4
set_option maxRecDepth 100000 in
noncomputable def f_Mod_common : Nat → Int64 → Int64 → Option Int64
  | 0, _, _ => none
  | rd + 1, p1, p2 =>
    bnd1 (ifb ((lg_cmp p2 0) = 0)
        (bnd1 (f_JMath_abs_J p1) fun x5 =>
        some x5)
        (asrt (¬ p2 = 0) <|
        bnd1 ((f_Mod_common rd) p2 (lrm p1 p2)) fun x8 =>
        some x8)) fun (y2 : Int64) =>
    some y2
set_option maxRecDepth 100000 in
set_option maxHeartbeats 4000000 in
theorem c_Mod_common {E : Env} (hE : OKE E) {tg : Bool} : ∀ {rd : Nat} {d : Nat} (hd : rd + 1 ≤ d) {S : MS} {I : MI} {L : ML} {R : MR} {n : Nat} {p1 : Int64} {p2 : Int64} {v : Int64}, f_Mod_common rd p1 p2 = some v → C E y_Mod_common b_Mod_common 4 (some .long) tg d 0 0 [.long p1, .long p2] S I L R n (Kq (some (.long v)) S I L R n) := by
  intro rd
  induction rd with
  | zero =>
    intro d hd S I L R n p1 p2 v h
    rw [f_Mod_common] at h
    cases h
  | succ rd ihr =>
    intro d hd S I L R n p1 p2 v h
    refine C.of (o := [some (.long p1), none, some (.long p2), none]) (by decide) rfl (Nat.le_of_ble_eq_true rfl) ?_
    rw [f_Mod_common] at h
    have hself : ∀ (S : MS) (I : MI) (L : ML) (R : MR) (n : Nat) (q0 : Int64) (q1 : Int64) (v : Int64), f_Mod_common rd q0 q1 = some v → C E y_Mod_common b_Mod_common 4 (some .long) tg (d - 1) 0 0 [.long q0, .long q1] S I L R n (Kq (some (.long v)) S I L R n) := fun _ _ _ _ _ _ _ _ h1 => ihr (by omega) h1
    refine X.lload_2 (pc := 0) (by decide +kernel) ?_
    refine X.lconst (pc := 1) (i := 0) (v := 0) rfl (by decide +kernel) ?_
    refine X.lcmp (pc := 2) (by decide +kernel) ?_
    obtain ⟨y2, hr3, h⟩ := bnd1_some h
    have hj4 : X E y_Mod_common b_Mod_common 4 (some .long) tg d 0 0 20 [none, none, none, none] [.long y2] S I L R n (Kq (some (.long v)) S I L R n) := by
      have j0 := Option.some.inj h
      subst j0
      exact X.lreturn (pc := 20) (by decide +kernel) rfl ⟨rfl, rfl, rfl, rfl, rfl, rfl⟩
    have h := hr3
    rcases ifb_some h with ⟨hq1, h⟩ | ⟨hq1, h⟩
    · refine X.if_ne_f (pc := 3) (off := 10) (tgt := 13) hq1 rfl (by decide +kernel) ?_
      refine X.lload_0 (pc := 6) (by decide +kernel) ?_
      obtain ⟨x5, hv6, h⟩ := bnd1_some h
      refine X.callSl (pc := 7) (nc := 0) (ns := 0) (c_JMath_abs_J hE (dle hd (by omega)) hv6) cv_Mod_7 (by decide +kernel) (ddd hd (by omega)) rfl (Nat.le_of_ble_eq_true rfl) rfl rfl ?_
      refine X.goto (pc := 10) (off := 10) (tgt := 20) (by decide +kernel) rfl ?_
      have j0 := Option.some.inj h
      subst j0
      refine X.fgt (o' := [none, none, none, none]) trivial ?_
      exact hj4
    · refine X.if_ne_t (pc := 3) (off := 10) (tgt := 13) hq1 rfl (by decide +kernel) ?_
      refine X.lload_2 (pc := 13) (by decide +kernel) ?_
      refine X.lload_0 (pc := 14) (by decide +kernel) ?_
      refine X.lload_2 (pc := 15) (by decide +kernel) ?_
      obtain ⟨hz7, h⟩ := asrt_some h
      refine X.lrem (pc := 16) hz7 (by decide +kernel) ?_
      obtain ⟨x8, hv9, h⟩ := bnd1_some h
      refine X.callSl (pc := 17) (nc := 0) (ns := 0) (hself _ _ _ _ _ _ _ _  hv9) cv_Mod_13 (by decide +kernel) (ddd hd (by omega)) rfl (Nat.le_of_ble_eq_true rfl) rfl rfl ?_
      have j0 := Option.some.inj h
      subst j0
      refine X.fgt (o' := [none, none, none, none]) trivial ?_
      exact hj4
set_option maxRecDepth 100000 in
noncomputable def f_Mod_entersFraction (S : MS) (R : MR) (I : MI) (L : ML) (t : Nat) (p1 : Int64) (p2 : Int64) : Option (MI × ML) :=
  bnd1 (f_Mod_common 200 p1 p2) fun x1 =>
  asrt (¬ x1 = 0) <|
  bnd2 (f_Mod_enters S R I L t (p1 / x1)) fun I4 L5 =>
  asrt (¬ x1 = 0) <|
  bnd2 (f_Mod_enters S R I4 L5 t (p2 / x1)) fun I8 L9 =>
  some (I8, L9)
set_option maxRecDepth 100000 in
set_option maxHeartbeats 4000000 in
theorem c_Mod_entersFraction {E : Env} (hE : OKE E) {tg : Bool} {d : Nat} (hd : 202 ≤ d) {S : MS} {I : MI} {L : ML} {R : MR} {n : Nat} {t : Nat} {p1 : Int64} {p2 : Int64} {I' : MI} {L' : ML} (hS : (S t).1 = 12) (h : f_Mod_entersFraction S R I L t p1 p2 = some (I', L')) : C E y_Mod_entersFraction b_Mod_entersFraction 7 none tg d 0 0 [.ref (e_b E + t), .long p1, .long p2] S I L R n (Kq none S I' L' R n) := by
  refine C.of (o := [some (.ref (e_b E + t)), some (.long p1), none, some (.long p2), none, none, none]) (by decide) rfl (Nat.le_of_ble_eq_true rfl) ?_
  rw [f_Mod_entersFraction] at h
  refine X.lload_1 (pc := 0) (by decide +kernel) ?_
  refine X.lload_3 (pc := 1) (by decide +kernel) ?_
  obtain ⟨x1, hv2, h⟩ := bnd1_some h
  refine X.callSl (pc := 2) (nc := 0) (ns := 0) (c_Mod_common hE (dle hd (Nat.le_of_ble_eq_true rfl)) hv2) cv_Mod_13 (by decide +kernel) (ddd hd (Nat.le_of_ble_eq_true rfl)) rfl (Nat.le_of_ble_eq_true rfl) rfl rfl ?_
  refine X.lstore_5 (pc := 5) (by decide +kernel) (by decide) rfl ?_
  refine X.aload_0 (pc := 7) (by decide +kernel) ?_
  refine X.lload_1 (pc := 8) (by decide +kernel) ?_
  refine X.lload_5 (pc := 9) (by decide +kernel) ?_
  obtain ⟨hz3, h⟩ := asrt_some h
  refine X.ldiv (pc := 11) hz3 (by decide +kernel) ?_
  obtain ⟨I4, L5, hv6, h⟩ := bnd2_some h
  refine X.callVv (pc := 12) (nc := 0) (ns := 0) (c_Mod_enters hE (dle hd (Nat.le_of_ble_eq_true rfl)) hS hv6) cv_Mod_24 (by decide +kernel) hS ⟨by decide, rfl⟩ (ddd hd (Nat.le_of_ble_eq_true rfl)) rfl (Nat.le_of_ble_eq_true rfl) rfl rfl ?_
  refine X.aload_0 (pc := 15) (by decide +kernel) ?_
  refine X.lload_3 (pc := 16) (by decide +kernel) ?_
  refine X.lload_5 (pc := 17) (by decide +kernel) ?_
  obtain ⟨hz7, h⟩ := asrt_some h
  refine X.ldiv (pc := 19) hz7 (by decide +kernel) ?_
  obtain ⟨I8, L9, hv10, h⟩ := bnd2_some h
  refine X.callVv (pc := 20) (nc := 0) (ns := 0) (c_Mod_enters hE (dle hd (Nat.le_of_ble_eq_true rfl)) hS hv10) cv_Mod_24 (by decide +kernel) hS ⟨by decide, rfl⟩ (ddd hd (Nat.le_of_ble_eq_true rfl)) rfl (Nat.le_of_ble_eq_true rfl) rfl rfl ?_
  have j0 := Option.some.inj h
  obtain ⟨i0, j1⟩ := Prod.mk.inj j0
  subst i0
  subst j1
  exact X.vreturn (pc := 23) (by decide +kernel) rfl ⟨rfl, rfl, rfl, rfl, rfl, rfl⟩
set_option maxRecDepth 100000 in
noncomputable def f_Mod_never (g : Nat) (S : MS) (R : MR) (I : MI) (L : ML) (t : Nat) (p1 : Int32) : Option (Int32 × MI × ML) :=
  lt (wI I t 0 0) fun (I1 : MI) =>
  bnd1 (f_Mod_areSteps p1) fun x2 =>
  ifb (x2 = 0)
    (some ((-1), I1, L))
    (bnd1 (f_Mod_works g S R I1 L t p1 1 0) fun L5 =>
    bnd1 (f_Mod_chanceNow S R I1 L5 t (I1 t 10)) fun x7 =>
    bnd1 (f_Mod_works g S R I1 L5 t p1 0 0) fun L9 =>
    lt (wI I1 t 1 0) fun (I11 : MI) =>
    bnd1 (f_Mod_chanceNow S R I11 L9 t (I11 t 10)) fun x12 =>
    bnd1 (f_Mod_whole g p1) fun x14 =>
    bnd2 (f_Mod_entersFraction S R I11 L9 t x12 x14) fun I16 L17 =>
    bnd1 (f_Mod_whole g p1) fun x19 =>
    bnd1 (f_Mod_whole g p1) fun x21 =>
    bnd2 (f_Mod_entersFraction S R I16 L17 t (x19 - x7) x21) fun I23 L24 =>
    some (0, I23, L24))
set_option maxRecDepth 100000 in
set_option maxHeartbeats 4000000 in
theorem c_Mod_never {E : Env} (hE : OKE E) {tg : Bool} {d : Nat} (hd : 203 ≤ d) {g : Nat} {S : MS} {I : MI} {L : ML} {R : MR} {n : Nat} {t : Nat} {p1 : Int32} {v : Int32} {I' : MI} {L' : ML} (hS : (S t).1 = 12) (h : f_Mod_never g S R I L t p1 = some (v, I', L')) : C E y_Mod_never b_Mod_never 4 (some .int) tg d 0 0 [.ref (e_b E + t), .int p1] S I L R n (Kq (some (.int v)) S I' L' R n) := by
  refine C.of (o := [some (.ref (e_b E + t)), some (.int p1), none, none]) (by decide) rfl (Nat.le_of_ble_eq_true rfl) ?_
  rw [f_Mod_never] at h
  refine X.aload_0 (pc := 0) (by decide +kernel) ?_
  refine X.iconst (pc := 1) (i := 0) (v := 0) ic_0 (by decide +kernel) ?_
  refine X.putI (pc := 2) (k := 0) fw_Mod_3 (by decide +kernel) rfl rfl hS ?_
  refine X.nameMI (fun I1 hI1 => ?_)
  have h := lt_at hI1 h
  refine X.iload_1 (pc := 5) (by decide +kernel) ?_
  obtain ⟨x2, hv3, h⟩ := bnd1_some h
  refine X.callSi (pc := 6) (nc := 0) (ns := 0) (c_Mod_areSteps hE (dle hd (Nat.le_of_ble_eq_true rfl)) hv3) cv_Mod_326 (by decide +kernel) (ddd hd (Nat.le_of_ble_eq_true rfl)) rfl (Nat.le_of_ble_eq_true rfl) rfl rfl ?_
  rcases ifb_some h with ⟨hq4, h⟩ | ⟨hq4, h⟩
  · refine X.if_ne_f (pc := 9) (off := 5) (tgt := 14) hq4 rfl (by decide +kernel) ?_
    refine X.iconst (pc := 12) (i := (-1)) (v := (-1)) ic_m1 (by decide +kernel) ?_
    have j0 := Option.some.inj h
    obtain ⟨i0, j1⟩ := Prod.mk.inj j0
    obtain ⟨i1, j2⟩ := Prod.mk.inj j1
    subst i0
    subst i1
    subst j2
    exact X.ireturn (pc := 13) (by decide +kernel) ⟨_, rfl, rfl⟩ ⟨rfl, rfl, rfl, rfl, rfl, rfl⟩
  · refine X.if_ne_t (pc := 9) (off := 5) (tgt := 14) hq4 rfl (by decide +kernel) ?_
    refine X.aload_0 (pc := 14) (by decide +kernel) ?_
    refine X.iload_1 (pc := 15) (by decide +kernel) ?_
    refine X.iconst (pc := 16) (i := 1) (v := 1) ic_1 (by decide +kernel) ?_
    refine X.iconst (pc := 17) (i := 0) (v := 0) ic_0 (by decide +kernel) ?_
    obtain ⟨L5, hv6, h⟩ := bnd1_some h
    refine X.callVv (pc := 18) (nc := 0) (ns := 0) (c_Mod_works hE (dle hd (Nat.le_of_ble_eq_true rfl)) hS hv6) cv_Mod_329 (by decide +kernel) hS ⟨by decide, rfl⟩ (ddd hd (Nat.le_of_ble_eq_true rfl)) rfl (Nat.le_of_ble_eq_true rfl) rfl rfl ?_
    refine X.aload_0 (pc := 21) (by decide +kernel) ?_
    refine X.aload_0 (pc := 22) (by decide +kernel) ?_
    refine X.getI (pc := 23) (k := 10) fw_Mod_47 (by decide +kernel) (fun _ => rfl) hS ?_
    obtain ⟨x7, hv8, h⟩ := bnd1_some h
    refine X.callVl (pc := 26) (nc := 0) (ns := 0) (c_Mod_chanceNow hE (dle hd (Nat.le_of_ble_eq_true rfl)) hS hv8) cv_Mod_333 (by decide +kernel) hS ⟨by decide, rfl⟩ (ddd hd (Nat.le_of_ble_eq_true rfl)) rfl (Nat.le_of_ble_eq_true rfl) rfl rfl ?_
    refine X.lstore_2 (pc := 29) (by decide +kernel) (by decide) rfl ?_
    refine X.aload_0 (pc := 30) (by decide +kernel) ?_
    refine X.iload_1 (pc := 31) (by decide +kernel) ?_
    refine X.iconst (pc := 32) (i := 0) (v := 0) ic_0 (by decide +kernel) ?_
    refine X.iconst (pc := 33) (i := 0) (v := 0) ic_0 (by decide +kernel) ?_
    obtain ⟨L9, hv10, h⟩ := bnd1_some h
    refine X.callVv (pc := 34) (nc := 0) (ns := 0) (c_Mod_works hE (dle hd (Nat.le_of_ble_eq_true rfl)) hS hv10) cv_Mod_329 (by decide +kernel) hS ⟨by decide, rfl⟩ (ddd hd (Nat.le_of_ble_eq_true rfl)) rfl (Nat.le_of_ble_eq_true rfl) rfl rfl ?_
    refine X.aload_0 (pc := 37) (by decide +kernel) ?_
    refine X.iconst (pc := 38) (i := 0) (v := 0) ic_0 (by decide +kernel) ?_
    refine X.putI (pc := 39) (k := 1) fw_Mod_21 (by decide +kernel) rfl rfl hS ?_
    refine X.nameMI (fun I11 hI11 => ?_)
    have h := lt_at hI11 h
    refine X.aload_0 (pc := 42) (by decide +kernel) ?_
    refine X.aload_0 (pc := 43) (by decide +kernel) ?_
    refine X.aload_0 (pc := 44) (by decide +kernel) ?_
    refine X.getI (pc := 45) (k := 10) fw_Mod_47 (by decide +kernel) (fun _ => rfl) hS ?_
    obtain ⟨x12, hv13, h⟩ := bnd1_some h
    refine X.callVl (pc := 48) (nc := 0) (ns := 0) (c_Mod_chanceNow hE (dle hd (Nat.le_of_ble_eq_true rfl)) hS hv13) cv_Mod_333 (by decide +kernel) hS ⟨by decide, rfl⟩ (ddd hd (Nat.le_of_ble_eq_true rfl)) rfl (Nat.le_of_ble_eq_true rfl) rfl rfl ?_
    refine X.iload_1 (pc := 51) (by decide +kernel) ?_
    obtain ⟨x14, hv15, h⟩ := bnd1_some h
    refine X.callSl (pc := 52) (nc := 0) (ns := 0) (c_Mod_whole hE (dle hd (Nat.le_of_ble_eq_true rfl)) hv15) cv_Mod_337 (by decide +kernel) (ddd hd (Nat.le_of_ble_eq_true rfl)) rfl (Nat.le_of_ble_eq_true rfl) rfl rfl ?_
    obtain ⟨I16, L17, hv18, h⟩ := bnd2_some h
    refine X.callVv (pc := 55) (nc := 0) (ns := 0) (c_Mod_entersFraction hE (dle hd (Nat.le_of_ble_eq_true rfl)) hS hv18) cv_Mod_340 (by decide +kernel) hS ⟨by decide, rfl⟩ (ddd hd (Nat.le_of_ble_eq_true rfl)) rfl (Nat.le_of_ble_eq_true rfl) rfl rfl ?_
    refine X.aload_0 (pc := 58) (by decide +kernel) ?_
    refine X.iload_1 (pc := 59) (by decide +kernel) ?_
    obtain ⟨x19, hv20, h⟩ := bnd1_some h
    refine X.callSl (pc := 60) (nc := 0) (ns := 0) (c_Mod_whole hE (dle hd (Nat.le_of_ble_eq_true rfl)) hv20) cv_Mod_337 (by decide +kernel) (ddd hd (Nat.le_of_ble_eq_true rfl)) rfl (Nat.le_of_ble_eq_true rfl) rfl rfl ?_
    refine X.lload_2 (pc := 63) (by decide +kernel) ?_
    refine X.lsub (pc := 64) (by decide +kernel) ?_
    refine X.iload_1 (pc := 65) (by decide +kernel) ?_
    obtain ⟨x21, hv22, h⟩ := bnd1_some h
    refine X.callSl (pc := 66) (nc := 0) (ns := 0) (c_Mod_whole hE (dle hd (Nat.le_of_ble_eq_true rfl)) hv22) cv_Mod_337 (by decide +kernel) (ddd hd (Nat.le_of_ble_eq_true rfl)) rfl (Nat.le_of_ble_eq_true rfl) rfl rfl ?_
    obtain ⟨I23, L24, hv25, h⟩ := bnd2_some h
    refine X.callVv (pc := 69) (nc := 0) (ns := 0) (c_Mod_entersFraction hE (dle hd (Nat.le_of_ble_eq_true rfl)) hS hv25) cv_Mod_340 (by decide +kernel) hS ⟨by decide, rfl⟩ (ddd hd (Nat.le_of_ble_eq_true rfl)) rfl (Nat.le_of_ble_eq_true rfl) rfl rfl ?_
    refine X.iconst (pc := 72) (i := 0) (v := 0) ic_0 (by decide +kernel) ?_
    have j0 := Option.some.inj h
    obtain ⟨i0, j1⟩ := Prod.mk.inj j0
    obtain ⟨i1, j2⟩ := Prod.mk.inj j1
    subst i0
    subst i1
    subst j2
    exact X.ireturn (pc := 73) (by decide +kernel) ⟨_, rfl, rfl⟩ ⟨rfl, rfl, rfl, rfl, rfl, rfl⟩
set_option maxRecDepth 100000 in
noncomputable def f_Mod_best (g : Nat) (S : MS) (R : MR) (I : MI) (L : ML) (t : Nat) (p1 : Int32) : Option (Int32 × MI × ML) :=
  lt (wI I t 0 0) fun (I1 : MI) =>
  bnd1 (f_Mod_areSteps p1) fun x2 =>
  ifb (x2 = 0)
    (some ((-1), I1, L))
    (bnd1 (f_Mod_works g S R I1 L t p1 0 1) fun L5 =>
    lt (wI I1 t 1 0) fun (I7 : MI) =>
    bnd1 (f_Mod_chanceNow S R I7 L5 t (I7 t 10)) fun x8 =>
    bnd1 (f_Mod_whole g p1) fun x10 =>
    bnd2 (f_Mod_entersFraction S R I7 L5 t x8 x10) fun I12 L13 =>
    some (0, I12, L13))
set_option maxRecDepth 100000 in
set_option maxHeartbeats 4000000 in
theorem c_Mod_best {E : Env} (hE : OKE E) {tg : Bool} {d : Nat} (hd : 203 ≤ d) {g : Nat} {S : MS} {I : MI} {L : ML} {R : MR} {n : Nat} {t : Nat} {p1 : Int32} {v : Int32} {I' : MI} {L' : ML} (hS : (S t).1 = 12) (h : f_Mod_best g S R I L t p1 = some (v, I', L')) : C E y_Mod_best b_Mod_best 2 (some .int) tg d 0 0 [.ref (e_b E + t), .int p1] S I L R n (Kq (some (.int v)) S I' L' R n) := by
  refine C.of (o := [some (.ref (e_b E + t)), some (.int p1)]) (by decide) rfl (Nat.le_of_ble_eq_true rfl) ?_
  rw [f_Mod_best] at h
  refine X.aload_0 (pc := 0) (by decide +kernel) ?_
  refine X.iconst (pc := 1) (i := 0) (v := 0) ic_0 (by decide +kernel) ?_
  refine X.putI (pc := 2) (k := 0) fw_Mod_3 (by decide +kernel) rfl rfl hS ?_
  refine X.nameMI (fun I1 hI1 => ?_)
  have h := lt_at hI1 h
  refine X.iload_1 (pc := 5) (by decide +kernel) ?_
  obtain ⟨x2, hv3, h⟩ := bnd1_some h
  refine X.callSi (pc := 6) (nc := 0) (ns := 0) (c_Mod_areSteps hE (dle hd (Nat.le_of_ble_eq_true rfl)) hv3) cv_Mod_326 (by decide +kernel) (ddd hd (Nat.le_of_ble_eq_true rfl)) rfl (Nat.le_of_ble_eq_true rfl) rfl rfl ?_
  rcases ifb_some h with ⟨hq4, h⟩ | ⟨hq4, h⟩
  · refine X.if_ne_f (pc := 9) (off := 5) (tgt := 14) hq4 rfl (by decide +kernel) ?_
    refine X.iconst (pc := 12) (i := (-1)) (v := (-1)) ic_m1 (by decide +kernel) ?_
    have j0 := Option.some.inj h
    obtain ⟨i0, j1⟩ := Prod.mk.inj j0
    obtain ⟨i1, j2⟩ := Prod.mk.inj j1
    subst i0
    subst i1
    subst j2
    exact X.ireturn (pc := 13) (by decide +kernel) ⟨_, rfl, rfl⟩ ⟨rfl, rfl, rfl, rfl, rfl, rfl⟩
  · refine X.if_ne_t (pc := 9) (off := 5) (tgt := 14) hq4 rfl (by decide +kernel) ?_
    refine X.aload_0 (pc := 14) (by decide +kernel) ?_
    refine X.iload_1 (pc := 15) (by decide +kernel) ?_
    refine X.iconst (pc := 16) (i := 0) (v := 0) ic_0 (by decide +kernel) ?_
    refine X.iconst (pc := 17) (i := 1) (v := 1) ic_1 (by decide +kernel) ?_
    obtain ⟨L5, hv6, h⟩ := bnd1_some h
    refine X.callVv (pc := 18) (nc := 0) (ns := 0) (c_Mod_works hE (dle hd (Nat.le_of_ble_eq_true rfl)) hS hv6) cv_Mod_329 (by decide +kernel) hS ⟨by decide, rfl⟩ (ddd hd (Nat.le_of_ble_eq_true rfl)) rfl (Nat.le_of_ble_eq_true rfl) rfl rfl ?_
    refine X.aload_0 (pc := 21) (by decide +kernel) ?_
    refine X.iconst (pc := 22) (i := 0) (v := 0) ic_0 (by decide +kernel) ?_
    refine X.putI (pc := 23) (k := 1) fw_Mod_21 (by decide +kernel) rfl rfl hS ?_
    refine X.nameMI (fun I7 hI7 => ?_)
    have h := lt_at hI7 h
    refine X.aload_0 (pc := 26) (by decide +kernel) ?_
    refine X.aload_0 (pc := 27) (by decide +kernel) ?_
    refine X.aload_0 (pc := 28) (by decide +kernel) ?_
    refine X.getI (pc := 29) (k := 10) fw_Mod_47 (by decide +kernel) (fun _ => rfl) hS ?_
    obtain ⟨x8, hv9, h⟩ := bnd1_some h
    refine X.callVl (pc := 32) (nc := 0) (ns := 0) (c_Mod_chanceNow hE (dle hd (Nat.le_of_ble_eq_true rfl)) hS hv9) cv_Mod_333 (by decide +kernel) hS ⟨by decide, rfl⟩ (ddd hd (Nat.le_of_ble_eq_true rfl)) rfl (Nat.le_of_ble_eq_true rfl) rfl rfl ?_
    refine X.iload_1 (pc := 35) (by decide +kernel) ?_
    obtain ⟨x10, hv11, h⟩ := bnd1_some h
    refine X.callSl (pc := 36) (nc := 0) (ns := 0) (c_Mod_whole hE (dle hd (Nat.le_of_ble_eq_true rfl)) hv11) cv_Mod_337 (by decide +kernel) (ddd hd (Nat.le_of_ble_eq_true rfl)) rfl (Nat.le_of_ble_eq_true rfl) rfl rfl ?_
    obtain ⟨I12, L13, hv14, h⟩ := bnd2_some h
    refine X.callVv (pc := 39) (nc := 0) (ns := 0) (c_Mod_entersFraction hE (dle hd (Nat.le_of_ble_eq_true rfl)) hS hv14) cv_Mod_340 (by decide +kernel) hS ⟨by decide, rfl⟩ (ddd hd (Nat.le_of_ble_eq_true rfl)) rfl (Nat.le_of_ble_eq_true rfl) rfl rfl ?_
    refine X.iconst (pc := 42) (i := 0) (v := 0) ic_0 (by decide +kernel) ?_
    have j0 := Option.some.inj h
    obtain ⟨i0, j1⟩ := Prod.mk.inj j0
    obtain ⟨i1, j2⟩ := Prod.mk.inj j1
    subst i0
    subst i1
    subst j2
    exact X.ireturn (pc := 43) (by decide +kernel) ⟨_, rfl, rfl⟩ ⟨rfl, rfl, rfl, rfl, rfl, rfl⟩
set_option maxRecDepth 100000 in
noncomputable def l_Mod_fewest_35 (g : Nat) (S : MS) (R : MR) (I : MI) (L : ML) (v0 : Nat) (v1 : Int32) (v2 : Int32) : Nat → Int32 → Option (Int32 × MI × ML)
  | 0, _ => none
  | f + 1, v3 =>
    ifb (10 ≤ v3)
      (some ((-2), I, L))
      (bnd1 (f_Mod_chanceNow S R I L v0 v3) fun x11 =>
      bnd1 (f_Mod_whole g v1) fun x13 =>
      ifb ((lg_cmp (100 * x11) ((Int32.toInt64 v2) * x13)) < 0)
        (l_Mod_fewest_35 g S R I L v0 v1 v2 f (v3 + 1))
        (some (v3, I, L)))
set_option maxRecDepth 100000 in
set_option maxHeartbeats 4000000 in
theorem xl_Mod_fewest_35 {E : Env} (hE : OKE E) {tg : Bool} {d : Nat} (hd : 5 ≤ d) {g : Nat} {S : MS} {I : MI} {L : ML} {R : MR} {n : Nat} {v0 : Nat} {v1 : Int32} {v2 : Int32} :
    ∀ {f : Nat}  {v3 : Int32} {v : Int32} {I' : MI} {L' : ML}, (S v0).1 = 12 → l_Mod_fewest_35 g S R I L v0 v1 v2 f v3 = some (v, I', L') → X E y_Mod_fewest b_Mod_fewest 4 (some .int) tg d 0 0 35 [some (.ref (e_b E + v0)), some (.int v1), some (.int v2), some (.int v3)] [] S I L R n (Kq (some (.int v)) S I' L' R n) := by
  intro f
  induction f with
  | zero =>
    intro v3 v I' L' hS h
    rw [l_Mod_fewest_35] at h
    cases h
  | succ f ih =>
    intro v3 v I' L' hS h
    rw [l_Mod_fewest_35] at h
    refine X.iload_3 (pc := 35) (by decide +kernel) ?_
    refine X.bipush (pc := 36) (i := 10) (v := 10) bp_10 (by decide +kernel) ?_
    rcases ifb_some h with ⟨hq10, h⟩ | ⟨hq10, h⟩
    · refine X.icmp_ge_t (pc := 38) (off := 31) (tgt := 69) hq10 rfl (by decide +kernel) ?_
      refine X.bipush (pc := 69) (i := (-2)) (v := (-2)) bp_m2 (by decide +kernel) ?_
      have j0 := Option.some.inj h
      obtain ⟨i0, j1⟩ := Prod.mk.inj j0
      obtain ⟨i1, j2⟩ := Prod.mk.inj j1
      subst i0
      subst i1
      subst j2
      exact X.ireturn (pc := 71) (by decide +kernel) ⟨_, rfl, rfl⟩ ⟨rfl, rfl, rfl, rfl, rfl, rfl⟩
    · refine X.icmp_ge_f (pc := 38) (off := 31) (tgt := 69) hq10 rfl (by decide +kernel) ?_
      refine X.ldc2 (pc := 41) (x := 302) (v := 100) ld_Mod_302 (by decide +kernel) ?_
      refine X.aload_0 (pc := 44) (by decide +kernel) ?_
      refine X.iload_3 (pc := 45) (by decide +kernel) ?_
      obtain ⟨x11, hv12, h⟩ := bnd1_some h
      refine X.callVl (pc := 46) (nc := 0) (ns := 0) (c_Mod_chanceNow hE (dle hd (Nat.le_of_ble_eq_true rfl)) hS hv12) cv_Mod_333 (by decide +kernel) hS ⟨by decide, rfl⟩ (ddd hd (Nat.le_of_ble_eq_true rfl)) rfl (Nat.le_of_ble_eq_true rfl) rfl rfl ?_
      refine X.lmul (pc := 49) (by decide +kernel) ?_
      refine X.iload_2 (pc := 50) (by decide +kernel) ?_
      refine X.i2l (pc := 51) (by decide +kernel) ?_
      refine X.iload_1 (pc := 52) (by decide +kernel) ?_
      obtain ⟨x13, hv14, h⟩ := bnd1_some h
      refine X.callSl (pc := 53) (nc := 0) (ns := 0) (c_Mod_whole hE (dle hd (Nat.le_of_ble_eq_true rfl)) hv14) cv_Mod_337 (by decide +kernel) (ddd hd (Nat.le_of_ble_eq_true rfl)) rfl (Nat.le_of_ble_eq_true rfl) rfl rfl ?_
      refine X.lmul (pc := 56) (by decide +kernel) ?_
      refine X.lcmp (pc := 57) (by decide +kernel) ?_
      rcases ifb_some h with ⟨hq15, h⟩ | ⟨hq15, h⟩
      · refine X.if_lt_t (pc := 58) (off := 5) (tgt := 63) hq15 rfl (by decide +kernel) ?_
        refine X.iinc_3 (pc := 63) (z := 1) (v := 1) ic_1 (by decide +kernel) (by decide) rfl ?_
        refine X.goto (pc := 66) (off := (-31)) (tgt := 35) (by decide +kernel) rfl ?_
        exact ih hS h
      · refine X.if_lt_f (pc := 58) (off := 5) (tgt := 63) hq15 rfl (by decide +kernel) ?_
        refine X.iload_3 (pc := 61) (by decide +kernel) ?_
        have j0 := Option.some.inj h
        obtain ⟨i0, j1⟩ := Prod.mk.inj j0
        obtain ⟨i1, j2⟩ := Prod.mk.inj j1
        subst i0
        subst i1
        subst j2
        exact X.ireturn (pc := 62) (by decide +kernel) ⟨_, rfl, rfl⟩ ⟨rfl, rfl, rfl, rfl, rfl, rfl⟩
set_option maxRecDepth 100000 in
noncomputable def f_Mod_fewest (g : Nat) (S : MS) (R : MR) (I : MI) (L : ML) (t : Nat) (p1 : Int32) (p2 : Int32) : Option (Int32 × MI × ML) :=
  lt (wI I t 0 0) fun (I1 : MI) =>
  bnd1 (f_Mod_areSteps p1) fun x2 =>
  ifb (x2 = 0)
    (some ((-1), I1, L))
    (bnd1 (f_Mod_in (Int32.toInt64 p2) 0 100) fun x5 =>
    ifb (x5 = 0)
      (some ((-1), I1, L))
      (bnd1 (f_Mod_works g S R I1 L t p1 0 1) fun L8 =>
      l_Mod_fewest_35 g S R I1 L8 t p1 p2 g 0))
set_option maxRecDepth 100000 in
set_option maxHeartbeats 4000000 in
theorem c_Mod_fewest {E : Env} (hE : OKE E) {tg : Bool} {d : Nat} (hd : 5 ≤ d) {g : Nat} {S : MS} {I : MI} {L : ML} {R : MR} {n : Nat} {t : Nat} {p1 : Int32} {p2 : Int32} {v : Int32} {I' : MI} {L' : ML} (hS : (S t).1 = 12) (h : f_Mod_fewest g S R I L t p1 p2 = some (v, I', L')) : C E y_Mod_fewest b_Mod_fewest 4 (some .int) tg d 0 0 [.ref (e_b E + t), .int p1, .int p2] S I L R n (Kq (some (.int v)) S I' L' R n) := by
  refine C.of (o := [some (.ref (e_b E + t)), some (.int p1), some (.int p2), none]) (by decide) rfl (Nat.le_of_ble_eq_true rfl) ?_
  rw [f_Mod_fewest] at h
  refine X.aload_0 (pc := 0) (by decide +kernel) ?_
  refine X.iconst (pc := 1) (i := 0) (v := 0) ic_0 (by decide +kernel) ?_
  refine X.putI (pc := 2) (k := 0) fw_Mod_3 (by decide +kernel) rfl rfl hS ?_
  refine X.nameMI (fun I1 hI1 => ?_)
  have h := lt_at hI1 h
  refine X.iload_1 (pc := 5) (by decide +kernel) ?_
  obtain ⟨x2, hv3, h⟩ := bnd1_some h
  refine X.callSi (pc := 6) (nc := 0) (ns := 0) (c_Mod_areSteps hE (dle hd (Nat.le_of_ble_eq_true rfl)) hv3) cv_Mod_326 (by decide +kernel) (ddd hd (Nat.le_of_ble_eq_true rfl)) rfl (Nat.le_of_ble_eq_true rfl) rfl rfl ?_
  rcases ifb_some h with ⟨hq4, h⟩ | ⟨hq4, h⟩
  · refine X.if_eq_t (pc := 9) (off := 15) (tgt := 24) hq4 rfl (by decide +kernel) ?_
    refine X.iconst (pc := 24) (i := (-1)) (v := (-1)) ic_m1 (by decide +kernel) ?_
    have j0 := Option.some.inj h
    obtain ⟨i0, j1⟩ := Prod.mk.inj j0
    obtain ⟨i1, j2⟩ := Prod.mk.inj j1
    subst i0
    subst i1
    subst j2
    exact X.ireturn (pc := 25) (by decide +kernel) ⟨_, rfl, rfl⟩ ⟨rfl, rfl, rfl, rfl, rfl, rfl⟩
  · refine X.if_eq_f (pc := 9) (off := 15) (tgt := 24) hq4 rfl (by decide +kernel) ?_
    refine X.iload_2 (pc := 12) (by decide +kernel) ?_
    refine X.i2l (pc := 13) (by decide +kernel) ?_
    refine X.lconst (pc := 14) (i := 0) (v := 0) rfl (by decide +kernel) ?_
    refine X.ldc2 (pc := 15) (x := 302) (v := 100) ld_Mod_302 (by decide +kernel) ?_
    obtain ⟨x5, hv6, h⟩ := bnd1_some h
    refine X.callSi (pc := 18) (nc := 0) (ns := 0) (c_Mod_in hE (dle hd (Nat.le_of_ble_eq_true rfl)) hv6) cv_Mod_151 (by decide +kernel) (ddd hd (Nat.le_of_ble_eq_true rfl)) rfl (Nat.le_of_ble_eq_true rfl) rfl rfl ?_
    rcases ifb_some h with ⟨hq7, h⟩ | ⟨hq7, h⟩
    · refine X.if_ne_f (pc := 21) (off := 5) (tgt := 26) hq7 rfl (by decide +kernel) ?_
      refine X.iconst (pc := 24) (i := (-1)) (v := (-1)) ic_m1 (by decide +kernel) ?_
      have j0 := Option.some.inj h
      obtain ⟨i0, j1⟩ := Prod.mk.inj j0
      obtain ⟨i1, j2⟩ := Prod.mk.inj j1
      subst i0
      subst i1
      subst j2
      exact X.ireturn (pc := 25) (by decide +kernel) ⟨_, rfl, rfl⟩ ⟨rfl, rfl, rfl, rfl, rfl, rfl⟩
    · refine X.if_ne_t (pc := 21) (off := 5) (tgt := 26) hq7 rfl (by decide +kernel) ?_
      refine X.aload_0 (pc := 26) (by decide +kernel) ?_
      refine X.iload_1 (pc := 27) (by decide +kernel) ?_
      refine X.iconst (pc := 28) (i := 0) (v := 0) ic_0 (by decide +kernel) ?_
      refine X.iconst (pc := 29) (i := 1) (v := 1) ic_1 (by decide +kernel) ?_
      obtain ⟨L8, hv9, h⟩ := bnd1_some h
      refine X.callVv (pc := 30) (nc := 0) (ns := 0) (c_Mod_works hE (dle hd (Nat.le_of_ble_eq_true rfl)) hS hv9) cv_Mod_329 (by decide +kernel) hS ⟨by decide, rfl⟩ (ddd hd (Nat.le_of_ble_eq_true rfl)) rfl (Nat.le_of_ble_eq_true rfl) rfl rfl ?_
      refine X.iconst (pc := 33) (i := 0) (v := 0) ic_0 (by decide +kernel) ?_
      refine X.istore_3 (pc := 34) (by decide +kernel) (by decide) rfl ?_
      exact xl_Mod_fewest_35 hE hd hS h
set_option maxRecDepth 100000 in
noncomputable def l_Mod_should_69 (g : Nat) (S : MS) (R : MR) (I : MI) (L : ML) (v0 : Nat) : Nat → Int32 → Int64 → Int32 → Option Int32
  | 0, _, _, _ => none
  | f + 1, v2, v3, v5 =>
    ifb (3 ≤ v5)
      (some v2)
      (ifb ((I v0 10) ≤ 0)
        (some v2)
        (bnd1 (R v0 28) fun b15 =>
        bnd1 (f_Mod_comesOf g S R I L v0 (I v0 7) (I v0 8) (I v0 10) v5 b15) fun x16 =>
        bnd1 (ifb ((lg_cmp x16 v3) ≤ 0)
            (some v2)
            (some v5)) fun (y19 : Int32) =>
        bnd1 (f_JMath_max_JJ v3 x16) fun x22 =>
        l_Mod_should_69 g S R I L v0 f y19 x22 (v5 + 1)))
set_option maxRecDepth 100000 in
set_option maxHeartbeats 4000000 in
theorem xl_Mod_should_69 {E : Env} (hE : OKE E) {tg : Bool} {d : Nat} (hd : 5 ≤ d) {g : Nat} {S : MS} {I : MI} {L : ML} {R : MR} {n : Nat} {v0 : Nat} {K : KT} :
    ∀ {f : Nat}  {v2 : Int32} {v3 : Int64} {v5 : Int32} {o2 : Int32}, (S v0).1 = 12 → l_Mod_should_69 g S R I L v0 f v2 v3 v5 = some o2 → X E y_Mod_should b_Mod_should 8 (some .int) tg d 0 0 133 [none, none, some (.int o2), none, none, none, none, none] [] S I L R n K → X E y_Mod_should b_Mod_should 8 (some .int) tg d 0 0 69 [some (.ref (e_b E + v0)), none, some (.int v2), some (.long v3), none, some (.int v5), none, none] [] S I L R n K := by
  intro f
  induction f with
  | zero =>
    intro v2 v3 v5 o2 hS h hk
    rw [l_Mod_should_69] at h
    cases h
  | succ f ih =>
    intro v2 v3 v5 o2 hS h hk
    rw [l_Mod_should_69] at h
    refine X.iload_5 (pc := 69) (by decide +kernel) ?_
    refine X.iconst (pc := 71) (i := 3) (v := 3) ic_3 (by decide +kernel) ?_
    rcases ifb_some h with ⟨hq13, h⟩ | ⟨hq13, h⟩
    · refine X.icmp_ge_t (pc := 72) (off := 61) (tgt := 133) hq13 rfl (by decide +kernel) ?_
      have j0 := Option.some.inj h
      subst j0
      refine X.fgt (o' := [none, none, some (.int v2), none, none, none, none, none]) ⟨rfl, trivial⟩ ?_
      exact hk
    · refine X.icmp_ge_f (pc := 72) (off := 61) (tgt := 133) hq13 rfl (by decide +kernel) ?_
      refine X.aload_0 (pc := 75) (by decide +kernel) ?_
      refine X.getI (pc := 76) (k := 10) fw_Mod_47 (by decide +kernel) (fun _ => rfl) hS ?_
      rcases ifb_some h with ⟨hq14, h⟩ | ⟨hq14, h⟩
      · refine X.if_le_t (pc := 79) (off := 54) (tgt := 133) hq14 rfl (by decide +kernel) ?_
        have j0 := Option.some.inj h
        subst j0
        refine X.fgt (o' := [none, none, some (.int v2), none, none, none, none, none]) ⟨rfl, trivial⟩ ?_
        exact hk
      · refine X.if_le_f (pc := 79) (off := 54) (tgt := 133) hq14 rfl (by decide +kernel) ?_
        refine X.aload_0 (pc := 82) (by decide +kernel) ?_
        refine X.aload_0 (pc := 83) (by decide +kernel) ?_
        refine X.getI (pc := 84) (k := 7) fw_Mod_204 (by decide +kernel) (fun _ => rfl) hS ?_
        refine X.aload_0 (pc := 87) (by decide +kernel) ?_
        refine X.getI (pc := 88) (k := 8) fw_Mod_207 (by decide +kernel) (fun _ => rfl) hS ?_
        refine X.aload_0 (pc := 91) (by decide +kernel) ?_
        refine X.getI (pc := 92) (k := 10) fw_Mod_47 (by decide +kernel) (fun _ => rfl) hS ?_
        refine X.iload_5 (pc := 95) (by decide +kernel) ?_
        refine X.aload_0 (pc := 97) (by decide +kernel) ?_
        obtain ⟨b15, hb15, h⟩ := bnd1_some h
        refine X.getR (pc := 98) (k := 28) fw_Mod_84 (by decide +kernel) (fun _ => rfl) hS hb15 ?_
        obtain ⟨x16, hv17, h⟩ := bnd1_some h
        refine X.callVl (pc := 101) (nc := 0) (ns := 0) (c_Mod_comesOf hE (dle hd (Nat.le_of_ble_eq_true rfl)) hS hv17) cv_Mod_310 (by decide +kernel) hS ⟨by decide, rfl⟩ (ddd hd (Nat.le_of_ble_eq_true rfl)) rfl (Nat.le_of_ble_eq_true rfl) rfl rfl ?_
        refine X.lstore_6 (pc := 104) (by decide +kernel) (by decide) rfl ?_
        refine X.lload_6 (pc := 106) (by decide +kernel) ?_
        refine X.lload_3 (pc := 108) (by decide +kernel) ?_
        refine X.lcmp (pc := 109) (by decide +kernel) ?_
        obtain ⟨y19, hr20, h⟩ := bnd1_some h
        have hj21 : X E y_Mod_should b_Mod_should 8 (some .int) tg d 0 0 119 [some (.ref (e_b E + v0)), none, none, some (.long v3), none, some (.int v5), some (.long x16), none] [.int y19] S I L R n K := by
          refine X.istore_2 (pc := 119) (by decide +kernel) (by decide) rfl ?_
          refine X.lload_3 (pc := 120) (by decide +kernel) ?_
          refine X.lload_6 (pc := 121) (by decide +kernel) ?_
          obtain ⟨x22, hv23, h⟩ := bnd1_some h
          refine X.callSl (pc := 123) (nc := 0) (ns := 0) (c_JMath_max_JJ hE (dle hd (Nat.le_of_ble_eq_true rfl)) hv23) cv_Mod_314 (by decide +kernel) (ddd hd (Nat.le_of_ble_eq_true rfl)) rfl (Nat.le_of_ble_eq_true rfl) rfl rfl ?_
          refine X.lstore_3 (pc := 126) (by decide +kernel) (by decide) rfl ?_
          refine X.iinc_5 (pc := 127) (z := 1) (v := 1) ic_1 (by decide +kernel) (by decide) rfl ?_
          refine X.goto (pc := 130) (off := (-61)) (tgt := 69) (by decide +kernel) rfl ?_
          refine X.fgt (o' := [some (.ref (e_b E + v0)), none, some (.int y19), some (.long x22), none, some (.int (v5 + 1)), none, none]) ⟨rfl, ⟨rfl, ⟨rfl, ⟨rfl, trivial⟩⟩⟩⟩ ?_
          exact ih hS h hk
        have h := hr20
        rcases ifb_some h with ⟨hq18, h⟩ | ⟨hq18, h⟩
        · refine X.if_le_t (pc := 110) (off := 8) (tgt := 118) hq18 rfl (by decide +kernel) ?_
          refine X.iload_2 (pc := 118) (by decide +kernel) ?_
          have j0 := Option.some.inj h
          subst j0
          refine X.fgt (o' := [some (.ref (e_b E + v0)), none, none, some (.long v3), none, some (.int v5), some (.long x16), none]) ⟨rfl, ⟨rfl, ⟨rfl, ⟨rfl, trivial⟩⟩⟩⟩ ?_
          exact hj21
        · refine X.if_le_f (pc := 110) (off := 8) (tgt := 118) hq18 rfl (by decide +kernel) ?_
          refine X.iload_5 (pc := 113) (by decide +kernel) ?_
          refine X.goto (pc := 115) (off := 4) (tgt := 119) (by decide +kernel) rfl ?_
          have j0 := Option.some.inj h
          subst j0
          refine X.fgt (o' := [some (.ref (e_b E + v0)), none, none, some (.long v3), none, some (.int v5), some (.long x16), none]) ⟨rfl, ⟨rfl, ⟨rfl, ⟨rfl, trivial⟩⟩⟩⟩ ?_
          exact hj21
set_option maxRecDepth 100000 in
noncomputable def f_Mod_should (g : Nat) (S : MS) (R : MR) (I : MI) (L : ML) (t : Nat) (p1 : Int32) : Option (Int32 × MI × ML) :=
  lt (wI I t 0 0) fun (I1 : MI) =>
  bnd1 (f_Mod_in (Int32.toInt64 p1) 1 8) fun x2 =>
  ifb (x2 = 0)
    (some ((-1), I1, L))
    (bnd1 (f_Mod_isEnd S R I1 t (I1 t 7)) fun x5 =>
    ifb (x5 = 0)
      (bnd1 (f_Mod_works g S R I1 L t (p1 - 1) 0 1) fun L8 =>
      bnd1 (R t 28) fun b10 =>
      bnd1 (f_Mod_comesOf g S R I1 L8 t (I1 t 7) (I1 t 8) (I1 t 10) 3 b10) fun x11 =>
      bnd1 (l_Mod_should_69 g S R I1 L8 t g 3 x11 0) fun x24 =>
      some (x24, I1, L8))
      (some ((-2), I1, L)))
set_option maxRecDepth 100000 in
set_option maxHeartbeats 4000000 in
theorem c_Mod_should {E : Env} (hE : OKE E) {tg : Bool} {d : Nat} (hd : 5 ≤ d) {g : Nat} {S : MS} {I : MI} {L : ML} {R : MR} {n : Nat} {t : Nat} {p1 : Int32} {v : Int32} {I' : MI} {L' : ML} (hS : (S t).1 = 12) (h : f_Mod_should g S R I L t p1 = some (v, I', L')) : C E y_Mod_should b_Mod_should 8 (some .int) tg d 0 0 [.ref (e_b E + t), .int p1] S I L R n (Kq (some (.int v)) S I' L' R n) := by
  refine C.of (o := [some (.ref (e_b E + t)), some (.int p1), none, none, none, none, none, none]) (by decide) rfl (Nat.le_of_ble_eq_true rfl) ?_
  rw [f_Mod_should] at h
  refine X.aload_0 (pc := 0) (by decide +kernel) ?_
  refine X.iconst (pc := 1) (i := 0) (v := 0) ic_0 (by decide +kernel) ?_
  refine X.putI (pc := 2) (k := 0) fw_Mod_3 (by decide +kernel) rfl rfl hS ?_
  refine X.nameMI (fun I1 hI1 => ?_)
  have h := lt_at hI1 h
  refine X.iload_1 (pc := 5) (by decide +kernel) ?_
  refine X.i2l (pc := 6) (by decide +kernel) ?_
  refine X.lconst (pc := 7) (i := 1) (v := 1) rfl (by decide +kernel) ?_
  refine X.ldc2 (pc := 8) (x := 324) (v := 8) ld_Mod_324 (by decide +kernel) ?_
  obtain ⟨x2, hv3, h⟩ := bnd1_some h
  refine X.callSi (pc := 11) (nc := 0) (ns := 0) (c_Mod_in hE (dle hd (Nat.le_of_ble_eq_true rfl)) hv3) cv_Mod_151 (by decide +kernel) (ddd hd (Nat.le_of_ble_eq_true rfl)) rfl (Nat.le_of_ble_eq_true rfl) rfl rfl ?_
  rcases ifb_some h with ⟨hq4, h⟩ | ⟨hq4, h⟩
  · refine X.if_ne_f (pc := 14) (off := 5) (tgt := 19) hq4 rfl (by decide +kernel) ?_
    refine X.iconst (pc := 17) (i := (-1)) (v := (-1)) ic_m1 (by decide +kernel) ?_
    have j0 := Option.some.inj h
    obtain ⟨i0, j1⟩ := Prod.mk.inj j0
    obtain ⟨i1, j2⟩ := Prod.mk.inj j1
    subst i0
    subst i1
    subst j2
    exact X.ireturn (pc := 18) (by decide +kernel) ⟨_, rfl, rfl⟩ ⟨rfl, rfl, rfl, rfl, rfl, rfl⟩
  · refine X.if_ne_t (pc := 14) (off := 5) (tgt := 19) hq4 rfl (by decide +kernel) ?_
    refine X.aload_0 (pc := 19) (by decide +kernel) ?_
    refine X.aload_0 (pc := 20) (by decide +kernel) ?_
    refine X.getI (pc := 21) (k := 7) fw_Mod_204 (by decide +kernel) (fun _ => rfl) hS ?_
    obtain ⟨x5, hv6, h⟩ := bnd1_some h
    refine X.callVi (pc := 24) (nc := 0) (ns := 0) (c_Mod_isEnd hE (dle hd (Nat.le_of_ble_eq_true rfl)) hS hv6) cv_Mod_264 (by decide +kernel) hS ⟨by decide, rfl⟩ (ddd hd (Nat.le_of_ble_eq_true rfl)) rfl (Nat.le_of_ble_eq_true rfl) rfl rfl ?_
    rcases ifb_some h with ⟨hq7, h⟩ | ⟨hq7, h⟩
    · refine X.if_eq_t (pc := 27) (off := 6) (tgt := 33) hq7 rfl (by decide +kernel) ?_
      refine X.aload_0 (pc := 33) (by decide +kernel) ?_
      refine X.iload_1 (pc := 34) (by decide +kernel) ?_
      refine X.iconst (pc := 35) (i := 1) (v := 1) ic_1 (by decide +kernel) ?_
      refine X.isub (pc := 36) (by decide +kernel) ?_
      refine X.iconst (pc := 37) (i := 0) (v := 0) ic_0 (by decide +kernel) ?_
      refine X.iconst (pc := 38) (i := 1) (v := 1) ic_1 (by decide +kernel) ?_
      obtain ⟨L8, hv9, h⟩ := bnd1_some h
      refine X.callVv (pc := 39) (nc := 0) (ns := 0) (c_Mod_works hE (dle hd (Nat.le_of_ble_eq_true rfl)) hS hv9) cv_Mod_329 (by decide +kernel) hS ⟨by decide, rfl⟩ (ddd hd (Nat.le_of_ble_eq_true rfl)) rfl (Nat.le_of_ble_eq_true rfl) rfl rfl ?_
      refine X.iconst (pc := 42) (i := 3) (v := 3) ic_3 (by decide +kernel) ?_
      refine X.istore_2 (pc := 43) (by decide +kernel) (by decide) rfl ?_
      refine X.aload_0 (pc := 44) (by decide +kernel) ?_
      refine X.aload_0 (pc := 45) (by decide +kernel) ?_
      refine X.getI (pc := 46) (k := 7) fw_Mod_204 (by decide +kernel) (fun _ => rfl) hS ?_
      refine X.aload_0 (pc := 49) (by decide +kernel) ?_
      refine X.getI (pc := 50) (k := 8) fw_Mod_207 (by decide +kernel) (fun _ => rfl) hS ?_
      refine X.aload_0 (pc := 53) (by decide +kernel) ?_
      refine X.getI (pc := 54) (k := 10) fw_Mod_47 (by decide +kernel) (fun _ => rfl) hS ?_
      refine X.iconst (pc := 57) (i := 3) (v := 3) ic_3 (by decide +kernel) ?_
      refine X.aload_0 (pc := 58) (by decide +kernel) ?_
      obtain ⟨b10, hb10, h⟩ := bnd1_some h
      refine X.getR (pc := 59) (k := 28) fw_Mod_84 (by decide +kernel) (fun _ => rfl) hS hb10 ?_
      obtain ⟨x11, hv12, h⟩ := bnd1_some h
      refine X.callVl (pc := 62) (nc := 0) (ns := 0) (c_Mod_comesOf hE (dle hd (Nat.le_of_ble_eq_true rfl)) hS hv12) cv_Mod_310 (by decide +kernel) hS ⟨by decide, rfl⟩ (ddd hd (Nat.le_of_ble_eq_true rfl)) rfl (Nat.le_of_ble_eq_true rfl) rfl rfl ?_
      refine X.lstore_3 (pc := 65) (by decide +kernel) (by decide) rfl ?_
      refine X.iconst (pc := 66) (i := 0) (v := 0) ic_0 (by decide +kernel) ?_
      refine X.istore_5 (pc := 67) (by decide +kernel) (by decide) rfl ?_
      obtain ⟨x24, hv25, h⟩ := bnd1_some h
      refine X.fgt (o' := [some (.ref (e_b E + t)), none, some (.int 3), some (.long x11), none, some (.int 0), none, none]) ⟨rfl, ⟨rfl, ⟨rfl, ⟨rfl, trivial⟩⟩⟩⟩ ?_
      refine xl_Mod_should_69 hE hd hS hv25 ?_
      refine X.iload_2 (pc := 133) (by decide +kernel) ?_
      have j0 := Option.some.inj h
      obtain ⟨i0, j1⟩ := Prod.mk.inj j0
      obtain ⟨i1, j2⟩ := Prod.mk.inj j1
      subst i0
      subst i1
      subst j2
      exact X.ireturn (pc := 134) (by decide +kernel) ⟨_, rfl, rfl⟩ ⟨rfl, rfl, rfl, rfl, rfl, rfl⟩
    · refine X.if_eq_f (pc := 27) (off := 6) (tgt := 33) hq7 rfl (by decide +kernel) ?_
      refine X.bipush (pc := 30) (i := (-2)) (v := (-2)) bp_m2 (by decide +kernel) ?_
      have j0 := Option.some.inj h
      obtain ⟨i0, j1⟩ := Prod.mk.inj j0
      obtain ⟨i1, j2⟩ := Prod.mk.inj j1
      subst i0
      subst i1
      subst j2
      exact X.ireturn (pc := 32) (by decide +kernel) ⟨_, rfl, rfl⟩ ⟨rfl, rfl, rfl, rfl, rfl, rfl⟩
set_option maxRecDepth 100000 in
noncomputable def f_Mod_safest (g : Nat) (S : MS) (R : MR) (I : MI) (L : ML) (t : Nat) (p1 : Int32) : Option (Int32 × MI × ML) :=
  lt (wI I t 0 0) fun (I1 : MI) =>
  bnd1 (f_Mod_areSteps p1) fun x2 =>
  ifb (x2 = 0)
    (some ((-1), I1, L))
    (bnd1 (f_Mod_works g S R I1 L t p1 1 1) fun L5 =>
    lt (wI I1 t 1 0) fun (I7 : MI) =>
    bnd1 (f_Mod_chanceNow S R I7 L5 t (I7 t 10)) fun x8 =>
    bnd1 (f_Mod_whole g p1) fun x10 =>
    bnd2 (f_Mod_entersFraction S R I7 L5 t x8 x10) fun I12 L13 =>
    some (0, I12, L13))
set_option maxRecDepth 100000 in
set_option maxHeartbeats 4000000 in
theorem c_Mod_safest {E : Env} (hE : OKE E) {tg : Bool} {d : Nat} (hd : 203 ≤ d) {g : Nat} {S : MS} {I : MI} {L : ML} {R : MR} {n : Nat} {t : Nat} {p1 : Int32} {v : Int32} {I' : MI} {L' : ML} (hS : (S t).1 = 12) (h : f_Mod_safest g S R I L t p1 = some (v, I', L')) : C E y_Mod_safest b_Mod_safest 2 (some .int) tg d 0 0 [.ref (e_b E + t), .int p1] S I L R n (Kq (some (.int v)) S I' L' R n) := by
  refine C.of (o := [some (.ref (e_b E + t)), some (.int p1)]) (by decide) rfl (Nat.le_of_ble_eq_true rfl) ?_
  rw [f_Mod_safest] at h
  refine X.aload_0 (pc := 0) (by decide +kernel) ?_
  refine X.iconst (pc := 1) (i := 0) (v := 0) ic_0 (by decide +kernel) ?_
  refine X.putI (pc := 2) (k := 0) fw_Mod_3 (by decide +kernel) rfl rfl hS ?_
  refine X.nameMI (fun I1 hI1 => ?_)
  have h := lt_at hI1 h
  refine X.iload_1 (pc := 5) (by decide +kernel) ?_
  obtain ⟨x2, hv3, h⟩ := bnd1_some h
  refine X.callSi (pc := 6) (nc := 0) (ns := 0) (c_Mod_areSteps hE (dle hd (Nat.le_of_ble_eq_true rfl)) hv3) cv_Mod_326 (by decide +kernel) (ddd hd (Nat.le_of_ble_eq_true rfl)) rfl (Nat.le_of_ble_eq_true rfl) rfl rfl ?_
  rcases ifb_some h with ⟨hq4, h⟩ | ⟨hq4, h⟩
  · refine X.if_ne_f (pc := 9) (off := 5) (tgt := 14) hq4 rfl (by decide +kernel) ?_
    refine X.iconst (pc := 12) (i := (-1)) (v := (-1)) ic_m1 (by decide +kernel) ?_
    have j0 := Option.some.inj h
    obtain ⟨i0, j1⟩ := Prod.mk.inj j0
    obtain ⟨i1, j2⟩ := Prod.mk.inj j1
    subst i0
    subst i1
    subst j2
    exact X.ireturn (pc := 13) (by decide +kernel) ⟨_, rfl, rfl⟩ ⟨rfl, rfl, rfl, rfl, rfl, rfl⟩
  · refine X.if_ne_t (pc := 9) (off := 5) (tgt := 14) hq4 rfl (by decide +kernel) ?_
    refine X.aload_0 (pc := 14) (by decide +kernel) ?_
    refine X.iload_1 (pc := 15) (by decide +kernel) ?_
    refine X.iconst (pc := 16) (i := 1) (v := 1) ic_1 (by decide +kernel) ?_
    refine X.iconst (pc := 17) (i := 1) (v := 1) ic_1 (by decide +kernel) ?_
    obtain ⟨L5, hv6, h⟩ := bnd1_some h
    refine X.callVv (pc := 18) (nc := 0) (ns := 0) (c_Mod_works hE (dle hd (Nat.le_of_ble_eq_true rfl)) hS hv6) cv_Mod_329 (by decide +kernel) hS ⟨by decide, rfl⟩ (ddd hd (Nat.le_of_ble_eq_true rfl)) rfl (Nat.le_of_ble_eq_true rfl) rfl rfl ?_
    refine X.aload_0 (pc := 21) (by decide +kernel) ?_
    refine X.iconst (pc := 22) (i := 0) (v := 0) ic_0 (by decide +kernel) ?_
    refine X.putI (pc := 23) (k := 1) fw_Mod_21 (by decide +kernel) rfl rfl hS ?_
    refine X.nameMI (fun I7 hI7 => ?_)
    have h := lt_at hI7 h
    refine X.aload_0 (pc := 26) (by decide +kernel) ?_
    refine X.aload_0 (pc := 27) (by decide +kernel) ?_
    refine X.aload_0 (pc := 28) (by decide +kernel) ?_
    refine X.getI (pc := 29) (k := 10) fw_Mod_47 (by decide +kernel) (fun _ => rfl) hS ?_
    obtain ⟨x8, hv9, h⟩ := bnd1_some h
    refine X.callVl (pc := 32) (nc := 0) (ns := 0) (c_Mod_chanceNow hE (dle hd (Nat.le_of_ble_eq_true rfl)) hS hv9) cv_Mod_333 (by decide +kernel) hS ⟨by decide, rfl⟩ (ddd hd (Nat.le_of_ble_eq_true rfl)) rfl (Nat.le_of_ble_eq_true rfl) rfl rfl ?_
    refine X.iload_1 (pc := 35) (by decide +kernel) ?_
    obtain ⟨x10, hv11, h⟩ := bnd1_some h
    refine X.callSl (pc := 36) (nc := 0) (ns := 0) (c_Mod_whole hE (dle hd (Nat.le_of_ble_eq_true rfl)) hv11) cv_Mod_337 (by decide +kernel) (ddd hd (Nat.le_of_ble_eq_true rfl)) rfl (Nat.le_of_ble_eq_true rfl) rfl rfl ?_
    obtain ⟨I12, L13, hv14, h⟩ := bnd2_some h
    refine X.callVv (pc := 39) (nc := 0) (ns := 0) (c_Mod_entersFraction hE (dle hd (Nat.le_of_ble_eq_true rfl)) hS hv14) cv_Mod_340 (by decide +kernel) hS ⟨by decide, rfl⟩ (ddd hd (Nat.le_of_ble_eq_true rfl)) rfl (Nat.le_of_ble_eq_true rfl) rfl rfl ?_
    refine X.iconst (pc := 42) (i := 0) (v := 0) ic_0 (by decide +kernel) ?_
    have j0 := Option.some.inj h
    obtain ⟨i0, j1⟩ := Prod.mk.inj j0
    obtain ⟨i1, j2⟩ := Prod.mk.inj j1
    subst i0
    subst i1
    subst j2
    exact X.ireturn (pc := 43) (by decide +kernel) ⟨_, rfl, rfl⟩ ⟨rfl, rfl, rfl, rfl, rfl, rfl⟩
set_option maxRecDepth 100000 in
noncomputable def l_Mod_perils_20 (g : Nat) (S : MS) (R : MR) (v0 : Nat) (v1 : Int32) : Nat → MI → Int32 → Option MI
  | 0, _, _ => none
  | f + 1, I, v2 =>
    ifb (v1 ≤ v2)
      (some I)
      (bnd2 (f_Mod_spreads g S R I v0 1) fun x8 I9 =>
      l_Mod_perils_20 g S R v0 v1 f I9 (v2 + 1))
set_option maxRecDepth 100000 in
set_option maxHeartbeats 4000000 in
theorem xl_Mod_perils_20 {E : Env} (hE : OKE E) {tg : Bool} {d : Nat} (hd : 3 ≤ d) {g : Nat} {S : MS} {L : ML} {R : MR} {n : Nat} {v0 : Nat} {v1 : Int32} {K : KT} :
    ∀ {f : Nat} {I : MI} {v2 : Int32} {I' : MI}, (S v0).1 = 12 → l_Mod_perils_20 g S R v0 v1 f I v2 = some I' → X E y_Mod_perils b_Mod_perils 3 (some .int) tg d 0 0 37 [some (.ref (e_b E + v0)), none, none] [] S I' L R n K → X E y_Mod_perils b_Mod_perils 3 (some .int) tg d 0 0 20 [some (.ref (e_b E + v0)), some (.int v1), some (.int v2)] [] S I L R n K := by
  intro f
  induction f with
  | zero =>
    intro I v2 I' hS h hk
    rw [l_Mod_perils_20] at h
    cases h
  | succ f ih =>
    intro I v2 I' hS h hk
    rw [l_Mod_perils_20] at h
    refine X.iload_2 (pc := 20) (by decide +kernel) ?_
    refine X.iload_1 (pc := 21) (by decide +kernel) ?_
    rcases ifb_some h with ⟨hq7, h⟩ | ⟨hq7, h⟩
    · refine X.icmp_ge_t (pc := 22) (off := 15) (tgt := 37) hq7 rfl (by decide +kernel) ?_
      have j0 := Option.some.inj h
      subst j0
      refine X.fgt (o' := [some (.ref (e_b E + v0)), none, none]) ⟨rfl, trivial⟩ ?_
      exact hk
    · refine X.icmp_ge_f (pc := 22) (off := 15) (tgt := 37) hq7 rfl (by decide +kernel) ?_
      refine X.aload_0 (pc := 25) (by decide +kernel) ?_
      refine X.iconst (pc := 26) (i := 1) (v := 1) ic_1 (by decide +kernel) ?_
      obtain ⟨x8, I9, hv10, h⟩ := bnd2_some h
      refine X.callVi (pc := 27) (nc := 0) (ns := 0) (c_Mod_spreads hE (dle hd (Nat.le_of_ble_eq_true rfl)) hS hv10) cv_Mod_295 (by decide +kernel) hS ⟨by decide, rfl⟩ (ddd hd (Nat.le_of_ble_eq_true rfl)) rfl (Nat.le_of_ble_eq_true rfl) rfl rfl ?_
      refine X.pop (pc := 30) (by decide +kernel) ?_
      refine X.iinc_2 (pc := 31) (z := 1) (v := 1) ic_1 (by decide +kernel) (by decide) rfl ?_
      refine X.goto (pc := 34) (off := (-14)) (tgt := 20) (by decide +kernel) rfl ?_
      exact ih hS h hk
set_option maxRecDepth 100000 in
noncomputable def f_Mod_perils (g : Nat) (S : MS) (R : MR) (I : MI) (L : ML) (t : Nat) (p1 : Int32) : Option (Int32 × MI × ML) :=
  lt (wI I t 0 0) fun (I1 : MI) =>
  bnd1 (f_Mod_areSteps p1) fun x2 =>
  ifb (x2 = 0)
    (some ((-1), I1, L))
    (bnd1 (f_Mod_seesHere g S R I1 t) fun I5 =>
    bnd1 (l_Mod_perils_20 g S R t p1 g I5 0) fun I11 =>
    bnd1 (f_Mod_isEnd S R I11 t (I11 t 7)) fun x13 =>
    ifb (x13 = 0)
      (bnd3 (f_Mod_tellsSeen g S R I11 L t 1) fun x16 I17 L18 =>
      some (x16, I17, L18))
      (lt (wI I11 t 1 0) fun (I20 : MI) =>
      bnd2 (f_Mod_enters S R I20 L t 0) fun I21 L22 =>
      bnd2 (f_Mod_enters S R I21 L22 t 0) fun I24 L25 =>
      some (0, I24, L25)))
set_option maxRecDepth 100000 in
set_option maxHeartbeats 4000000 in
theorem c_Mod_perils {E : Env} (hE : OKE E) {tg : Bool} {d : Nat} (hd : 3 ≤ d) {g : Nat} {S : MS} {I : MI} {L : ML} {R : MR} {n : Nat} {t : Nat} {p1 : Int32} {v : Int32} {I' : MI} {L' : ML} (hS : (S t).1 = 12) (h : f_Mod_perils g S R I L t p1 = some (v, I', L')) : C E y_Mod_perils b_Mod_perils 3 (some .int) tg d 0 0 [.ref (e_b E + t), .int p1] S I L R n (Kq (some (.int v)) S I' L' R n) := by
  refine C.of (o := [some (.ref (e_b E + t)), some (.int p1), none]) (by decide) rfl (Nat.le_of_ble_eq_true rfl) ?_
  rw [f_Mod_perils] at h
  refine X.aload_0 (pc := 0) (by decide +kernel) ?_
  refine X.iconst (pc := 1) (i := 0) (v := 0) ic_0 (by decide +kernel) ?_
  refine X.putI (pc := 2) (k := 0) fw_Mod_3 (by decide +kernel) rfl rfl hS ?_
  refine X.nameMI (fun I1 hI1 => ?_)
  have h := lt_at hI1 h
  refine X.iload_1 (pc := 5) (by decide +kernel) ?_
  obtain ⟨x2, hv3, h⟩ := bnd1_some h
  refine X.callSi (pc := 6) (nc := 0) (ns := 0) (c_Mod_areSteps hE (dle hd (Nat.le_of_ble_eq_true rfl)) hv3) cv_Mod_326 (by decide +kernel) (ddd hd (Nat.le_of_ble_eq_true rfl)) rfl (Nat.le_of_ble_eq_true rfl) rfl rfl ?_
  rcases ifb_some h with ⟨hq4, h⟩ | ⟨hq4, h⟩
  · refine X.if_ne_f (pc := 9) (off := 5) (tgt := 14) hq4 rfl (by decide +kernel) ?_
    refine X.iconst (pc := 12) (i := (-1)) (v := (-1)) ic_m1 (by decide +kernel) ?_
    have j0 := Option.some.inj h
    obtain ⟨i0, j1⟩ := Prod.mk.inj j0
    obtain ⟨i1, j2⟩ := Prod.mk.inj j1
    subst i0
    subst i1
    subst j2
    exact X.ireturn (pc := 13) (by decide +kernel) ⟨_, rfl, rfl⟩ ⟨rfl, rfl, rfl, rfl, rfl, rfl⟩
  · refine X.if_ne_t (pc := 9) (off := 5) (tgt := 14) hq4 rfl (by decide +kernel) ?_
    refine X.aload_0 (pc := 14) (by decide +kernel) ?_
    obtain ⟨I5, hv6, h⟩ := bnd1_some h
    refine X.callVv (pc := 15) (nc := 0) (ns := 0) (c_Mod_seesHere hE (dle hd (Nat.le_of_ble_eq_true rfl)) hS hv6) cv_Mod_292 (by decide +kernel) hS ⟨by decide, rfl⟩ (ddd hd (Nat.le_of_ble_eq_true rfl)) rfl (Nat.le_of_ble_eq_true rfl) rfl rfl ?_
    refine X.iconst (pc := 18) (i := 0) (v := 0) ic_0 (by decide +kernel) ?_
    refine X.istore_2 (pc := 19) (by decide +kernel) (by decide) rfl ?_
    obtain ⟨I11, hv12, h⟩ := bnd1_some h
    refine xl_Mod_perils_20 hE hd hS hv12 ?_
    refine X.aload_0 (pc := 37) (by decide +kernel) ?_
    refine X.aload_0 (pc := 38) (by decide +kernel) ?_
    refine X.getI (pc := 39) (k := 7) fw_Mod_204 (by decide +kernel) (fun _ => rfl) hS ?_
    obtain ⟨x13, hv14, h⟩ := bnd1_some h
    refine X.callVi (pc := 42) (nc := 0) (ns := 0) (c_Mod_isEnd hE (dle hd (Nat.le_of_ble_eq_true rfl)) hS hv14) cv_Mod_264 (by decide +kernel) hS ⟨by decide, rfl⟩ (ddd hd (Nat.le_of_ble_eq_true rfl)) rfl (Nat.le_of_ble_eq_true rfl) rfl rfl ?_
    rcases ifb_some h with ⟨hq15, h⟩ | ⟨hq15, h⟩
    · refine X.if_eq_t (pc := 45) (off := 20) (tgt := 65) hq15 rfl (by decide +kernel) ?_
      refine X.aload_0 (pc := 65) (by decide +kernel) ?_
      refine X.iconst (pc := 66) (i := 1) (v := 1) ic_1 (by decide +kernel) ?_
      obtain ⟨x16, I17, L18, hv19, h⟩ := bnd3_some h
      refine X.callVi (pc := 67) (nc := 0) (ns := 0) (c_Mod_tellsSeen hE (dle hd (Nat.le_of_ble_eq_true rfl)) hS hv19) cv_Mod_299 (by decide +kernel) hS ⟨by decide, rfl⟩ (ddd hd (Nat.le_of_ble_eq_true rfl)) rfl (Nat.le_of_ble_eq_true rfl) rfl rfl ?_
      have j0 := Option.some.inj h
      obtain ⟨i0, j1⟩ := Prod.mk.inj j0
      obtain ⟨i1, j2⟩ := Prod.mk.inj j1
      subst i0
      subst i1
      subst j2
      exact X.ireturn (pc := 70) (by decide +kernel) ⟨_, rfl, rfl⟩ ⟨rfl, rfl, rfl, rfl, rfl, rfl⟩
    · refine X.if_eq_f (pc := 45) (off := 20) (tgt := 65) hq15 rfl (by decide +kernel) ?_
      refine X.aload_0 (pc := 48) (by decide +kernel) ?_
      refine X.iconst (pc := 49) (i := 0) (v := 0) ic_0 (by decide +kernel) ?_
      refine X.putI (pc := 50) (k := 1) fw_Mod_21 (by decide +kernel) rfl rfl hS ?_
      refine X.nameMI (fun I20 hI20 => ?_)
      have h := lt_at hI20 h
      refine X.aload_0 (pc := 53) (by decide +kernel) ?_
      refine X.lconst (pc := 54) (i := 0) (v := 0) rfl (by decide +kernel) ?_
      obtain ⟨I21, L22, hv23, h⟩ := bnd2_some h
      refine X.callVv (pc := 55) (nc := 0) (ns := 0) (c_Mod_enters hE (dle hd (Nat.le_of_ble_eq_true rfl)) hS hv23) cv_Mod_24 (by decide +kernel) hS ⟨by decide, rfl⟩ (ddd hd (Nat.le_of_ble_eq_true rfl)) rfl (Nat.le_of_ble_eq_true rfl) rfl rfl ?_
      refine X.aload_0 (pc := 58) (by decide +kernel) ?_
      refine X.lconst (pc := 59) (i := 0) (v := 0) rfl (by decide +kernel) ?_
      obtain ⟨I24, L25, hv26, h⟩ := bnd2_some h
      refine X.callVv (pc := 60) (nc := 0) (ns := 0) (c_Mod_enters hE (dle hd (Nat.le_of_ble_eq_true rfl)) hS hv26) cv_Mod_24 (by decide +kernel) hS ⟨by decide, rfl⟩ (ddd hd (Nat.le_of_ble_eq_true rfl)) rfl (Nat.le_of_ble_eq_true rfl) rfl rfl ?_
      refine X.iconst (pc := 63) (i := 0) (v := 0) ic_0 (by decide +kernel) ?_
      have j0 := Option.some.inj h
      obtain ⟨i0, j1⟩ := Prod.mk.inj j0
      obtain ⟨i1, j2⟩ := Prod.mk.inj j1
      subst i0
      subst i1
      subst j2
      exact X.ireturn (pc := 64) (by decide +kernel) ⟨_, rfl, rfl⟩ ⟨rfl, rfl, rfl, rfl, rfl, rfl⟩
set_option maxRecDepth 100000 in
noncomputable def l_Mod_massOn_5 (S : MS) (R : MR) (L : ML) (v0 : Nat) (v1 : Int32) : Nat → Int64 → Int32 → Option Int64
  | 0, _, _ => none
  | f + 1, v2, v4 =>
    ifb (4 ≤ v4)
      (some v2)
      (bnd1 (R v0 30) fun b2 =>
      lt ((4 * v1) + v4) fun (x3 : Int32) =>
      asrt ((S b2).1 = 21) <|
      asrt (vp_in x3 (S b2).2) <|
      lt (v2 + (L b2 (Int32.toNatClampNeg x3))) fun (x6 : Int64) =>
      l_Mod_massOn_5 S R L v0 v1 f x6 (v4 + 1))
set_option maxRecDepth 100000 in
set_option maxHeartbeats 4000000 in
theorem xl_Mod_massOn_5 {E : Env} (hE : OKE E) {tg : Bool} {d : Nat} (hd : 0 ≤ d) {S : MS} {I : MI} {L : ML} {R : MR} {n : Nat} {v0 : Nat} {v1 : Int32} {K : KT} :
    ∀ {f : Nat}  {v2 : Int64} {v4 : Int32} {o2 : Int64}, (S v0).1 = 12 → l_Mod_massOn_5 S R L v0 v1 f v2 v4 = some o2 → X E y_Mod_massOn b_Mod_massOn 5 (some .long) tg d 0 0 31 [none, none, some (.long o2), none, none] [] S I L R n K → X E y_Mod_massOn b_Mod_massOn 5 (some .long) tg d 0 0 5 [some (.ref (e_b E + v0)), some (.int v1), some (.long v2), none, some (.int v4)] [] S I L R n K := by
  intro f
  induction f with
  | zero =>
    intro v2 v4 o2 hS h hk
    rw [l_Mod_massOn_5] at h
    cases h
  | succ f ih =>
    intro v2 v4 o2 hS h hk
    rw [l_Mod_massOn_5] at h
    refine X.iload_4 (pc := 5) (by decide +kernel) ?_
    refine X.iconst (pc := 7) (i := 4) (v := 4) ic_4 (by decide +kernel) ?_
    rcases ifb_some h with ⟨hq1, h⟩ | ⟨hq1, h⟩
    · refine X.icmp_ge_t (pc := 8) (off := 23) (tgt := 31) hq1 rfl (by decide +kernel) ?_
      have j0 := Option.some.inj h
      subst j0
      refine X.fgt (o' := [none, none, some (.long v2), none, none]) ⟨rfl, trivial⟩ ?_
      exact hk
    · refine X.icmp_ge_f (pc := 8) (off := 23) (tgt := 31) hq1 rfl (by decide +kernel) ?_
      refine X.lload_2 (pc := 11) (by decide +kernel) ?_
      refine X.aload_0 (pc := 12) (by decide +kernel) ?_
      obtain ⟨b2, hb2, h⟩ := bnd1_some h
      refine X.getR (pc := 13) (k := 30) fw_Mod_90 (by decide +kernel) (fun _ => rfl) hS hb2 ?_
      refine X.iconst (pc := 16) (i := 4) (v := 4) ic_4 (by decide +kernel) ?_
      refine X.iload_1 (pc := 17) (by decide +kernel) ?_
      refine X.imul (pc := 18) (by decide +kernel) ?_
      refine X.iload_4 (pc := 19) (by decide +kernel) ?_
      refine X.iadd (pc := 21) (by decide +kernel) ?_
      refine X.nameI (fun x3 hx3 => ?_)
      have h := lt_at hx3 h
      obtain ⟨hc5, h⟩ := asrt_some h
      obtain ⟨hi4, h⟩ := asrt_some h
      refine X.laload (pc := 22) (by decide +kernel) hc5 hi4 ?_
      refine X.ladd (pc := 23) (by decide +kernel) ?_
      refine X.nameL (fun x6 hx6 => ?_)
      have h := lt_at hx6 h
      refine X.lstore_2 (pc := 24) (by decide +kernel) (by decide) rfl ?_
      refine X.iinc_4 (pc := 25) (z := 1) (v := 1) ic_1 (by decide +kernel) (by decide) rfl ?_
      refine X.goto (pc := 28) (off := (-23)) (tgt := 5) (by decide +kernel) rfl ?_
      exact ih hS h hk
set_option maxRecDepth 100000 in
noncomputable def f_Mod_massOn (g : Nat) (S : MS) (R : MR) (L : ML) (t : Nat) (p1 : Int32) : Option Int64 :=
  bnd1 (l_Mod_massOn_5 S R L t p1 g 0 0) fun x7 =>
  some x7
set_option maxRecDepth 100000 in
set_option maxHeartbeats 4000000 in
theorem c_Mod_massOn {E : Env} (hE : OKE E) {tg : Bool} {d : Nat} (hd : 0 ≤ d) {g : Nat} {S : MS} {I : MI} {L : ML} {R : MR} {n : Nat} {t : Nat} {p1 : Int32} {v : Int64} (hS : (S t).1 = 12) (h : f_Mod_massOn g S R L t p1 = some v) : C E y_Mod_massOn b_Mod_massOn 5 (some .long) tg d 0 0 [.ref (e_b E + t), .int p1] S I L R n (Kq (some (.long v)) S I L R n) := by
  refine C.of (o := [some (.ref (e_b E + t)), some (.int p1), none, none, none]) (by decide) rfl (Nat.le_of_ble_eq_true rfl) ?_
  rw [f_Mod_massOn] at h
  refine X.lconst (pc := 0) (i := 0) (v := 0) rfl (by decide +kernel) ?_
  refine X.lstore_2 (pc := 1) (by decide +kernel) (by decide) rfl ?_
  refine X.iconst (pc := 2) (i := 0) (v := 0) ic_0 (by decide +kernel) ?_
  refine X.istore_4 (pc := 3) (by decide +kernel) (by decide) rfl ?_
  obtain ⟨x7, hv8, h⟩ := bnd1_some h
  refine xl_Mod_massOn_5 hE hd hS hv8 ?_
  refine X.lload_2 (pc := 31) (by decide +kernel) ?_
  have j0 := Option.some.inj h
  subst j0
  exact X.lreturn (pc := 32) (by decide +kernel) rfl ⟨rfl, rfl, rfl, rfl, rfl, rfl⟩
set_option maxRecDepth 100000 in
noncomputable def l_Mod_goesOn_2 (S : MS) (R : MR) (v0 : Nat) : Nat → ML → Int32 → Option ML
  | 0, _, _ => none
  | f + 1, L, v1 =>
    ifb (144 ≤ v1)
      (some L)
      (bnd1 (R v0 31) fun b2 =>
      asrt ((S b2).1 = 21) <|
      asrt (vp_in v1 (S b2).2) <|
      lt (wL L b2 (Int32.toNatClampNeg v1) 0) fun (L5 : ML) =>
      l_Mod_goesOn_2 S R v0 f L5 (v1 + 1))
set_option maxRecDepth 100000 in
set_option maxHeartbeats 4000000 in
theorem xl_Mod_goesOn_2 {E : Env} (hE : OKE E) {tg : Bool} {d : Nat} (hd : 2 ≤ d) {S : MS} {I : MI} {R : MR} {n : Nat} {v0 : Nat} {K : KT} :
    ∀ {f : Nat} {L : ML} {v1 : Int32} {L' : ML}, (S v0).1 = 12 → l_Mod_goesOn_2 S R v0 f L v1 = some L' → X E y_Mod_goesOn b_Mod_goesOn 7 none tg d 0 0 22 [some (.ref (e_b E + v0)), none, none, none, none, none, none] [] S I L' R n K → X E y_Mod_goesOn b_Mod_goesOn 7 none tg d 0 0 2 [some (.ref (e_b E + v0)), some (.int v1), none, none, none, none, none] [] S I L R n K := by
  intro f
  induction f with
  | zero =>
    intro L v1 L' hS h hk
    rw [l_Mod_goesOn_2] at h
    cases h
  | succ f ih =>
    intro L v1 L' hS h hk
    rw [l_Mod_goesOn_2] at h
    refine X.iload_1 (pc := 2) (by decide +kernel) ?_
    refine X.sipush (pc := 3) (i := 144) (v := 144) sp_144 (by decide +kernel) ?_
    rcases ifb_some h with ⟨hq1, h⟩ | ⟨hq1, h⟩
    · refine X.icmp_ge_t (pc := 6) (off := 16) (tgt := 22) hq1 rfl (by decide +kernel) ?_
      have j0 := Option.some.inj h
      subst j0
      refine X.fgt (o' := [some (.ref (e_b E + v0)), none, none, none, none, none, none]) ⟨rfl, trivial⟩ ?_
      exact hk
    · refine X.icmp_ge_f (pc := 6) (off := 16) (tgt := 22) hq1 rfl (by decide +kernel) ?_
      refine X.aload_0 (pc := 9) (by decide +kernel) ?_
      obtain ⟨b2, hb2, h⟩ := bnd1_some h
      refine X.getR (pc := 10) (k := 31) fw_Mod_93 (by decide +kernel) (fun _ => rfl) hS hb2 ?_
      refine X.iload_1 (pc := 13) (by decide +kernel) ?_
      refine X.lconst (pc := 14) (i := 0) (v := 0) rfl (by decide +kernel) ?_
      obtain ⟨hc3, h⟩ := asrt_some h
      obtain ⟨hi4, h⟩ := asrt_some h
      refine X.lastore (pc := 15) (by decide +kernel) hc3 hi4 ?_
      refine X.nameML (fun L5 hL5 => ?_)
      have h := lt_at hL5 h
      refine X.iinc_1 (pc := 16) (z := 1) (v := 1) ic_1 (by decide +kernel) (by decide) rfl ?_
      refine X.goto (pc := 19) (off := (-17)) (tgt := 2) (by decide +kernel) rfl ?_
      exact ih hS h hk
set_option maxRecDepth 100000 in
noncomputable def l_Mod_goesOn_82 (S : MS) (R : MR) (I : MI) (v0 : Nat) (v1 : Int32) (v2 : Int32) (v3 : Int64) : Nat → ML → Int32 → Option ML
  | 0, _, _ => none
  | f + 1, L, v5 =>
    ifb (3 ≤ v5)
      (some L)
      (bnd1 (f_Mod_turned v2 v5) fun x24 =>
      bnd1 (R v0 31) fun b26 =>
      bnd1 (f_Mod_cellBy S R I v0 v1 x24) fun x27 =>
      lt ((4 * x27) + x24) fun (x29 : Int32) =>
      asrt ((S b26).1 = 21) <|
      asrt (vp_in x29 (S b26).2) <|
      bnd1 (f_Mod_partOf S R I v0 v5 3) fun x32 =>
      lt ((L b26 (Int32.toNatClampNeg x29)) + ((Int32.toInt64 x32) * v3)) fun (x34 : Int64) =>
      asrt (vp_in x29 (S b26).2) <|
      lt (wL L b26 (Int32.toNatClampNeg x29) x34) fun (L36 : ML) =>
      l_Mod_goesOn_82 S R I v0 v1 v2 v3 f L36 (v5 + 1))
set_option maxRecDepth 100000 in
set_option maxHeartbeats 4000000 in
theorem xl_Mod_goesOn_82 {E : Env} (hE : OKE E) {tg : Bool} {d : Nat} (hd : 2 ≤ d) {S : MS} {I : MI} {R : MR} {n : Nat} {v0 : Nat} {v1 : Int32} {v2 : Int32} {v3 : Int64} {K : KT} :
    ∀ {f : Nat} {L : ML} {v5 : Int32} {L' : ML}, (S v0).1 = 12 → l_Mod_goesOn_82 S R I v0 v1 v2 v3 f L v5 = some L' → X E y_Mod_goesOn b_Mod_goesOn 7 none tg d 0 0 132 [some (.ref (e_b E + v0)), some (.int v1), some (.int v2), none, none, none, none] [] S I L' R n K → X E y_Mod_goesOn b_Mod_goesOn 7 none tg d 0 0 82 [some (.ref (e_b E + v0)), some (.int v1), some (.int v2), some (.long v3), none, some (.int v5), none] [] S I L R n K := by
  intro f
  induction f with
  | zero =>
    intro L v5 L' hS h hk
    rw [l_Mod_goesOn_82] at h
    cases h
  | succ f ih =>
    intro L v5 L' hS h hk
    rw [l_Mod_goesOn_82] at h
    refine X.iload_5 (pc := 82) (by decide +kernel) ?_
    refine X.iconst (pc := 84) (i := 3) (v := 3) ic_3 (by decide +kernel) ?_
    rcases ifb_some h with ⟨hq23, h⟩ | ⟨hq23, h⟩
    · refine X.icmp_ge_t (pc := 85) (off := 47) (tgt := 132) hq23 rfl (by decide +kernel) ?_
      have j0 := Option.some.inj h
      subst j0
      refine X.fgt (o' := [some (.ref (e_b E + v0)), some (.int v1), some (.int v2), none, none, none, none]) ⟨rfl, ⟨rfl, ⟨rfl, trivial⟩⟩⟩ ?_
      exact hk
    · refine X.icmp_ge_f (pc := 85) (off := 47) (tgt := 132) hq23 rfl (by decide +kernel) ?_
      refine X.iload_2 (pc := 88) (by decide +kernel) ?_
      refine X.iload_5 (pc := 89) (by decide +kernel) ?_
      obtain ⟨x24, hv25, h⟩ := bnd1_some h
      refine X.callSi (pc := 91) (nc := 0) (ns := 0) (c_Mod_turned hE (dle hd (Nat.le_of_ble_eq_true rfl)) hv25) cv_Mod_249 (by decide +kernel) (ddd hd (Nat.le_of_ble_eq_true rfl)) rfl (Nat.le_of_ble_eq_true rfl) rfl rfl ?_
      refine X.istore_6 (pc := 94) (by decide +kernel) (by decide) rfl ?_
      refine X.aload_0 (pc := 96) (by decide +kernel) ?_
      obtain ⟨b26, hb26, h⟩ := bnd1_some h
      refine X.getR (pc := 97) (k := 31) fw_Mod_93 (by decide +kernel) (fun _ => rfl) hS hb26 ?_
      refine X.iconst (pc := 100) (i := 4) (v := 4) ic_4 (by decide +kernel) ?_
      refine X.aload_0 (pc := 101) (by decide +kernel) ?_
      refine X.iload_1 (pc := 102) (by decide +kernel) ?_
      refine X.iload_6 (pc := 103) (by decide +kernel) ?_
      obtain ⟨x27, hv28, h⟩ := bnd1_some h
      refine X.callVi (pc := 105) (nc := 0) (ns := 0) (c_Mod_cellBy hE (dle hd (Nat.le_of_ble_eq_true rfl)) hS hv28) cv_Mod_252 (by decide +kernel) hS ⟨by decide, rfl⟩ (ddd hd (Nat.le_of_ble_eq_true rfl)) rfl (Nat.le_of_ble_eq_true rfl) rfl rfl ?_
      refine X.imul (pc := 108) (by decide +kernel) ?_
      refine X.iload_6 (pc := 109) (by decide +kernel) ?_
      refine X.iadd (pc := 111) (by decide +kernel) ?_
      refine X.nameI (fun x29 hx29 => ?_)
      have h := lt_at hx29 h
      refine X.dup2ir (pc := 112) (by decide +kernel) ?_
      obtain ⟨hc31, h⟩ := asrt_some h
      obtain ⟨hi30, h⟩ := asrt_some h
      refine X.laload (pc := 113) (by decide +kernel) hc31 hi30 ?_
      refine X.aload_0 (pc := 114) (by decide +kernel) ?_
      refine X.iload_5 (pc := 115) (by decide +kernel) ?_
      refine X.iconst (pc := 117) (i := 3) (v := 3) ic_3 (by decide +kernel) ?_
      obtain ⟨x32, hv33, h⟩ := bnd1_some h
      refine X.callVi (pc := 118) (nc := 0) (ns := 0) (c_Mod_partOf hE (dle hd (Nat.le_of_ble_eq_true rfl)) hS hv33) cv_Mod_307 (by decide +kernel) hS ⟨by decide, rfl⟩ (ddd hd (Nat.le_of_ble_eq_true rfl)) rfl (Nat.le_of_ble_eq_true rfl) rfl rfl ?_
      refine X.i2l (pc := 121) (by decide +kernel) ?_
      refine X.lload_3 (pc := 122) (by decide +kernel) ?_
      refine X.lmul (pc := 123) (by decide +kernel) ?_
      refine X.ladd (pc := 124) (by decide +kernel) ?_
      refine X.nameL (fun x34 hx34 => ?_)
      have h := lt_at hx34 h
      obtain ⟨hi35, h⟩ := asrt_some h
      refine X.lastore (pc := 125) (by decide +kernel) hc31 hi35 ?_
      refine X.nameML (fun L36 hL36 => ?_)
      have h := lt_at hL36 h
      refine X.iinc_5 (pc := 126) (z := 1) (v := 1) ic_1 (by decide +kernel) (by decide) rfl ?_
      refine X.goto (pc := 129) (off := (-47)) (tgt := 82) (by decide +kernel) rfl ?_
      refine X.fgt (o' := [some (.ref (e_b E + v0)), some (.int v1), some (.int v2), some (.long v3), none, some (.int (v5 + 1)), none]) ⟨rfl, ⟨rfl, ⟨rfl, ⟨rfl, ⟨rfl, trivial⟩⟩⟩⟩⟩ ?_
      exact ih hS h hk
set_option maxRecDepth 100000 in
noncomputable def l_Mod_goesOn_34 (g : Nat) (S : MS) (R : MR) (I : MI) (v0 : Nat) (v1 : Int32) : Nat → ML → Int32 → Option ML
  | 0, _, _ => none
  | f + 1, L, v2 =>
    ifb (4 ≤ v2)
      (some L)
      (bnd1 (R v0 30) fun b12 =>
      lt ((4 * v1) + v2) fun (x13 : Int32) =>
      asrt ((S b12).1 = 21) <|
      asrt (vp_in x13 (S b12).2) <|
      lt (L b12 (Int32.toNatClampNeg x13)) fun (x16 : Int64) =>
      bnd1 (f_Mod_isEnd S R I v0 v1) fun x17 =>
      bnd1 (ifb (x17 = 0)
          (bnd1 (l_Mod_goesOn_82 S R I v0 v1 v2 x16 g L 0) fun L37 =>
          some L37)
          (bnd1 (R v0 31) fun b39 =>
          lt ((4 * v1) + v2) fun (x40 : Int32) =>
          asrt ((S b39).1 = 21) <|
          asrt (vp_in x40 (S b39).2) <|
          lt ((L b39 (Int32.toNatClampNeg x40)) + (100 * x16)) fun (x43 : Int64) =>
          asrt (vp_in x40 (S b39).2) <|
          lt (wL L b39 (Int32.toNatClampNeg x40) x43) fun (L45 : ML) =>
          some L45)) fun (L20 : ML) =>
      l_Mod_goesOn_34 g S R I v0 v1 f L20 (v2 + 1))
set_option maxRecDepth 100000 in
set_option maxHeartbeats 4000000 in
theorem xl_Mod_goesOn_34 {E : Env} (hE : OKE E) {tg : Bool} {d : Nat} (hd : 2 ≤ d) {g : Nat} {S : MS} {I : MI} {R : MR} {n : Nat} {v0 : Nat} {v1 : Int32} {K : KT} :
    ∀ {f : Nat} {L : ML} {v2 : Int32} {L' : ML}, (S v0).1 = 12 → l_Mod_goesOn_34 g S R I v0 v1 f L v2 = some L' → X E y_Mod_goesOn b_Mod_goesOn 7 none tg d 0 0 138 [some (.ref (e_b E + v0)), some (.int v1), none, none, none, none, none] [] S I L' R n K → X E y_Mod_goesOn b_Mod_goesOn 7 none tg d 0 0 34 [some (.ref (e_b E + v0)), some (.int v1), some (.int v2), none, none, none, none] [] S I L R n K := by
  intro f
  induction f with
  | zero =>
    intro L v2 L' hS h hk
    rw [l_Mod_goesOn_34] at h
    cases h
  | succ f ih =>
    intro L v2 L' hS h hk
    rw [l_Mod_goesOn_34] at h
    refine X.iload_2 (pc := 34) (by decide +kernel) ?_
    refine X.iconst (pc := 35) (i := 4) (v := 4) ic_4 (by decide +kernel) ?_
    rcases ifb_some h with ⟨hq11, h⟩ | ⟨hq11, h⟩
    · refine X.icmp_ge_t (pc := 36) (off := 102) (tgt := 138) hq11 rfl (by decide +kernel) ?_
      have j0 := Option.some.inj h
      subst j0
      refine X.fgt (o' := [some (.ref (e_b E + v0)), some (.int v1), none, none, none, none, none]) ⟨rfl, ⟨rfl, trivial⟩⟩ ?_
      exact hk
    · refine X.icmp_ge_f (pc := 36) (off := 102) (tgt := 138) hq11 rfl (by decide +kernel) ?_
      refine X.aload_0 (pc := 39) (by decide +kernel) ?_
      obtain ⟨b12, hb12, h⟩ := bnd1_some h
      refine X.getR (pc := 40) (k := 30) fw_Mod_90 (by decide +kernel) (fun _ => rfl) hS hb12 ?_
      refine X.iconst (pc := 43) (i := 4) (v := 4) ic_4 (by decide +kernel) ?_
      refine X.iload_1 (pc := 44) (by decide +kernel) ?_
      refine X.imul (pc := 45) (by decide +kernel) ?_
      refine X.iload_2 (pc := 46) (by decide +kernel) ?_
      refine X.iadd (pc := 47) (by decide +kernel) ?_
      refine X.nameI (fun x13 hx13 => ?_)
      have h := lt_at hx13 h
      obtain ⟨hc15, h⟩ := asrt_some h
      obtain ⟨hi14, h⟩ := asrt_some h
      refine X.laload (pc := 48) (by decide +kernel) hc15 hi14 ?_
      refine X.nameL (fun x16 hx16 => ?_)
      have h := lt_at hx16 h
      refine X.lstore_3 (pc := 49) (by decide +kernel) (by decide) rfl ?_
      refine X.aload_0 (pc := 50) (by decide +kernel) ?_
      refine X.iload_1 (pc := 51) (by decide +kernel) ?_
      obtain ⟨x17, hv18, h⟩ := bnd1_some h
      refine X.callVi (pc := 52) (nc := 0) (ns := 0) (c_Mod_isEnd hE (dle hd (Nat.le_of_ble_eq_true rfl)) hS hv18) cv_Mod_264 (by decide +kernel) hS ⟨by decide, rfl⟩ (ddd hd (Nat.le_of_ble_eq_true rfl)) rfl (Nat.le_of_ble_eq_true rfl) rfl rfl ?_
      obtain ⟨L20, hr21, h⟩ := bnd1_some h
      have hj22 : X E y_Mod_goesOn b_Mod_goesOn 7 none tg d 0 0 132 [some (.ref (e_b E + v0)), some (.int v1), some (.int v2), none, none, none, none] [] S I L20 R n K := by
        refine X.iinc_2 (pc := 132) (z := 1) (v := 1) ic_1 (by decide +kernel) (by decide) rfl ?_
        refine X.goto (pc := 135) (off := (-101)) (tgt := 34) (by decide +kernel) rfl ?_
        exact ih hS h hk
      have h := hr21
      rcases ifb_some h with ⟨hq19, h⟩ | ⟨hq19, h⟩
      · refine X.if_eq_t (pc := 55) (off := 24) (tgt := 79) hq19 rfl (by decide +kernel) ?_
        refine X.iconst (pc := 79) (i := 0) (v := 0) ic_0 (by decide +kernel) ?_
        refine X.istore_5 (pc := 80) (by decide +kernel) (by decide) rfl ?_
        obtain ⟨L37, hv38, h⟩ := bnd1_some h
        refine xl_Mod_goesOn_82 hE hd hS hv38 ?_
        have j0 := Option.some.inj h
        subst j0
        exact hj22
      · refine X.if_eq_f (pc := 55) (off := 24) (tgt := 79) hq19 rfl (by decide +kernel) ?_
        refine X.aload_0 (pc := 58) (by decide +kernel) ?_
        obtain ⟨b39, hb39, h⟩ := bnd1_some h
        refine X.getR (pc := 59) (k := 31) fw_Mod_93 (by decide +kernel) (fun _ => rfl) hS hb39 ?_
        refine X.iconst (pc := 62) (i := 4) (v := 4) ic_4 (by decide +kernel) ?_
        refine X.iload_1 (pc := 63) (by decide +kernel) ?_
        refine X.imul (pc := 64) (by decide +kernel) ?_
        refine X.iload_2 (pc := 65) (by decide +kernel) ?_
        refine X.iadd (pc := 66) (by decide +kernel) ?_
        refine X.nameI (fun x40 hx40 => ?_)
        have h := lt_at hx40 h
        refine X.dup2ir (pc := 67) (by decide +kernel) ?_
        obtain ⟨hc42, h⟩ := asrt_some h
        obtain ⟨hi41, h⟩ := asrt_some h
        refine X.laload (pc := 68) (by decide +kernel) hc42 hi41 ?_
        refine X.ldc2 (pc := 69) (x := 302) (v := 100) ld_Mod_302 (by decide +kernel) ?_
        refine X.lload_3 (pc := 72) (by decide +kernel) ?_
        refine X.lmul (pc := 73) (by decide +kernel) ?_
        refine X.ladd (pc := 74) (by decide +kernel) ?_
        refine X.nameL (fun x43 hx43 => ?_)
        have h := lt_at hx43 h
        obtain ⟨hi44, h⟩ := asrt_some h
        refine X.lastore (pc := 75) (by decide +kernel) hc42 hi44 ?_
        refine X.nameML (fun L45 hL45 => ?_)
        have h := lt_at hL45 h
        refine X.goto (pc := 76) (off := 56) (tgt := 132) (by decide +kernel) rfl ?_
        have j0 := Option.some.inj h
        subst j0
        refine X.fgt (o' := [some (.ref (e_b E + v0)), some (.int v1), some (.int v2), none, none, none, none]) ⟨rfl, ⟨rfl, ⟨rfl, trivial⟩⟩⟩ ?_
        exact hj22
set_option maxRecDepth 100000 in
noncomputable def l_Mod_goesOn_24 (g : Nat) (S : MS) (R : MR) (I : MI) (v0 : Nat) : Nat → ML → Int32 → Option ML
  | 0, _, _ => none
  | f + 1, L, v1 =>
    bnd1 (f_Mod_cells S I v0) fun x8 =>
    ifb (x8 ≤ v1)
      (some L)
      (bnd1 (l_Mod_goesOn_34 g S R I v0 v1 g L 0) fun L46 =>
      l_Mod_goesOn_24 g S R I v0 f L46 (v1 + 1))
set_option maxRecDepth 100000 in
set_option maxHeartbeats 4000000 in
theorem xl_Mod_goesOn_24 {E : Env} (hE : OKE E) {tg : Bool} {d : Nat} (hd : 2 ≤ d) {g : Nat} {S : MS} {I : MI} {R : MR} {n : Nat} {v0 : Nat} {K : KT} :
    ∀ {f : Nat} {L : ML} {v1 : Int32} {L' : ML}, (S v0).1 = 12 → l_Mod_goesOn_24 g S R I v0 f L v1 = some L' → X E y_Mod_goesOn b_Mod_goesOn 7 none tg d 0 0 144 [some (.ref (e_b E + v0)), none, none, none, none, none, none] [] S I L' R n K → X E y_Mod_goesOn b_Mod_goesOn 7 none tg d 0 0 24 [some (.ref (e_b E + v0)), some (.int v1), none, none, none, none, none] [] S I L R n K := by
  intro f
  induction f with
  | zero =>
    intro L v1 L' hS h hk
    rw [l_Mod_goesOn_24] at h
    cases h
  | succ f ih =>
    intro L v1 L' hS h hk
    rw [l_Mod_goesOn_24] at h
    refine X.iload_1 (pc := 24) (by decide +kernel) ?_
    refine X.aload_0 (pc := 25) (by decide +kernel) ?_
    obtain ⟨x8, hv9, h⟩ := bnd1_some h
    refine X.callVi (pc := 26) (nc := 0) (ns := 0) (c_Mod_cells hE (dle hd (Nat.le_of_ble_eq_true rfl)) hS hv9) cv_Mod_148 (by decide +kernel) hS ⟨by decide, rfl⟩ (ddd hd (Nat.le_of_ble_eq_true rfl)) rfl (Nat.le_of_ble_eq_true rfl) rfl rfl ?_
    rcases ifb_some h with ⟨hq10, h⟩ | ⟨hq10, h⟩
    · refine X.icmp_ge_t (pc := 29) (off := 115) (tgt := 144) hq10 rfl (by decide +kernel) ?_
      have j0 := Option.some.inj h
      subst j0
      refine X.fgt (o' := [some (.ref (e_b E + v0)), none, none, none, none, none, none]) ⟨rfl, trivial⟩ ?_
      exact hk
    · refine X.icmp_ge_f (pc := 29) (off := 115) (tgt := 144) hq10 rfl (by decide +kernel) ?_
      refine X.iconst (pc := 32) (i := 0) (v := 0) ic_0 (by decide +kernel) ?_
      refine X.istore_2 (pc := 33) (by decide +kernel) (by decide) rfl ?_
      obtain ⟨L46, hv47, h⟩ := bnd1_some h
      refine xl_Mod_goesOn_34 hE hd hS hv47 ?_
      refine X.iinc_1 (pc := 138) (z := 1) (v := 1) ic_1 (by decide +kernel) (by decide) rfl ?_
      refine X.goto (pc := 141) (off := (-117)) (tgt := 24) (by decide +kernel) rfl ?_
      exact ih hS h hk
set_option maxRecDepth 100000 in
noncomputable def l_Mod_goesOn_146 (S : MS) (R : MR) (v0 : Nat) : Nat → ML → Int32 → Option ML
  | 0, _, _ => none
  | f + 1, L, v1 =>
    ifb (144 ≤ v1)
      (some L)
      (bnd1 (R v0 30) fun b51 =>
      bnd1 (R v0 31) fun b52 =>
      asrt ((S b52).1 = 21) <|
      asrt (vp_in v1 (S b52).2) <|
      lt (L b52 (Int32.toNatClampNeg v1)) fun (x55 : Int64) =>
      asrt ((S b51).1 = 21) <|
      asrt (vp_in v1 (S b51).2) <|
      lt (wL L b51 (Int32.toNatClampNeg v1) x55) fun (L58 : ML) =>
      l_Mod_goesOn_146 S R v0 f L58 (v1 + 1))
set_option maxRecDepth 100000 in
set_option maxHeartbeats 4000000 in
theorem xl_Mod_goesOn_146 {E : Env} (hE : OKE E) {tg : Bool} {d : Nat} (hd : 2 ≤ d) {S : MS} {I : MI} {R : MR} {n : Nat} {v0 : Nat} {K : KT} :
    ∀ {f : Nat} {L : ML} {v1 : Int32} {L' : ML}, (S v0).1 = 12 → l_Mod_goesOn_146 S R v0 f L v1 = some L' → X E y_Mod_goesOn b_Mod_goesOn 7 none tg d 0 0 171 [none, none, none, none, none, none, none] [] S I L' R n K → X E y_Mod_goesOn b_Mod_goesOn 7 none tg d 0 0 146 [some (.ref (e_b E + v0)), some (.int v1), none, none, none, none, none] [] S I L R n K := by
  intro f
  induction f with
  | zero =>
    intro L v1 L' hS h hk
    rw [l_Mod_goesOn_146] at h
    cases h
  | succ f ih =>
    intro L v1 L' hS h hk
    rw [l_Mod_goesOn_146] at h
    refine X.iload_1 (pc := 146) (by decide +kernel) ?_
    refine X.sipush (pc := 147) (i := 144) (v := 144) sp_144 (by decide +kernel) ?_
    rcases ifb_some h with ⟨hq50, h⟩ | ⟨hq50, h⟩
    · refine X.icmp_ge_t (pc := 150) (off := 21) (tgt := 171) hq50 rfl (by decide +kernel) ?_
      have j0 := Option.some.inj h
      subst j0
      refine X.fgt (o' := [none, none, none, none, none, none, none]) trivial ?_
      exact hk
    · refine X.icmp_ge_f (pc := 150) (off := 21) (tgt := 171) hq50 rfl (by decide +kernel) ?_
      refine X.aload_0 (pc := 153) (by decide +kernel) ?_
      obtain ⟨b51, hb51, h⟩ := bnd1_some h
      refine X.getR (pc := 154) (k := 30) fw_Mod_90 (by decide +kernel) (fun _ => rfl) hS hb51 ?_
      refine X.iload_1 (pc := 157) (by decide +kernel) ?_
      refine X.aload_0 (pc := 158) (by decide +kernel) ?_
      obtain ⟨b52, hb52, h⟩ := bnd1_some h
      refine X.getR (pc := 159) (k := 31) fw_Mod_93 (by decide +kernel) (fun _ => rfl) hS hb52 ?_
      refine X.iload_1 (pc := 162) (by decide +kernel) ?_
      obtain ⟨hc54, h⟩ := asrt_some h
      obtain ⟨hi53, h⟩ := asrt_some h
      refine X.laload (pc := 163) (by decide +kernel) hc54 hi53 ?_
      refine X.nameL (fun x55 hx55 => ?_)
      have h := lt_at hx55 h
      obtain ⟨hc56, h⟩ := asrt_some h
      obtain ⟨hi57, h⟩ := asrt_some h
      refine X.lastore (pc := 164) (by decide +kernel) hc56 hi57 ?_
      refine X.nameML (fun L58 hL58 => ?_)
      have h := lt_at hL58 h
      refine X.iinc_1 (pc := 165) (z := 1) (v := 1) ic_1 (by decide +kernel) (by decide) rfl ?_
      refine X.goto (pc := 168) (off := (-22)) (tgt := 146) (by decide +kernel) rfl ?_
      exact ih hS h hk
set_option maxRecDepth 100000 in
noncomputable def f_Mod_goesOn (g : Nat) (S : MS) (R : MR) (I : MI) (L : ML) (t : Nat) : Option ML :=
  bnd1 (l_Mod_goesOn_2 S R t g L 0) fun L6 =>
  bnd1 (l_Mod_goesOn_24 g S R I t g L6 0) fun L48 =>
  bnd1 (l_Mod_goesOn_146 S R t g L48 0) fun L59 =>
  some L59
set_option maxRecDepth 100000 in
set_option maxHeartbeats 4000000 in
theorem c_Mod_goesOn {E : Env} (hE : OKE E) {tg : Bool} {d : Nat} (hd : 2 ≤ d) {g : Nat} {S : MS} {I : MI} {L : ML} {R : MR} {n : Nat} {t : Nat} {L' : ML} (hS : (S t).1 = 12) (h : f_Mod_goesOn g S R I L t = some L') : C E y_Mod_goesOn b_Mod_goesOn 7 none tg d 0 0 [.ref (e_b E + t)] S I L R n (Kq none S I L' R n) := by
  refine C.of (o := [some (.ref (e_b E + t)), none, none, none, none, none, none]) (by decide) rfl (Nat.le_of_ble_eq_true rfl) ?_
  rw [f_Mod_goesOn] at h
  refine X.iconst (pc := 0) (i := 0) (v := 0) ic_0 (by decide +kernel) ?_
  refine X.istore_1 (pc := 1) (by decide +kernel) (by decide) rfl ?_
  obtain ⟨L6, hv7, h⟩ := bnd1_some h
  refine xl_Mod_goesOn_2 hE hd hS hv7 ?_
  refine X.iconst (pc := 22) (i := 0) (v := 0) ic_0 (by decide +kernel) ?_
  refine X.istore_1 (pc := 23) (by decide +kernel) (by decide) rfl ?_
  obtain ⟨L48, hv49, h⟩ := bnd1_some h
  refine xl_Mod_goesOn_24 hE hd hS hv49 ?_
  refine X.iconst (pc := 144) (i := 0) (v := 0) ic_0 (by decide +kernel) ?_
  refine X.istore_1 (pc := 145) (by decide +kernel) (by decide) rfl ?_
  obtain ⟨L59, hv60, h⟩ := bnd1_some h
  refine xl_Mod_goesOn_146 hE hd hS hv60 ?_
  have j0 := Option.some.inj h
  subst j0
  exact X.vreturn (pc := 171) (by decide +kernel) rfl ⟨rfl, rfl, rfl, rfl, rfl, rfl⟩
set_option maxRecDepth 100000 in
noncomputable def l_Mod_behind_24 (S : MS) (R : MR) (I : MI) (v0 : Nat) (v1 : Int32) (v2 : Int32) : Nat → ML → Int32 → Option ML
  | 0, _, _ => none
  | f + 1, L, v3 =>
    ifb (144 ≤ v3)
      (some L)
      (bnd1 (R v0 30) fun b9 =>
      bnd1 (ifb (v3 = ((4 * (I v0 7)) + (I v0 8)))
          (some 1)
          (some 0)) fun (y11 : Int32) =>
      bnd1 (f_Mod_flag y11) fun x14 =>
      lt (Int32.toInt64 x14) fun (x16 : Int64) =>
      asrt ((S b9).1 = 21) <|
      asrt (vp_in v3 (S b9).2) <|
      lt (wL L b9 (Int32.toNatClampNeg v3) x16) fun (L19 : ML) =>
      l_Mod_behind_24 S R I v0 v1 v2 f L19 (v3 + 1))
set_option maxRecDepth 100000 in
set_option maxHeartbeats 4000000 in
theorem xl_Mod_behind_24 {E : Env} (hE : OKE E) {tg : Bool} {d : Nat} (hd : 203 ≤ d) {S : MS} {I : MI} {R : MR} {n : Nat} {v0 : Nat} {v1 : Int32} {v2 : Int32} {K : KT} :
    ∀ {f : Nat} {L : ML} {v3 : Int32} {L' : ML}, (S v0).1 = 12 → l_Mod_behind_24 S R I v0 v1 v2 f L v3 = some L' → X E y_Mod_behind b_Mod_behind 9 (some .int) tg d 0 0 67 [some (.ref (e_b E + v0)), some (.int v1), some (.int v2), none, none, none, none, none, none] [] S I L' R n K → X E y_Mod_behind b_Mod_behind 9 (some .int) tg d 0 0 24 [some (.ref (e_b E + v0)), some (.int v1), some (.int v2), some (.int v3), none, none, none, none, none] [] S I L R n K := by
  intro f
  induction f with
  | zero =>
    intro L v3 L' hS h hk
    rw [l_Mod_behind_24] at h
    cases h
  | succ f ih =>
    intro L v3 L' hS h hk
    rw [l_Mod_behind_24] at h
    refine X.iload_3 (pc := 24) (by decide +kernel) ?_
    refine X.sipush (pc := 25) (i := 144) (v := 144) sp_144 (by decide +kernel) ?_
    rcases ifb_some h with ⟨hq8, h⟩ | ⟨hq8, h⟩
    · refine X.icmp_ge_t (pc := 28) (off := 39) (tgt := 67) hq8 rfl (by decide +kernel) ?_
      have j0 := Option.some.inj h
      subst j0
      refine X.fgt (o' := [some (.ref (e_b E + v0)), some (.int v1), some (.int v2), none, none, none, none, none, none]) ⟨rfl, ⟨rfl, ⟨rfl, trivial⟩⟩⟩ ?_
      exact hk
    · refine X.icmp_ge_f (pc := 28) (off := 39) (tgt := 67) hq8 rfl (by decide +kernel) ?_
      refine X.aload_0 (pc := 31) (by decide +kernel) ?_
      obtain ⟨b9, hb9, h⟩ := bnd1_some h
      refine X.getR (pc := 32) (k := 30) fw_Mod_90 (by decide +kernel) (fun _ => rfl) hS hb9 ?_
      refine X.iload_3 (pc := 35) (by decide +kernel) ?_
      refine X.iload_3 (pc := 36) (by decide +kernel) ?_
      refine X.iconst (pc := 37) (i := 4) (v := 4) ic_4 (by decide +kernel) ?_
      refine X.aload_0 (pc := 38) (by decide +kernel) ?_
      refine X.getI (pc := 39) (k := 7) fw_Mod_204 (by decide +kernel) (fun _ => rfl) hS ?_
      refine X.imul (pc := 42) (by decide +kernel) ?_
      refine X.aload_0 (pc := 43) (by decide +kernel) ?_
      refine X.getI (pc := 44) (k := 8) fw_Mod_207 (by decide +kernel) (fun _ => rfl) hS ?_
      refine X.iadd (pc := 47) (by decide +kernel) ?_
      obtain ⟨y11, hr12, h⟩ := bnd1_some h
      have hj13 : X E y_Mod_behind b_Mod_behind 9 (some .int) tg d 0 0 56 [some (.ref (e_b E + v0)), some (.int v1), some (.int v2), some (.int v3), none, none, none, none, none] [.int y11, .int v3, .ref (e_b E + b9)] S I L R n K := by
        obtain ⟨x14, hv15, h⟩ := bnd1_some h
        refine X.callSi (pc := 56) (nc := 0) (ns := 0) (c_Mod_flag hE (dle hd (Nat.le_of_ble_eq_true rfl)) hv15) cv_Mod_155 (by decide +kernel) (ddd hd (Nat.le_of_ble_eq_true rfl)) rfl (Nat.le_of_ble_eq_true rfl) rfl rfl ?_
        refine X.i2l (pc := 59) (by decide +kernel) ?_
        refine X.nameL (fun x16 hx16 => ?_)
        have h := lt_at hx16 h
        obtain ⟨hc17, h⟩ := asrt_some h
        obtain ⟨hi18, h⟩ := asrt_some h
        refine X.lastore (pc := 60) (by decide +kernel) hc17 hi18 ?_
        refine X.nameML (fun L19 hL19 => ?_)
        have h := lt_at hL19 h
        refine X.iinc_3 (pc := 61) (z := 1) (v := 1) ic_1 (by decide +kernel) (by decide) rfl ?_
        refine X.goto (pc := 64) (off := (-40)) (tgt := 24) (by decide +kernel) rfl ?_
        exact ih hS h hk
      have h := hr12
      rcases ifb_some h with ⟨hq10, h⟩ | ⟨hq10, h⟩
      · refine X.icmp_ne_f (pc := 48) (off := 7) (tgt := 55) hq10 rfl (by decide +kernel) ?_
        refine X.iconst (pc := 51) (i := 1) (v := 1) ic_1 (by decide +kernel) ?_
        refine X.goto (pc := 52) (off := 4) (tgt := 56) (by decide +kernel) rfl ?_
        have j0 := Option.some.inj h
        subst j0
        exact hj13
      · refine X.icmp_ne_t (pc := 48) (off := 7) (tgt := 55) hq10 rfl (by decide +kernel) ?_
        refine X.iconst (pc := 55) (i := 0) (v := 0) ic_0 (by decide +kernel) ?_
        have j0 := Option.some.inj h
        subst j0
        exact hj13
set_option maxRecDepth 100000 in
noncomputable def l_Mod_behind_84 (g : Nat) (S : MS) (R : MR) (I : MI) (L : ML) (v0 : Nat) (v1 : Int32) (v2 : Int32) (v3 : Int64) (v5 : Int32) : Nat → Int64 → Int32 → Option Int64
  | 0, _, _ => none
  | f + 1, v6, v8 =>
    bnd1 (f_Mod_cells S I v0) fun x23 =>
    ifb (x23 ≤ v8)
      (some v6)
      (bnd1 (f_Mod_isEnd S R I v0 v8) fun x26 =>
      bnd1 (ifb (x26 = 0)
          (bnd1 (f_Mod_massOn g S R L v0 v8) fun x32 =>
          some x32)
          (some 0)) fun (y29 : Int64) =>
      lt (v6 + y29) fun (x34 : Int64) =>
      l_Mod_behind_84 g S R I L v0 v1 v2 v3 v5 f x34 (v8 + 1))
set_option maxRecDepth 100000 in
set_option maxHeartbeats 4000000 in
theorem xl_Mod_behind_84 {E : Env} (hE : OKE E) {tg : Bool} {d : Nat} (hd : 203 ≤ d) {g : Nat} {S : MS} {I : MI} {L : ML} {R : MR} {n : Nat} {v0 : Nat} {v1 : Int32} {v2 : Int32} {v3 : Int64} {v5 : Int32} {K : KT} :
    ∀ {f : Nat}  {v6 : Int64} {v8 : Int32} {o6 : Int64}, (S v0).1 = 12 → l_Mod_behind_84 g S R I L v0 v1 v2 v3 v5 f v6 v8 = some o6 → X E y_Mod_behind b_Mod_behind 9 (some .int) tg d 0 0 123 [some (.ref (e_b E + v0)), some (.int v1), some (.int v2), some (.long v3), none, some (.int v5), some (.long o6), none, none] [] S I L R n K → X E y_Mod_behind b_Mod_behind 9 (some .int) tg d 0 0 84 [some (.ref (e_b E + v0)), some (.int v1), some (.int v2), some (.long v3), none, some (.int v5), some (.long v6), none, some (.int v8)] [] S I L R n K := by
  intro f
  induction f with
  | zero =>
    intro v6 v8 o6 hS h hk
    rw [l_Mod_behind_84] at h
    cases h
  | succ f ih =>
    intro v6 v8 o6 hS h hk
    rw [l_Mod_behind_84] at h
    refine X.iload_8 (pc := 84) (by decide +kernel) ?_
    refine X.aload_0 (pc := 86) (by decide +kernel) ?_
    obtain ⟨x23, hv24, h⟩ := bnd1_some h
    refine X.callVi (pc := 87) (nc := 0) (ns := 0) (c_Mod_cells hE (dle hd (Nat.le_of_ble_eq_true rfl)) hS hv24) cv_Mod_148 (by decide +kernel) hS ⟨by decide, rfl⟩ (ddd hd (Nat.le_of_ble_eq_true rfl)) rfl (Nat.le_of_ble_eq_true rfl) rfl rfl ?_
    rcases ifb_some h with ⟨hq25, h⟩ | ⟨hq25, h⟩
    · refine X.icmp_ge_t (pc := 90) (off := 33) (tgt := 123) hq25 rfl (by decide +kernel) ?_
      have j0 := Option.some.inj h
      subst j0
      refine X.fgt (o' := [some (.ref (e_b E + v0)), some (.int v1), some (.int v2), some (.long v3), none, some (.int v5), some (.long v6), none, none]) ⟨rfl, ⟨rfl, ⟨rfl, ⟨rfl, ⟨rfl, ⟨rfl, trivial⟩⟩⟩⟩⟩⟩ ?_
      exact hk
    · refine X.icmp_ge_f (pc := 90) (off := 33) (tgt := 123) hq25 rfl (by decide +kernel) ?_
      refine X.lload_6 (pc := 93) (by decide +kernel) ?_
      refine X.aload_0 (pc := 95) (by decide +kernel) ?_
      refine X.iload_8 (pc := 96) (by decide +kernel) ?_
      obtain ⟨x26, hv27, h⟩ := bnd1_some h
      refine X.callVi (pc := 98) (nc := 0) (ns := 0) (c_Mod_isEnd hE (dle hd (Nat.le_of_ble_eq_true rfl)) hS hv27) cv_Mod_264 (by decide +kernel) hS ⟨by decide, rfl⟩ (ddd hd (Nat.le_of_ble_eq_true rfl)) rfl (Nat.le_of_ble_eq_true rfl) rfl rfl ?_
      obtain ⟨y29, hr30, h⟩ := bnd1_some h
      have hj31 : X E y_Mod_behind b_Mod_behind 9 (some .int) tg d 0 0 114 [some (.ref (e_b E + v0)), some (.int v1), some (.int v2), some (.long v3), none, some (.int v5), none, none, some (.int v8)] [.long y29, .long v6] S I L R n K := by
        refine X.ladd (pc := 114) (by decide +kernel) ?_
        refine X.nameL (fun x34 hx34 => ?_)
        have h := lt_at hx34 h
        refine X.lstore_6 (pc := 115) (by decide +kernel) (by decide) rfl ?_
        refine X.iinc_8 (pc := 117) (z := 1) (v := 1) ic_1 (by decide +kernel) (by decide) rfl ?_
        refine X.goto (pc := 120) (off := (-36)) (tgt := 84) (by decide +kernel) rfl ?_
        exact ih hS h hk
      have h := hr30
      rcases ifb_some h with ⟨hq28, h⟩ | ⟨hq28, h⟩
      · refine X.if_eq_t (pc := 101) (off := 7) (tgt := 108) hq28 rfl (by decide +kernel) ?_
        refine X.aload_0 (pc := 108) (by decide +kernel) ?_
        refine X.iload_8 (pc := 109) (by decide +kernel) ?_
        obtain ⟨x32, hv33, h⟩ := bnd1_some h
        refine X.callVl (pc := 111) (nc := 0) (ns := 0) (c_Mod_massOn hE (dle hd (Nat.le_of_ble_eq_true rfl)) hS hv33) cv_Mod_344 (by decide +kernel) hS ⟨by decide, rfl⟩ (ddd hd (Nat.le_of_ble_eq_true rfl)) rfl (Nat.le_of_ble_eq_true rfl) rfl rfl ?_
        have j0 := Option.some.inj h
        subst j0
        refine X.fgt (o' := [some (.ref (e_b E + v0)), some (.int v1), some (.int v2), some (.long v3), none, some (.int v5), none, none, some (.int v8)]) ⟨rfl, ⟨rfl, ⟨rfl, ⟨rfl, ⟨rfl, ⟨rfl, trivial⟩⟩⟩⟩⟩⟩ ?_
        exact hj31
      · refine X.if_eq_f (pc := 101) (off := 7) (tgt := 108) hq28 rfl (by decide +kernel) ?_
        refine X.lconst (pc := 104) (i := 0) (v := 0) rfl (by decide +kernel) ?_
        refine X.goto (pc := 105) (off := 9) (tgt := 114) (by decide +kernel) rfl ?_
        have j0 := Option.some.inj h
        subst j0
        refine X.fgt (o' := [some (.ref (e_b E + v0)), some (.int v1), some (.int v2), some (.long v3), none, some (.int v5), none, none, some (.int v8)]) ⟨rfl, ⟨rfl, ⟨rfl, ⟨rfl, ⟨rfl, ⟨rfl, trivial⟩⟩⟩⟩⟩⟩ ?_
        exact hj31
set_option maxRecDepth 100000 in
noncomputable def l_Mod_behind_72 (g : Nat) (S : MS) (R : MR) (I : MI) (v0 : Nat) (v1 : Int32) (v2 : Int32) : Nat → ML → Int64 → Int32 → Option (Int64 × ML)
  | 0, _, _, _ => none
  | f + 1, L, v3, v5 =>
    ifb (v2 ≤ v5)
      (some (v3, L))
      (bnd1 (l_Mod_behind_84 g S R I L v0 v1 v2 v3 v5 g 0 0) fun x35 =>
      lt ((100 * v3) + (100 * x35)) fun (x37 : Int64) =>
      bnd1 (f_Mod_goesOn g S R I L v0) fun L38 =>
      l_Mod_behind_72 g S R I v0 v1 v2 f L38 x37 (v5 + 1))
set_option maxRecDepth 100000 in
set_option maxHeartbeats 4000000 in
theorem xl_Mod_behind_72 {E : Env} (hE : OKE E) {tg : Bool} {d : Nat} (hd : 203 ≤ d) {g : Nat} {S : MS} {I : MI} {R : MR} {n : Nat} {v0 : Nat} {v1 : Int32} {v2 : Int32} {K : KT} :
    ∀ {f : Nat} {L : ML} {v3 : Int64} {v5 : Int32} {o3 : Int64} {L' : ML}, (S v0).1 = 12 → l_Mod_behind_72 g S R I v0 v1 v2 f L v3 v5 = some (o3, L') → X E y_Mod_behind b_Mod_behind 9 (some .int) tg d 0 0 146 [some (.ref (e_b E + v0)), some (.int v1), some (.int v2), some (.long o3), none, none, none, none, none] [] S I L' R n K → X E y_Mod_behind b_Mod_behind 9 (some .int) tg d 0 0 72 [some (.ref (e_b E + v0)), some (.int v1), some (.int v2), some (.long v3), none, some (.int v5), none, none, none] [] S I L R n K := by
  intro f
  induction f with
  | zero =>
    intro L v3 v5 o3 L' hS h hk
    rw [l_Mod_behind_72] at h
    cases h
  | succ f ih =>
    intro L v3 v5 o3 L' hS h hk
    rw [l_Mod_behind_72] at h
    refine X.iload_5 (pc := 72) (by decide +kernel) ?_
    refine X.iload_2 (pc := 74) (by decide +kernel) ?_
    rcases ifb_some h with ⟨hq22, h⟩ | ⟨hq22, h⟩
    · refine X.icmp_ge_t (pc := 75) (off := 71) (tgt := 146) hq22 rfl (by decide +kernel) ?_
      have j0 := Option.some.inj h
      obtain ⟨i0, j1⟩ := Prod.mk.inj j0
      subst i0
      subst j1
      refine X.fgt (o' := [some (.ref (e_b E + v0)), some (.int v1), some (.int v2), some (.long v3), none, none, none, none, none]) ⟨rfl, ⟨rfl, ⟨rfl, ⟨rfl, trivial⟩⟩⟩⟩ ?_
      exact hk
    · refine X.icmp_ge_f (pc := 75) (off := 71) (tgt := 146) hq22 rfl (by decide +kernel) ?_
      refine X.lconst (pc := 78) (i := 0) (v := 0) rfl (by decide +kernel) ?_
      refine X.lstore_6 (pc := 79) (by decide +kernel) (by decide) rfl ?_
      refine X.iconst (pc := 81) (i := 0) (v := 0) ic_0 (by decide +kernel) ?_
      refine X.istore_8 (pc := 82) (by decide +kernel) (by decide) rfl ?_
      obtain ⟨x35, hv36, h⟩ := bnd1_some h
      refine xl_Mod_behind_84 hE hd hS hv36 ?_
      refine X.ldc2 (pc := 123) (x := 302) (v := 100) ld_Mod_302 (by decide +kernel) ?_
      refine X.lload_3 (pc := 126) (by decide +kernel) ?_
      refine X.lmul (pc := 127) (by decide +kernel) ?_
      refine X.ldc2 (pc := 128) (x := 302) (v := 100) ld_Mod_302 (by decide +kernel) ?_
      refine X.lload_6 (pc := 131) (by decide +kernel) ?_
      refine X.lmul (pc := 133) (by decide +kernel) ?_
      refine X.ladd (pc := 134) (by decide +kernel) ?_
      refine X.nameL (fun x37 hx37 => ?_)
      have h := lt_at hx37 h
      refine X.lstore_3 (pc := 135) (by decide +kernel) (by decide) rfl ?_
      refine X.aload_0 (pc := 136) (by decide +kernel) ?_
      obtain ⟨L38, hv39, h⟩ := bnd1_some h
      refine X.callVv (pc := 137) (nc := 0) (ns := 0) (c_Mod_goesOn hE (dle hd (Nat.le_of_ble_eq_true rfl)) hS hv39) cv_Mod_347 (by decide +kernel) hS ⟨by decide, rfl⟩ (ddd hd (Nat.le_of_ble_eq_true rfl)) rfl (Nat.le_of_ble_eq_true rfl) rfl rfl ?_
      refine X.iinc_5 (pc := 140) (z := 1) (v := 1) ic_1 (by decide +kernel) (by decide) rfl ?_
      refine X.goto (pc := 143) (off := (-71)) (tgt := 72) (by decide +kernel) rfl ?_
      refine X.fgt (o' := [some (.ref (e_b E + v0)), some (.int v1), some (.int v2), some (.long x37), none, some (.int (v5 + 1)), none, none, none]) ⟨rfl, ⟨rfl, ⟨rfl, ⟨rfl, ⟨rfl, trivial⟩⟩⟩⟩⟩ ?_
      exact ih hS h hk
set_option maxRecDepth 100000 in
noncomputable def f_Mod_behind (g : Nat) (S : MS) (R : MR) (I : MI) (L : ML) (t : Nat) (p1 : Int32) (p2 : Int32) : Option (Int32 × MI × ML) :=
  lt (wI I t 0 0) fun (I1 : MI) =>
  bnd1 (f_Mod_isCell S I1 t p1) fun x2 =>
  ifb (x2 = 0)
    (some ((-1), I1, L))
    (bnd1 (f_Mod_areSteps p2) fun x5 =>
    ifb (x5 = 0)
      (some ((-1), I1, L))
      (bnd1 (l_Mod_behind_24 S R I1 t p1 p2 g L 0) fun L20 =>
      bnd2 (l_Mod_behind_72 g S R I1 t p1 p2 g L20 0 0) fun x40 L41 =>
      lt (wI I1 t 1 0) fun (I43 : MI) =>
      bnd1 (f_Mod_massOn g S R L41 t p1) fun x44 =>
      bnd1 (f_Mod_whole g p2) fun x46 =>
      bnd2 (f_Mod_entersFraction S R I43 L41 t x44 x46) fun I48 L49 =>
      bnd1 (f_Mod_whole g p2) fun x51 =>
      bnd2 (f_Mod_entersFraction S R I48 L49 t x40 x51) fun I53 L54 =>
      some (0, I53, L54)))
set_option maxRecDepth 100000 in
set_option maxHeartbeats 4000000 in
theorem c_Mod_behind {E : Env} (hE : OKE E) {tg : Bool} {d : Nat} (hd : 203 ≤ d) {g : Nat} {S : MS} {I : MI} {L : ML} {R : MR} {n : Nat} {t : Nat} {p1 : Int32} {p2 : Int32} {v : Int32} {I' : MI} {L' : ML} (hS : (S t).1 = 12) (h : f_Mod_behind g S R I L t p1 p2 = some (v, I', L')) : C E y_Mod_behind b_Mod_behind 9 (some .int) tg d 0 0 [.ref (e_b E + t), .int p1, .int p2] S I L R n (Kq (some (.int v)) S I' L' R n) := by
  refine C.of (o := [some (.ref (e_b E + t)), some (.int p1), some (.int p2), none, none, none, none, none, none]) (by decide) rfl (Nat.le_of_ble_eq_true rfl) ?_
  rw [f_Mod_behind] at h
  refine X.aload_0 (pc := 0) (by decide +kernel) ?_
  refine X.iconst (pc := 1) (i := 0) (v := 0) ic_0 (by decide +kernel) ?_
  refine X.putI (pc := 2) (k := 0) fw_Mod_3 (by decide +kernel) rfl rfl hS ?_
  refine X.nameMI (fun I1 hI1 => ?_)
  have h := lt_at hI1 h
  refine X.aload_0 (pc := 5) (by decide +kernel) ?_
  refine X.iload_1 (pc := 6) (by decide +kernel) ?_
  obtain ⟨x2, hv3, h⟩ := bnd1_some h
  refine X.callVi (pc := 7) (nc := 0) (ns := 0) (c_Mod_isCell hE (dle hd (Nat.le_of_ble_eq_true rfl)) hS hv3) cv_Mod_236 (by decide +kernel) hS ⟨by decide, rfl⟩ (ddd hd (Nat.le_of_ble_eq_true rfl)) rfl (Nat.le_of_ble_eq_true rfl) rfl rfl ?_
  rcases ifb_some h with ⟨hq4, h⟩ | ⟨hq4, h⟩
  · refine X.if_eq_t (pc := 10) (off := 10) (tgt := 20) hq4 rfl (by decide +kernel) ?_
    refine X.iconst (pc := 20) (i := (-1)) (v := (-1)) ic_m1 (by decide +kernel) ?_
    have j0 := Option.some.inj h
    obtain ⟨i0, j1⟩ := Prod.mk.inj j0
    obtain ⟨i1, j2⟩ := Prod.mk.inj j1
    subst i0
    subst i1
    subst j2
    exact X.ireturn (pc := 21) (by decide +kernel) ⟨_, rfl, rfl⟩ ⟨rfl, rfl, rfl, rfl, rfl, rfl⟩
  · refine X.if_eq_f (pc := 10) (off := 10) (tgt := 20) hq4 rfl (by decide +kernel) ?_
    refine X.iload_2 (pc := 13) (by decide +kernel) ?_
    obtain ⟨x5, hv6, h⟩ := bnd1_some h
    refine X.callSi (pc := 14) (nc := 0) (ns := 0) (c_Mod_areSteps hE (dle hd (Nat.le_of_ble_eq_true rfl)) hv6) cv_Mod_326 (by decide +kernel) (ddd hd (Nat.le_of_ble_eq_true rfl)) rfl (Nat.le_of_ble_eq_true rfl) rfl rfl ?_
    rcases ifb_some h with ⟨hq7, h⟩ | ⟨hq7, h⟩
    · refine X.if_ne_f (pc := 17) (off := 5) (tgt := 22) hq7 rfl (by decide +kernel) ?_
      refine X.iconst (pc := 20) (i := (-1)) (v := (-1)) ic_m1 (by decide +kernel) ?_
      have j0 := Option.some.inj h
      obtain ⟨i0, j1⟩ := Prod.mk.inj j0
      obtain ⟨i1, j2⟩ := Prod.mk.inj j1
      subst i0
      subst i1
      subst j2
      exact X.ireturn (pc := 21) (by decide +kernel) ⟨_, rfl, rfl⟩ ⟨rfl, rfl, rfl, rfl, rfl, rfl⟩
    · refine X.if_ne_t (pc := 17) (off := 5) (tgt := 22) hq7 rfl (by decide +kernel) ?_
      refine X.iconst (pc := 22) (i := 0) (v := 0) ic_0 (by decide +kernel) ?_
      refine X.istore_3 (pc := 23) (by decide +kernel) (by decide) rfl ?_
      obtain ⟨L20, hv21, h⟩ := bnd1_some h
      refine xl_Mod_behind_24 hE hd hS hv21 ?_
      refine X.lconst (pc := 67) (i := 0) (v := 0) rfl (by decide +kernel) ?_
      refine X.lstore_3 (pc := 68) (by decide +kernel) (by decide) rfl ?_
      refine X.iconst (pc := 69) (i := 0) (v := 0) ic_0 (by decide +kernel) ?_
      refine X.istore_5 (pc := 70) (by decide +kernel) (by decide) rfl ?_
      obtain ⟨x40, L41, hv42, h⟩ := bnd2_some h
      refine xl_Mod_behind_72 hE hd hS hv42 ?_
      refine X.aload_0 (pc := 146) (by decide +kernel) ?_
      refine X.iconst (pc := 147) (i := 0) (v := 0) ic_0 (by decide +kernel) ?_
      refine X.putI (pc := 148) (k := 1) fw_Mod_21 (by decide +kernel) rfl rfl hS ?_
      refine X.nameMI (fun I43 hI43 => ?_)
      have h := lt_at hI43 h
      refine X.aload_0 (pc := 151) (by decide +kernel) ?_
      refine X.aload_0 (pc := 152) (by decide +kernel) ?_
      refine X.iload_1 (pc := 153) (by decide +kernel) ?_
      obtain ⟨x44, hv45, h⟩ := bnd1_some h
      refine X.callVl (pc := 154) (nc := 0) (ns := 0) (c_Mod_massOn hE (dle hd (Nat.le_of_ble_eq_true rfl)) hS hv45) cv_Mod_344 (by decide +kernel) hS ⟨by decide, rfl⟩ (ddd hd (Nat.le_of_ble_eq_true rfl)) rfl (Nat.le_of_ble_eq_true rfl) rfl rfl ?_
      refine X.iload_2 (pc := 157) (by decide +kernel) ?_
      obtain ⟨x46, hv47, h⟩ := bnd1_some h
      refine X.callSl (pc := 158) (nc := 0) (ns := 0) (c_Mod_whole hE (dle hd (Nat.le_of_ble_eq_true rfl)) hv47) cv_Mod_337 (by decide +kernel) (ddd hd (Nat.le_of_ble_eq_true rfl)) rfl (Nat.le_of_ble_eq_true rfl) rfl rfl ?_
      obtain ⟨I48, L49, hv50, h⟩ := bnd2_some h
      refine X.callVv (pc := 161) (nc := 0) (ns := 0) (c_Mod_entersFraction hE (dle hd (Nat.le_of_ble_eq_true rfl)) hS hv50) cv_Mod_340 (by decide +kernel) hS ⟨by decide, rfl⟩ (ddd hd (Nat.le_of_ble_eq_true rfl)) rfl (Nat.le_of_ble_eq_true rfl) rfl rfl ?_
      refine X.aload_0 (pc := 164) (by decide +kernel) ?_
      refine X.lload_3 (pc := 165) (by decide +kernel) ?_
      refine X.iload_2 (pc := 166) (by decide +kernel) ?_
      obtain ⟨x51, hv52, h⟩ := bnd1_some h
      refine X.callSl (pc := 167) (nc := 0) (ns := 0) (c_Mod_whole hE (dle hd (Nat.le_of_ble_eq_true rfl)) hv52) cv_Mod_337 (by decide +kernel) (ddd hd (Nat.le_of_ble_eq_true rfl)) rfl (Nat.le_of_ble_eq_true rfl) rfl rfl ?_
      obtain ⟨I53, L54, hv55, h⟩ := bnd2_some h
      refine X.callVv (pc := 170) (nc := 0) (ns := 0) (c_Mod_entersFraction hE (dle hd (Nat.le_of_ble_eq_true rfl)) hS hv55) cv_Mod_340 (by decide +kernel) hS ⟨by decide, rfl⟩ (ddd hd (Nat.le_of_ble_eq_true rfl)) rfl (Nat.le_of_ble_eq_true rfl) rfl rfl ?_
      refine X.iconst (pc := 173) (i := 0) (v := 0) ic_0 (by decide +kernel) ?_
      have j0 := Option.some.inj h
      obtain ⟨i0, j1⟩ := Prod.mk.inj j0
      obtain ⟨i1, j2⟩ := Prod.mk.inj j1
      subst i0
      subst i1
      subst j2
      exact X.ireturn (pc := 174) (by decide +kernel) ⟨_, rfl, rfl⟩ ⟨rfl, rfl, rfl, rfl, rfl, rfl⟩
set_option maxRecDepth 100000 in
noncomputable def l_Mod_loud_39 (g : Nat) (S : MS) (R : MR) (v0 : Nat) (v1 : Int32) (v2 : Int32) (v3 : Int32) : Nat → MI → ML → Int32 → Int32 → Option (Int32 × MI × ML)
  | 0, _, _, _, _ => none
  | f + 1, I, L, v4, v5 =>
    ifb (v5 < 0)
      (some (v4, I, L))
      (lt (wI I v0 11 v5) fun (I10 : MI) =>
      bnd1 (f_Mod_works g S R I10 L v0 v1 0 1) fun L11 =>
      bnd1 (f_Mod_chanceNow S R I10 L11 v0 (I10 v0 10)) fun x13 =>
      bnd1 (f_Mod_whole g v1) fun x15 =>
      bnd1 (ifb ((lg_cmp (100 * x13) ((Int32.toInt64 v2) * x15)) < 0)
          (some v4)
          (some v5)) fun (y18 : Int32) =>
      l_Mod_loud_39 g S R v0 v1 v2 v3 f I10 L11 y18 (v5 + (-1)))
set_option maxRecDepth 100000 in
set_option maxHeartbeats 4000000 in
theorem xl_Mod_loud_39 {E : Env} (hE : OKE E) {tg : Bool} {d : Nat} (hd : 5 ≤ d) {g : Nat} {S : MS} {R : MR} {n : Nat} {v0 : Nat} {v1 : Int32} {v2 : Int32} {v3 : Int32} {K : KT} :
    ∀ {f : Nat} {I : MI} {L : ML} {v4 : Int32} {v5 : Int32} {o4 : Int32} {I' : MI} {L' : ML}, (S v0).1 = 12 → l_Mod_loud_39 g S R v0 v1 v2 v3 f I L v4 v5 = some (o4, I', L') → X E y_Mod_loud b_Mod_loud 6 (some .int) tg d 0 0 95 [some (.ref (e_b E + v0)), none, none, some (.int v3), some (.int o4), none] [] S I' L' R n K → X E y_Mod_loud b_Mod_loud 6 (some .int) tg d 0 0 39 [some (.ref (e_b E + v0)), some (.int v1), some (.int v2), some (.int v3), some (.int v4), some (.int v5)] [] S I L R n K := by
  intro f
  induction f with
  | zero =>
    intro I L v4 v5 o4 I' L' hS h hk
    rw [l_Mod_loud_39] at h
    cases h
  | succ f ih =>
    intro I L v4 v5 o4 I' L' hS h hk
    rw [l_Mod_loud_39] at h
    refine X.iload_5 (pc := 39) (by decide +kernel) ?_
    rcases ifb_some h with ⟨hq9, h⟩ | ⟨hq9, h⟩
    · refine X.if_lt_t (pc := 41) (off := 54) (tgt := 95) hq9 rfl (by decide +kernel) ?_
      have j0 := Option.some.inj h
      obtain ⟨i0, j1⟩ := Prod.mk.inj j0
      obtain ⟨i1, j2⟩ := Prod.mk.inj j1
      subst i0
      subst i1
      subst j2
      refine X.fgt (o' := [some (.ref (e_b E + v0)), none, none, some (.int v3), some (.int v4), none]) ⟨rfl, ⟨rfl, ⟨rfl, trivial⟩⟩⟩ ?_
      exact hk
    · refine X.if_lt_f (pc := 41) (off := 54) (tgt := 95) hq9 rfl (by decide +kernel) ?_
      refine X.aload_0 (pc := 44) (by decide +kernel) ?_
      refine X.iload_5 (pc := 45) (by decide +kernel) ?_
      refine X.putI (pc := 47) (k := 11) fw_Mod_50 (by decide +kernel) rfl rfl hS ?_
      refine X.nameMI (fun I10 hI10 => ?_)
      have h := lt_at hI10 h
      refine X.aload_0 (pc := 50) (by decide +kernel) ?_
      refine X.iload_1 (pc := 51) (by decide +kernel) ?_
      refine X.iconst (pc := 52) (i := 0) (v := 0) ic_0 (by decide +kernel) ?_
      refine X.iconst (pc := 53) (i := 1) (v := 1) ic_1 (by decide +kernel) ?_
      obtain ⟨L11, hv12, h⟩ := bnd1_some h
      refine X.callVv (pc := 54) (nc := 0) (ns := 0) (c_Mod_works hE (dle hd (Nat.le_of_ble_eq_true rfl)) hS hv12) cv_Mod_329 (by decide +kernel) hS ⟨by decide, rfl⟩ (ddd hd (Nat.le_of_ble_eq_true rfl)) rfl (Nat.le_of_ble_eq_true rfl) rfl rfl ?_
      refine X.ldc2 (pc := 57) (x := 302) (v := 100) ld_Mod_302 (by decide +kernel) ?_
      refine X.aload_0 (pc := 60) (by decide +kernel) ?_
      refine X.aload_0 (pc := 61) (by decide +kernel) ?_
      refine X.getI (pc := 62) (k := 10) fw_Mod_47 (by decide +kernel) (fun _ => rfl) hS ?_
      obtain ⟨x13, hv14, h⟩ := bnd1_some h
      refine X.callVl (pc := 65) (nc := 0) (ns := 0) (c_Mod_chanceNow hE (dle hd (Nat.le_of_ble_eq_true rfl)) hS hv14) cv_Mod_333 (by decide +kernel) hS ⟨by decide, rfl⟩ (ddd hd (Nat.le_of_ble_eq_true rfl)) rfl (Nat.le_of_ble_eq_true rfl) rfl rfl ?_
      refine X.lmul (pc := 68) (by decide +kernel) ?_
      refine X.iload_2 (pc := 69) (by decide +kernel) ?_
      refine X.i2l (pc := 70) (by decide +kernel) ?_
      refine X.iload_1 (pc := 71) (by decide +kernel) ?_
      obtain ⟨x15, hv16, h⟩ := bnd1_some h
      refine X.callSl (pc := 72) (nc := 0) (ns := 0) (c_Mod_whole hE (dle hd (Nat.le_of_ble_eq_true rfl)) hv16) cv_Mod_337 (by decide +kernel) (ddd hd (Nat.le_of_ble_eq_true rfl)) rfl (Nat.le_of_ble_eq_true rfl) rfl rfl ?_
      refine X.lmul (pc := 75) (by decide +kernel) ?_
      refine X.lcmp (pc := 76) (by decide +kernel) ?_
      obtain ⟨y18, hr19, h⟩ := bnd1_some h
      have hj20 : X E y_Mod_loud b_Mod_loud 6 (some .int) tg d 0 0 87 [some (.ref (e_b E + v0)), some (.int v1), some (.int v2), some (.int v3), none, some (.int v5)] [.int y18] S I10 L11 R n K := by
        refine X.istore_4 (pc := 87) (by decide +kernel) (by decide) rfl ?_
        refine X.iinc_5 (pc := 89) (z := (-1)) (v := (-1)) ic_m1 (by decide +kernel) (by decide) rfl ?_
        refine X.goto (pc := 92) (off := (-53)) (tgt := 39) (by decide +kernel) rfl ?_
        exact ih hS h hk
      have h := hr19
      rcases ifb_some h with ⟨hq17, h⟩ | ⟨hq17, h⟩
      · refine X.if_lt_t (pc := 77) (off := 8) (tgt := 85) hq17 rfl (by decide +kernel) ?_
        refine X.iload_4 (pc := 85) (by decide +kernel) ?_
        have j0 := Option.some.inj h
        subst j0
        refine X.fgt (o' := [some (.ref (e_b E + v0)), some (.int v1), some (.int v2), some (.int v3), none, some (.int v5)]) ⟨rfl, ⟨rfl, ⟨rfl, ⟨rfl, ⟨rfl, trivial⟩⟩⟩⟩⟩ ?_
        exact hj20
      · refine X.if_lt_f (pc := 77) (off := 8) (tgt := 85) hq17 rfl (by decide +kernel) ?_
        refine X.iload_5 (pc := 80) (by decide +kernel) ?_
        refine X.goto (pc := 82) (off := 5) (tgt := 87) (by decide +kernel) rfl ?_
        have j0 := Option.some.inj h
        subst j0
        refine X.fgt (o' := [some (.ref (e_b E + v0)), some (.int v1), some (.int v2), some (.int v3), none, some (.int v5)]) ⟨rfl, ⟨rfl, ⟨rfl, ⟨rfl, ⟨rfl, trivial⟩⟩⟩⟩⟩ ?_
        exact hj20
set_option maxRecDepth 100000 in
noncomputable def f_Mod_loud (g : Nat) (S : MS) (R : MR) (I : MI) (L : ML) (t : Nat) (p1 : Int32) (p2 : Int32) : Option (Int32 × MI × ML) :=
  lt (wI I t 0 0) fun (I1 : MI) =>
  bnd1 (f_Mod_areSteps p1) fun x2 =>
  ifb (x2 = 0)
    (some ((-1), I1, L))
    (bnd1 (f_Mod_in (Int32.toInt64 p2) 0 100) fun x5 =>
    ifb (x5 = 0)
      (some ((-1), I1, L))
      (lt (I1 t 11) fun (x8 : Int32) =>
      bnd3 (l_Mod_loud_39 g S R t p1 p2 x8 g I1 L (-2) 10) fun x21 I22 L23 =>
      lt (wI I22 t 11 x8) fun (I25 : MI) =>
      some (x21, I25, L23)))
set_option maxRecDepth 100000 in
set_option maxHeartbeats 4000000 in
theorem c_Mod_loud {E : Env} (hE : OKE E) {tg : Bool} {d : Nat} (hd : 5 ≤ d) {g : Nat} {S : MS} {I : MI} {L : ML} {R : MR} {n : Nat} {t : Nat} {p1 : Int32} {p2 : Int32} {v : Int32} {I' : MI} {L' : ML} (hS : (S t).1 = 12) (h : f_Mod_loud g S R I L t p1 p2 = some (v, I', L')) : C E y_Mod_loud b_Mod_loud 6 (some .int) tg d 0 0 [.ref (e_b E + t), .int p1, .int p2] S I L R n (Kq (some (.int v)) S I' L' R n) := by
  refine C.of (o := [some (.ref (e_b E + t)), some (.int p1), some (.int p2), none, none, none]) (by decide) rfl (Nat.le_of_ble_eq_true rfl) ?_
  rw [f_Mod_loud] at h
  refine X.aload_0 (pc := 0) (by decide +kernel) ?_
  refine X.iconst (pc := 1) (i := 0) (v := 0) ic_0 (by decide +kernel) ?_
  refine X.putI (pc := 2) (k := 0) fw_Mod_3 (by decide +kernel) rfl rfl hS ?_
  refine X.nameMI (fun I1 hI1 => ?_)
  have h := lt_at hI1 h
  refine X.iload_1 (pc := 5) (by decide +kernel) ?_
  obtain ⟨x2, hv3, h⟩ := bnd1_some h
  refine X.callSi (pc := 6) (nc := 0) (ns := 0) (c_Mod_areSteps hE (dle hd (Nat.le_of_ble_eq_true rfl)) hv3) cv_Mod_326 (by decide +kernel) (ddd hd (Nat.le_of_ble_eq_true rfl)) rfl (Nat.le_of_ble_eq_true rfl) rfl rfl ?_
  rcases ifb_some h with ⟨hq4, h⟩ | ⟨hq4, h⟩
  · refine X.if_eq_t (pc := 9) (off := 15) (tgt := 24) hq4 rfl (by decide +kernel) ?_
    refine X.iconst (pc := 24) (i := (-1)) (v := (-1)) ic_m1 (by decide +kernel) ?_
    have j0 := Option.some.inj h
    obtain ⟨i0, j1⟩ := Prod.mk.inj j0
    obtain ⟨i1, j2⟩ := Prod.mk.inj j1
    subst i0
    subst i1
    subst j2
    exact X.ireturn (pc := 25) (by decide +kernel) ⟨_, rfl, rfl⟩ ⟨rfl, rfl, rfl, rfl, rfl, rfl⟩
  · refine X.if_eq_f (pc := 9) (off := 15) (tgt := 24) hq4 rfl (by decide +kernel) ?_
    refine X.iload_2 (pc := 12) (by decide +kernel) ?_
    refine X.i2l (pc := 13) (by decide +kernel) ?_
    refine X.lconst (pc := 14) (i := 0) (v := 0) rfl (by decide +kernel) ?_
    refine X.ldc2 (pc := 15) (x := 302) (v := 100) ld_Mod_302 (by decide +kernel) ?_
    obtain ⟨x5, hv6, h⟩ := bnd1_some h
    refine X.callSi (pc := 18) (nc := 0) (ns := 0) (c_Mod_in hE (dle hd (Nat.le_of_ble_eq_true rfl)) hv6) cv_Mod_151 (by decide +kernel) (ddd hd (Nat.le_of_ble_eq_true rfl)) rfl (Nat.le_of_ble_eq_true rfl) rfl rfl ?_
    rcases ifb_some h with ⟨hq7, h⟩ | ⟨hq7, h⟩
    · refine X.if_ne_f (pc := 21) (off := 5) (tgt := 26) hq7 rfl (by decide +kernel) ?_
      refine X.iconst (pc := 24) (i := (-1)) (v := (-1)) ic_m1 (by decide +kernel) ?_
      have j0 := Option.some.inj h
      obtain ⟨i0, j1⟩ := Prod.mk.inj j0
      obtain ⟨i1, j2⟩ := Prod.mk.inj j1
      subst i0
      subst i1
      subst j2
      exact X.ireturn (pc := 25) (by decide +kernel) ⟨_, rfl, rfl⟩ ⟨rfl, rfl, rfl, rfl, rfl, rfl⟩
    · refine X.if_ne_t (pc := 21) (off := 5) (tgt := 26) hq7 rfl (by decide +kernel) ?_
      refine X.aload_0 (pc := 26) (by decide +kernel) ?_
      refine X.getI (pc := 27) (k := 11) fw_Mod_50 (by decide +kernel) (fun _ => rfl) hS ?_
      refine X.nameI (fun x8 hx8 => ?_)
      have h := lt_at hx8 h
      refine X.istore_3 (pc := 30) (by decide +kernel) (by decide) rfl ?_
      refine X.bipush (pc := 31) (i := (-2)) (v := (-2)) bp_m2 (by decide +kernel) ?_
      refine X.istore_4 (pc := 33) (by decide +kernel) (by decide) rfl ?_
      refine X.bipush (pc := 35) (i := 10) (v := 10) bp_10 (by decide +kernel) ?_
      refine X.istore_5 (pc := 37) (by decide +kernel) (by decide) rfl ?_
      obtain ⟨x21, I22, L23, hv24, h⟩ := bnd3_some h
      refine xl_Mod_loud_39 hE hd hS hv24 ?_
      refine X.aload_0 (pc := 95) (by decide +kernel) ?_
      refine X.iload_3 (pc := 96) (by decide +kernel) ?_
      refine X.putI (pc := 97) (k := 11) fw_Mod_50 (by decide +kernel) rfl rfl hS ?_
      refine X.nameMI (fun I25 hI25 => ?_)
      have h := lt_at hI25 h
      refine X.iload_4 (pc := 100) (by decide +kernel) ?_
      have j0 := Option.some.inj h
      obtain ⟨i0, j1⟩ := Prod.mk.inj j0
      obtain ⟨i1, j2⟩ := Prod.mk.inj j1
      subst i0
      subst i1
      subst j2
      exact X.ireturn (pc := 102) (by decide +kernel) ⟨_, rfl, rfl⟩ ⟨rfl, rfl, rfl, rfl, rfl, rfl⟩
set_option maxRecDepth 100000 in
noncomputable def f_Mod_owed (S : MS) (R : MR) (I : MI) (t : Nat) : Option (Int32 × MI) :=
  lt (wI I t 0 0) fun (I1 : MI) =>
  bnd1 (R t 21) fun b2 =>
  asrt ((S b2).1 = 20) <|
  asrt (vp_in 0 (S b2).2) <|
  asrt (vp_in 1 (S b2).2) <|
  bnd1 (R t 5) fun b6 =>
  lt (I1 t 7) fun (x7 : Int32) =>
  asrt ((S b6).1 = 20) <|
  asrt (vp_in x7 (S b6).2) <|
  bnd1 (ifb ((I1 b6 (Int32.toNatClampNeg x7)) = 3)
      (some 1)
      (some 0)) fun (y11 : Int32) =>
  bnd1 (f_Mod_flag y11) fun x14 =>
  asrt (vp_in 2 (S b2).2) <|
  lt (I1 t 7) fun (x17 : Int32) =>
  asrt (vp_in x17 (S b6).2) <|
  bnd1 (ifb ((I1 b6 (Int32.toNatClampNeg x17)) = 1)
      (some 1)
      (some 0)) fun (y20 : Int32) =>
  bnd1 (f_Mod_flag y20) fun x23 =>
  asrt (vp_in 3 (S b2).2) <|
  asrt (vp_in 4 (S b2).2) <|
  lt (((((I1 b2 (Int32.toNatClampNeg 0)) + ((I1 b2 (Int32.toNatClampNeg 1)) * x14)) + ((I1 b2 (Int32.toNatClampNeg 2)) * x23)) + ((I1 b2 (Int32.toNatClampNeg 3)) * (I1 t 13))) + ((I1 b2 (Int32.toNatClampNeg 4)) * (I1 t 14))) fun (x27 : Int32) =>
  some (x27, I1)
set_option maxRecDepth 100000 in
set_option maxHeartbeats 4000000 in
theorem c_Mod_owed {E : Env} (hE : OKE E) {tg : Bool} {d : Nat} (hd : 1 ≤ d) {S : MS} {I : MI} {L : ML} {R : MR} {n : Nat} {t : Nat} {v : Int32} {I' : MI} (hS : (S t).1 = 12) (h : f_Mod_owed S R I t = some (v, I')) : C E y_Mod_owed b_Mod_owed 1 (some .int) tg d 0 0 [.ref (e_b E + t)] S I L R n (Kq (some (.int v)) S I' L R n) := by
  refine C.of (o := [some (.ref (e_b E + t))]) (by decide) rfl (Nat.le_of_ble_eq_true rfl) ?_
  rw [f_Mod_owed] at h
  refine X.aload_0 (pc := 0) (by decide +kernel) ?_
  refine X.iconst (pc := 1) (i := 0) (v := 0) ic_0 (by decide +kernel) ?_
  refine X.putI (pc := 2) (k := 0) fw_Mod_3 (by decide +kernel) rfl rfl hS ?_
  refine X.nameMI (fun I1 hI1 => ?_)
  have h := lt_at hI1 h
  refine X.aload_0 (pc := 5) (by decide +kernel) ?_
  obtain ⟨b2, hb2, h⟩ := bnd1_some h
  refine X.getR (pc := 6) (k := 21) fw_Mod_65 (by decide +kernel) (fun _ => rfl) hS hb2 ?_
  refine X.iconst (pc := 9) (i := 0) (v := 0) ic_0 (by decide +kernel) ?_
  obtain ⟨hc4, h⟩ := asrt_some h
  obtain ⟨hi3, h⟩ := asrt_some h
  refine X.iaload (pc := 10) (by decide +kernel) hc4 hi3 ?_
  refine X.aload_0 (pc := 11) (by decide +kernel) ?_
  refine X.getR (pc := 12) (k := 21) fw_Mod_65 (by decide +kernel) (fun _ => rfl) hS hb2 ?_
  refine X.iconst (pc := 15) (i := 1) (v := 1) ic_1 (by decide +kernel) ?_
  obtain ⟨hi5, h⟩ := asrt_some h
  refine X.iaload (pc := 16) (by decide +kernel) hc4 hi5 ?_
  refine X.aload_0 (pc := 17) (by decide +kernel) ?_
  obtain ⟨b6, hb6, h⟩ := bnd1_some h
  refine X.getR (pc := 18) (k := 5) fw_Mod_40 (by decide +kernel) (fun _ => rfl) hS hb6 ?_
  refine X.aload_0 (pc := 21) (by decide +kernel) ?_
  refine X.getI (pc := 22) (k := 7) fw_Mod_204 (by decide +kernel) (fun _ => rfl) hS ?_
  refine X.nameI (fun x7 hx7 => ?_)
  have h := lt_at hx7 h
  obtain ⟨hc9, h⟩ := asrt_some h
  obtain ⟨hi8, h⟩ := asrt_some h
  refine X.iaload (pc := 25) (by decide +kernel) hc9 hi8 ?_
  refine X.iconst (pc := 26) (i := 3) (v := 3) ic_3 (by decide +kernel) ?_
  obtain ⟨y11, hr12, h⟩ := bnd1_some h
  have hj13 : X E y_Mod_owed b_Mod_owed 1 (some .int) tg d 0 0 35 [some (.ref (e_b E + t))] [.int y11, .int (I1 b2 (Int32.toNatClampNeg 1)), .int (I1 b2 (Int32.toNatClampNeg 0))] S I1 L R n (Kq (some (.int v)) S I' L R n) := by
    obtain ⟨x14, hv15, h⟩ := bnd1_some h
    refine X.callSi (pc := 35) (nc := 0) (ns := 0) (c_Mod_flag hE (dle hd (Nat.le_of_ble_eq_true rfl)) hv15) cv_Mod_155 (by decide +kernel) (ddd hd (Nat.le_of_ble_eq_true rfl)) rfl (Nat.le_of_ble_eq_true rfl) rfl rfl ?_
    refine X.imul (pc := 38) (by decide +kernel) ?_
    refine X.iadd (pc := 39) (by decide +kernel) ?_
    refine X.aload_0 (pc := 40) (by decide +kernel) ?_
    refine X.getR (pc := 41) (k := 21) fw_Mod_65 (by decide +kernel) (fun _ => rfl) hS hb2 ?_
    refine X.iconst (pc := 44) (i := 2) (v := 2) ic_2 (by decide +kernel) ?_
    obtain ⟨hi16, h⟩ := asrt_some h
    refine X.iaload (pc := 45) (by decide +kernel) hc4 hi16 ?_
    refine X.aload_0 (pc := 46) (by decide +kernel) ?_
    refine X.getR (pc := 47) (k := 5) fw_Mod_40 (by decide +kernel) (fun _ => rfl) hS hb6 ?_
    refine X.aload_0 (pc := 50) (by decide +kernel) ?_
    refine X.getI (pc := 51) (k := 7) fw_Mod_204 (by decide +kernel) (fun _ => rfl) hS ?_
    refine X.nameI (fun x17 hx17 => ?_)
    have h := lt_at hx17 h
    obtain ⟨hi18, h⟩ := asrt_some h
    refine X.iaload (pc := 54) (by decide +kernel) hc9 hi18 ?_
    refine X.iconst (pc := 55) (i := 1) (v := 1) ic_1 (by decide +kernel) ?_
    obtain ⟨y20, hr21, h⟩ := bnd1_some h
    have hj22 : X E y_Mod_owed b_Mod_owed 1 (some .int) tg d 0 0 64 [some (.ref (e_b E + t))] [.int y20, .int (I1 b2 (Int32.toNatClampNeg 2)), .int ((I1 b2 (Int32.toNatClampNeg 0)) + ((I1 b2 (Int32.toNatClampNeg 1)) * x14))] S I1 L R n (Kq (some (.int v)) S I' L R n) := by
      obtain ⟨x23, hv24, h⟩ := bnd1_some h
      refine X.callSi (pc := 64) (nc := 0) (ns := 0) (c_Mod_flag hE (dle hd (Nat.le_of_ble_eq_true rfl)) hv24) cv_Mod_155 (by decide +kernel) (ddd hd (Nat.le_of_ble_eq_true rfl)) rfl (Nat.le_of_ble_eq_true rfl) rfl rfl ?_
      refine X.imul (pc := 67) (by decide +kernel) ?_
      refine X.iadd (pc := 68) (by decide +kernel) ?_
      refine X.aload_0 (pc := 69) (by decide +kernel) ?_
      refine X.getR (pc := 70) (k := 21) fw_Mod_65 (by decide +kernel) (fun _ => rfl) hS hb2 ?_
      refine X.iconst (pc := 73) (i := 3) (v := 3) ic_3 (by decide +kernel) ?_
      obtain ⟨hi25, h⟩ := asrt_some h
      refine X.iaload (pc := 74) (by decide +kernel) hc4 hi25 ?_
      refine X.aload_0 (pc := 75) (by decide +kernel) ?_
      refine X.getI (pc := 76) (k := 13) fw_Mod_210 (by decide +kernel) (fun _ => rfl) hS ?_
      refine X.imul (pc := 79) (by decide +kernel) ?_
      refine X.iadd (pc := 80) (by decide +kernel) ?_
      refine X.aload_0 (pc := 81) (by decide +kernel) ?_
      refine X.getR (pc := 82) (k := 21) fw_Mod_65 (by decide +kernel) (fun _ => rfl) hS hb2 ?_
      refine X.iconst (pc := 85) (i := 4) (v := 4) ic_4 (by decide +kernel) ?_
      obtain ⟨hi26, h⟩ := asrt_some h
      refine X.iaload (pc := 86) (by decide +kernel) hc4 hi26 ?_
      refine X.aload_0 (pc := 87) (by decide +kernel) ?_
      refine X.getI (pc := 88) (k := 14) fw_Mod_213 (by decide +kernel) (fun _ => rfl) hS ?_
      refine X.imul (pc := 91) (by decide +kernel) ?_
      refine X.iadd (pc := 92) (by decide +kernel) ?_
      refine X.nameI (fun x27 hx27 => ?_)
      have h := lt_at hx27 h
      have j0 := Option.some.inj h
      obtain ⟨i0, j1⟩ := Prod.mk.inj j0
      subst i0
      subst j1
      exact X.ireturn (pc := 93) (by decide +kernel) ⟨_, rfl, rfl⟩ ⟨rfl, rfl, rfl, rfl, rfl, rfl⟩
    have h := hr21
    rcases ifb_some h with ⟨hq19, h⟩ | ⟨hq19, h⟩
    · refine X.icmp_ne_f (pc := 56) (off := 7) (tgt := 63) hq19 rfl (by decide +kernel) ?_
      refine X.iconst (pc := 59) (i := 1) (v := 1) ic_1 (by decide +kernel) ?_
      refine X.goto (pc := 60) (off := 4) (tgt := 64) (by decide +kernel) rfl ?_
      have j0 := Option.some.inj h
      subst j0
      exact hj22
    · refine X.icmp_ne_t (pc := 56) (off := 7) (tgt := 63) hq19 rfl (by decide +kernel) ?_
      refine X.iconst (pc := 63) (i := 0) (v := 0) ic_0 (by decide +kernel) ?_
      have j0 := Option.some.inj h
      subst j0
      exact hj22
  have h := hr12
  rcases ifb_some h with ⟨hq10, h⟩ | ⟨hq10, h⟩
  · refine X.icmp_ne_f (pc := 27) (off := 7) (tgt := 34) hq10 rfl (by decide +kernel) ?_
    refine X.iconst (pc := 30) (i := 1) (v := 1) ic_1 (by decide +kernel) ?_
    refine X.goto (pc := 31) (off := 4) (tgt := 35) (by decide +kernel) rfl ?_
    have j0 := Option.some.inj h
    subst j0
    exact hj13
  · refine X.icmp_ne_t (pc := 27) (off := 7) (tgt := 34) hq10 rfl (by decide +kernel) ?_
    refine X.iconst (pc := 34) (i := 0) (v := 0) ic_0 (by decide +kernel) ?_
    have j0 := Option.some.inj h
    subst j0
    exact hj13
set_option maxRecDepth 100000 in
noncomputable def f_Mod_areFew (p1 : Int32) : Option Int32 :=
  bnd1 (f_Mod_in (Int32.toInt64 p1) 0 5) fun x1 =>
  asrt (x1 = 0 ∨ x1 = 1) <|
  some x1
set_option maxRecDepth 100000 in
set_option maxHeartbeats 4000000 in
theorem c_Mod_areFew {E : Env} (hE : OKE E) {tg : Bool} {d : Nat} (hd : 1 ≤ d) {S : MS} {I : MI} {L : ML} {R : MR} {n : Nat} {p1 : Int32} {v : Int32} (h : f_Mod_areFew p1 = some v) : C E y_Mod_areFew b_Mod_areFew 1 (some .boolean) tg d 0 0 [.int p1] S I L R n (Kq (some (.int v)) S I L R n) := by
  refine C.of (o := [some (.int p1)]) (by decide) rfl (Nat.le_of_ble_eq_true rfl) ?_
  rw [f_Mod_areFew] at h
  refine X.iload_0 (pc := 0) (by decide +kernel) ?_
  refine X.i2l (pc := 1) (by decide +kernel) ?_
  refine X.lconst (pc := 2) (i := 0) (v := 0) rfl (by decide +kernel) ?_
  refine X.ldc2 (pc := 3) (x := 358) (v := 5) ld_Mod_358 (by decide +kernel) ?_
  obtain ⟨x1, hv2, h⟩ := bnd1_some h
  refine X.callSi (pc := 6) (nc := 0) (ns := 0) (c_Mod_in hE (dle hd (Nat.le_of_ble_eq_true rfl)) hv2) cv_Mod_151 (by decide +kernel) (ddd hd (Nat.le_of_ble_eq_true rfl)) rfl (Nat.le_of_ble_eq_true rfl) rfl rfl ?_
  obtain ⟨hb3, h⟩ := asrt_some h
  have j0 := Option.some.inj h
  subst j0
  exact X.ireturn (pc := 9) (by decide +kernel) ⟨_, rfl, nz01 hb3⟩ ⟨rfl, rfl, rfl, rfl, rfl, rfl⟩
set_option maxRecDepth 100000 in
noncomputable def l_Mod_wantsAt_112 (g : Nat) (S : MS) (R : MR) (I : MI) (v0 : Nat) (v1 : Nat) (v2 : Int64) (v4 : Int32) (v5 : Int32) (v6 : Int32) (v7 : Int32) : Nat → ML → Int32 → Option ML
  | 0, _, _ => none
  | f + 1, L, v8 =>
    ifb (3 ≤ v8)
      (some L)
      (ifb (v6 ≤ 0)
        (some L)
        (asrt ((S v1).1 = 20) <|
        asrt (vp_in 3 (S v1).2) <|
        asrt (vp_in 4 (S v1).2) <|
        bnd1 (R v0 32) fun b28 =>
        bnd1 (f_Mod_comesOf g S R I L v0 v4 v5 v6 v8 b28) fun x29 =>
        lt (((Int32.toInt64 ((I v1 (Int32.toNatClampNeg 3)) + (I v1 (Int32.toNatClampNeg 4)))) * v2) + x29) fun (x31 : Int64) =>
        bnd1 (R v0 28) fun b32 =>
        bnd1 (f_Mod_comesOf g S R I L v0 v4 v5 v6 v8 b32) fun x33 =>
        bnd1 (R v0 33) fun b35 =>
        asrt ((S b35).1 = 21) <|
        asrt (vp_in v7 (S b35).2) <|
        bnd1 (ifb (0 < (lg_cmp x31 (L b35 (Int32.toNatClampNeg v7))))
            (asrt (vp_in v7 (S b35).2) <|
            lt (wL L b35 (Int32.toNatClampNeg v7) x31) fun (L43 : ML) =>
            bnd1 (R v0 29) fun b44 =>
            asrt ((S b44).1 = 21) <|
            asrt (vp_in v7 (S b44).2) <|
            lt (wL L43 b44 (Int32.toNatClampNeg v7) x33) fun (L47 : ML) =>
            some L47)
            (asrt (vp_in v7 (S b35).2) <|
            ifb ((lg_cmp x31 (L b35 (Int32.toNatClampNeg v7))) = 0)
              (bnd1 (R v0 29) fun b50 =>
              asrt ((S b50).1 = 21) <|
              asrt (vp_in v7 (S b50).2) <|
              ifb ((lg_cmp x33 (L b50 (Int32.toNatClampNeg v7))) ≤ 0)
                (some L)
                (asrt (vp_in v7 (S b35).2) <|
                lt (wL L b35 (Int32.toNatClampNeg v7) x31) fun (L55 : ML) =>
                asrt (vp_in v7 (S b50).2) <|
                lt (wL L55 b50 (Int32.toNatClampNeg v7) x33) fun (L57 : ML) =>
                some L57))
              (some L))) fun (L39 : ML) =>
        l_Mod_wantsAt_112 g S R I v0 v1 v2 v4 v5 v6 v7 f L39 (v8 + 1)))
set_option maxRecDepth 100000 in
set_option maxHeartbeats 4000000 in
theorem xl_Mod_wantsAt_112 {E : Env} (hE : OKE E) {tg : Bool} {d : Nat} (hd : 3 ≤ d) {g : Nat} {S : MS} {I : MI} {R : MR} {n : Nat} {v0 : Nat} {v1 : Nat} {v2 : Int64} {v4 : Int32} {v5 : Int32} {v6 : Int32} {v7 : Int32} {K : KT} :
    ∀ {f : Nat} {L : ML} {v8 : Int32} {L' : ML}, (S v0).1 = 12 → l_Mod_wantsAt_112 g S R I v0 v1 v2 v4 v5 v6 v7 f L v8 = some L' → X E y_Mod_wantsAt b_Mod_wantsAt 13 none tg d 0 0 233 [none, none, none, none, none, none, none, none, none, none, none, none, none] [] S I L' R n K → X E y_Mod_wantsAt b_Mod_wantsAt 13 none tg d 0 0 112 [some (.ref (e_b E + v0)), some (.ref (e_b E + v1)), some (.long v2), none, some (.int v4), some (.int v5), some (.int v6), some (.int v7), some (.int v8), none, none, none, none] [] S I L R n K := by
  intro f
  induction f with
  | zero =>
    intro L v8 L' hS h hk
    rw [l_Mod_wantsAt_112] at h
    cases h
  | succ f ih =>
    intro L v8 L' hS h hk
    rw [l_Mod_wantsAt_112] at h
    refine X.iload_8 (pc := 112) (by decide +kernel) ?_
    refine X.iconst (pc := 114) (i := 3) (v := 3) ic_3 (by decide +kernel) ?_
    rcases ifb_some h with ⟨hq23, h⟩ | ⟨hq23, h⟩
    · refine X.icmp_ge_t (pc := 115) (off := 118) (tgt := 233) hq23 rfl (by decide +kernel) ?_
      have j0 := Option.some.inj h
      subst j0
      refine X.fgt (o' := [none, none, none, none, none, none, none, none, none, none, none, none, none]) trivial ?_
      exact hk
    · refine X.icmp_ge_f (pc := 115) (off := 118) (tgt := 233) hq23 rfl (by decide +kernel) ?_
      refine X.iload_6 (pc := 118) (by decide +kernel) ?_
      rcases ifb_some h with ⟨hq24, h⟩ | ⟨hq24, h⟩
      · refine X.if_le_t (pc := 120) (off := 113) (tgt := 233) hq24 rfl (by decide +kernel) ?_
        have j0 := Option.some.inj h
        subst j0
        refine X.fgt (o' := [none, none, none, none, none, none, none, none, none, none, none, none, none]) trivial ?_
        exact hk
      · refine X.if_le_f (pc := 120) (off := 113) (tgt := 233) hq24 rfl (by decide +kernel) ?_
        refine X.aload_1 (pc := 123) (by decide +kernel) ?_
        refine X.iconst (pc := 124) (i := 3) (v := 3) ic_3 (by decide +kernel) ?_
        obtain ⟨hc26, h⟩ := asrt_some h
        obtain ⟨hi25, h⟩ := asrt_some h
        refine X.iaload (pc := 125) (by decide +kernel) hc26 hi25 ?_
        refine X.aload_1 (pc := 126) (by decide +kernel) ?_
        refine X.iconst (pc := 127) (i := 4) (v := 4) ic_4 (by decide +kernel) ?_
        obtain ⟨hi27, h⟩ := asrt_some h
        refine X.iaload (pc := 128) (by decide +kernel) hc26 hi27 ?_
        refine X.iadd (pc := 129) (by decide +kernel) ?_
        refine X.i2l (pc := 130) (by decide +kernel) ?_
        refine X.lload_2 (pc := 131) (by decide +kernel) ?_
        refine X.lmul (pc := 132) (by decide +kernel) ?_
        refine X.aload_0 (pc := 133) (by decide +kernel) ?_
        refine X.iload_4 (pc := 134) (by decide +kernel) ?_
        refine X.iload_5 (pc := 136) (by decide +kernel) ?_
        refine X.iload_6 (pc := 138) (by decide +kernel) ?_
        refine X.iload_8 (pc := 140) (by decide +kernel) ?_
        refine X.aload_0 (pc := 142) (by decide +kernel) ?_
        obtain ⟨b28, hb28, h⟩ := bnd1_some h
        refine X.getR (pc := 143) (k := 32) fw_Mod_96 (by decide +kernel) (fun _ => rfl) hS hb28 ?_
        obtain ⟨x29, hv30, h⟩ := bnd1_some h
        refine X.callVl (pc := 146) (nc := 0) (ns := 0) (c_Mod_comesOf hE (dle hd (Nat.le_of_ble_eq_true rfl)) hS hv30) cv_Mod_310 (by decide +kernel) hS ⟨by decide, rfl⟩ (ddd hd (Nat.le_of_ble_eq_true rfl)) rfl (Nat.le_of_ble_eq_true rfl) rfl rfl ?_
        refine X.ladd (pc := 149) (by decide +kernel) ?_
        refine X.nameL (fun x31 hx31 => ?_)
        have h := lt_at hx31 h
        refine X.lstore_9 (pc := 150) (by decide +kernel) (by decide) rfl ?_
        refine X.aload_0 (pc := 152) (by decide +kernel) ?_
        refine X.iload_4 (pc := 153) (by decide +kernel) ?_
        refine X.iload_5 (pc := 155) (by decide +kernel) ?_
        refine X.iload_6 (pc := 157) (by decide +kernel) ?_
        refine X.iload_8 (pc := 159) (by decide +kernel) ?_
        refine X.aload_0 (pc := 161) (by decide +kernel) ?_
        obtain ⟨b32, hb32, h⟩ := bnd1_some h
        refine X.getR (pc := 162) (k := 28) fw_Mod_84 (by decide +kernel) (fun _ => rfl) hS hb32 ?_
        obtain ⟨x33, hv34, h⟩ := bnd1_some h
        refine X.callVl (pc := 165) (nc := 0) (ns := 0) (c_Mod_comesOf hE (dle hd (Nat.le_of_ble_eq_true rfl)) hS hv34) cv_Mod_310 (by decide +kernel) hS ⟨by decide, rfl⟩ (ddd hd (Nat.le_of_ble_eq_true rfl)) rfl (Nat.le_of_ble_eq_true rfl) rfl rfl ?_
        refine X.lstore_11 (pc := 168) (by decide +kernel) (by decide) rfl ?_
        refine X.lload_9 (pc := 170) (by decide +kernel) ?_
        refine X.aload_0 (pc := 172) (by decide +kernel) ?_
        obtain ⟨b35, hb35, h⟩ := bnd1_some h
        refine X.getR (pc := 173) (k := 33) fw_Mod_99 (by decide +kernel) (fun _ => rfl) hS hb35 ?_
        refine X.iload_7 (pc := 176) (by decide +kernel) ?_
        obtain ⟨hc37, h⟩ := asrt_some h
        obtain ⟨hi36, h⟩ := asrt_some h
        refine X.laload (pc := 178) (by decide +kernel) hc37 hi36 ?_
        refine X.lcmp (pc := 179) (by decide +kernel) ?_
        obtain ⟨L39, hr40, h⟩ := bnd1_some h
        have hj41 : X E y_Mod_wantsAt b_Mod_wantsAt 13 none tg d 0 0 227 [some (.ref (e_b E + v0)), some (.ref (e_b E + v1)), some (.long v2), none, some (.int v4), some (.int v5), some (.int v6), some (.int v7), some (.int v8), none, none, none, none] [] S I L39 R n K := by
          refine X.iinc_8 (pc := 227) (z := 1) (v := 1) ic_1 (by decide +kernel) (by decide) rfl ?_
          refine X.goto (pc := 230) (off := (-118)) (tgt := 112) (by decide +kernel) rfl ?_
          exact ih hS h hk
        have h := hr40
        rcases ifb_some h with ⟨hq38, h⟩ | ⟨hq38, h⟩
        · refine X.if_gt_t (pc := 180) (off := 29) (tgt := 209) hq38 rfl (by decide +kernel) ?_
          refine X.aload_0 (pc := 209) (by decide +kernel) ?_
          refine X.getR (pc := 210) (k := 33) fw_Mod_99 (by decide +kernel) (fun _ => rfl) hS hb35 ?_
          refine X.iload_7 (pc := 213) (by decide +kernel) ?_
          refine X.lload_9 (pc := 215) (by decide +kernel) ?_
          obtain ⟨hi42, h⟩ := asrt_some h
          refine X.lastore (pc := 217) (by decide +kernel) hc37 hi42 ?_
          refine X.nameML (fun L43 hL43 => ?_)
          have h := lt_at hL43 h
          refine X.aload_0 (pc := 218) (by decide +kernel) ?_
          obtain ⟨b44, hb44, h⟩ := bnd1_some h
          refine X.getR (pc := 219) (k := 29) fw_Mod_87 (by decide +kernel) (fun _ => rfl) hS hb44 ?_
          refine X.iload_7 (pc := 222) (by decide +kernel) ?_
          refine X.lload_11 (pc := 224) (by decide +kernel) ?_
          obtain ⟨hc45, h⟩ := asrt_some h
          obtain ⟨hi46, h⟩ := asrt_some h
          refine X.lastore (pc := 226) (by decide +kernel) hc45 hi46 ?_
          refine X.nameML (fun L47 hL47 => ?_)
          have h := lt_at hL47 h
          have j0 := Option.some.inj h
          subst j0
          refine X.fgt (o' := [some (.ref (e_b E + v0)), some (.ref (e_b E + v1)), some (.long v2), none, some (.int v4), some (.int v5), some (.int v6), some (.int v7), some (.int v8), none, none, none, none]) ⟨rfl, ⟨rfl, ⟨rfl, ⟨rfl, ⟨rfl, ⟨rfl, ⟨rfl, ⟨rfl, trivial⟩⟩⟩⟩⟩⟩⟩⟩ ?_
          exact hj41
        · refine X.if_gt_f (pc := 180) (off := 29) (tgt := 209) hq38 rfl (by decide +kernel) ?_
          refine X.lload_9 (pc := 183) (by decide +kernel) ?_
          refine X.aload_0 (pc := 185) (by decide +kernel) ?_
          refine X.getR (pc := 186) (k := 33) fw_Mod_99 (by decide +kernel) (fun _ => rfl) hS hb35 ?_
          refine X.iload_7 (pc := 189) (by decide +kernel) ?_
          obtain ⟨hi48, h⟩ := asrt_some h
          refine X.laload (pc := 191) (by decide +kernel) hc37 hi48 ?_
          refine X.lcmp (pc := 192) (by decide +kernel) ?_
          rcases ifb_some h with ⟨hq49, h⟩ | ⟨hq49, h⟩
          · refine X.if_ne_f (pc := 193) (off := 34) (tgt := 227) hq49 rfl (by decide +kernel) ?_
            refine X.lload_11 (pc := 196) (by decide +kernel) ?_
            refine X.aload_0 (pc := 198) (by decide +kernel) ?_
            obtain ⟨b50, hb50, h⟩ := bnd1_some h
            refine X.getR (pc := 199) (k := 29) fw_Mod_87 (by decide +kernel) (fun _ => rfl) hS hb50 ?_
            refine X.iload_7 (pc := 202) (by decide +kernel) ?_
            obtain ⟨hc52, h⟩ := asrt_some h
            obtain ⟨hi51, h⟩ := asrt_some h
            refine X.laload (pc := 204) (by decide +kernel) hc52 hi51 ?_
            refine X.lcmp (pc := 205) (by decide +kernel) ?_
            rcases ifb_some h with ⟨hq53, h⟩ | ⟨hq53, h⟩
            · refine X.if_le_t (pc := 206) (off := 21) (tgt := 227) hq53 rfl (by decide +kernel) ?_
              have j0 := Option.some.inj h
              subst j0
              refine X.fgt (o' := [some (.ref (e_b E + v0)), some (.ref (e_b E + v1)), some (.long v2), none, some (.int v4), some (.int v5), some (.int v6), some (.int v7), some (.int v8), none, none, none, none]) ⟨rfl, ⟨rfl, ⟨rfl, ⟨rfl, ⟨rfl, ⟨rfl, ⟨rfl, ⟨rfl, trivial⟩⟩⟩⟩⟩⟩⟩⟩ ?_
              exact hj41
            · refine X.if_le_f (pc := 206) (off := 21) (tgt := 227) hq53 rfl (by decide +kernel) ?_
              refine X.aload_0 (pc := 209) (by decide +kernel) ?_
              refine X.getR (pc := 210) (k := 33) fw_Mod_99 (by decide +kernel) (fun _ => rfl) hS hb35 ?_
              refine X.iload_7 (pc := 213) (by decide +kernel) ?_
              refine X.lload_9 (pc := 215) (by decide +kernel) ?_
              obtain ⟨hi54, h⟩ := asrt_some h
              refine X.lastore (pc := 217) (by decide +kernel) hc37 hi54 ?_
              refine X.nameML (fun L55 hL55 => ?_)
              have h := lt_at hL55 h
              refine X.aload_0 (pc := 218) (by decide +kernel) ?_
              refine X.getR (pc := 219) (k := 29) fw_Mod_87 (by decide +kernel) (fun _ => rfl) hS hb50 ?_
              refine X.iload_7 (pc := 222) (by decide +kernel) ?_
              refine X.lload_11 (pc := 224) (by decide +kernel) ?_
              obtain ⟨hi56, h⟩ := asrt_some h
              refine X.lastore (pc := 226) (by decide +kernel) hc52 hi56 ?_
              refine X.nameML (fun L57 hL57 => ?_)
              have h := lt_at hL57 h
              have j0 := Option.some.inj h
              subst j0
              refine X.fgt (o' := [some (.ref (e_b E + v0)), some (.ref (e_b E + v1)), some (.long v2), none, some (.int v4), some (.int v5), some (.int v6), some (.int v7), some (.int v8), none, none, none, none]) ⟨rfl, ⟨rfl, ⟨rfl, ⟨rfl, ⟨rfl, ⟨rfl, ⟨rfl, ⟨rfl, trivial⟩⟩⟩⟩⟩⟩⟩⟩ ?_
              exact hj41
          · refine X.if_ne_t (pc := 193) (off := 34) (tgt := 227) hq49 rfl (by decide +kernel) ?_
            have j0 := Option.some.inj h
            subst j0
            refine X.fgt (o' := [some (.ref (e_b E + v0)), some (.ref (e_b E + v1)), some (.long v2), none, some (.int v4), some (.int v5), some (.int v6), some (.int v7), some (.int v8), none, none, none, none]) ⟨rfl, ⟨rfl, ⟨rfl, ⟨rfl, ⟨rfl, ⟨rfl, ⟨rfl, ⟨rfl, trivial⟩⟩⟩⟩⟩⟩⟩⟩ ?_
            exact hj41
set_option maxRecDepth 100000 in
noncomputable def f_Mod_wantsAt (g : Nat) (S : MS) (R : MR) (I : MI) (L : ML) (t : Nat) (p1 : Nat) (p2 : Int64) (p3 : Int32) (p4 : Int32) (p5 : Int32) : Option ML :=
  bnd1 (f_Mod_stateOf t p3 p4 p5) fun x1 =>
  bnd1 (f_Mod_isEnd S R I t p3) fun x3 =>
  ifb (x3 = 0)
    (bnd1 (R t 29) fun b6 =>
    bnd1 (R t 28) fun b7 =>
    bnd1 (f_Mod_comesOf g S R I L t p3 p4 p5 3 b7) fun x8 =>
    asrt ((S b6).1 = 21) <|
    asrt (vp_in x1 (S b6).2) <|
    lt (wL L b6 (Int32.toNatClampNeg x1) x8) fun (L12 : ML) =>
    bnd1 (R t 33) fun b13 =>
    asrt ((S p1).1 = 20) <|
    asrt (vp_in 3 (S p1).2) <|
    bnd1 (R t 32) fun b16 =>
    bnd1 (f_Mod_comesOf g S R I L12 t p3 p4 p5 3 b16) fun x17 =>
    lt (((Int32.toInt64 (I p1 (Int32.toNatClampNeg 3))) * p2) + x17) fun (x19 : Int64) =>
    asrt ((S b13).1 = 21) <|
    asrt (vp_in x1 (S b13).2) <|
    lt (wL L12 b13 (Int32.toNatClampNeg x1) x19) fun (L22 : ML) =>
    bnd1 (l_Mod_wantsAt_112 g S R I t p1 p2 p3 p4 p5 x1 g L22 0) fun L58 =>
    some L58)
    (bnd1 (R t 29) fun b60 =>
    bnd1 (R t 28) fun b61 =>
    asrt ((S b61).1 = 21) <|
    asrt (vp_in x1 (S b61).2) <|
    lt (100 * (L b61 (Int32.toNatClampNeg x1))) fun (x64 : Int64) =>
    asrt ((S b60).1 = 21) <|
    asrt (vp_in x1 (S b60).2) <|
    lt (wL L b60 (Int32.toNatClampNeg x1) x64) fun (L67 : ML) =>
    bnd1 (R t 33) fun b68 =>
    bnd1 (R t 32) fun b69 =>
    asrt ((S b69).1 = 21) <|
    asrt (vp_in x1 (S b69).2) <|
    lt (100 * (L67 b69 (Int32.toNatClampNeg x1))) fun (x72 : Int64) =>
    asrt ((S b68).1 = 21) <|
    asrt (vp_in x1 (S b68).2) <|
    lt (wL L67 b68 (Int32.toNatClampNeg x1) x72) fun (L75 : ML) =>
    some L75)
set_option maxRecDepth 100000 in
set_option maxHeartbeats 4000000 in
theorem c_Mod_wantsAt {E : Env} (hE : OKE E) {tg : Bool} {d : Nat} (hd : 3 ≤ d) {g : Nat} {S : MS} {I : MI} {L : ML} {R : MR} {n : Nat} {t : Nat} {p1 : Nat} {p2 : Int64} {p3 : Int32} {p4 : Int32} {p5 : Int32} {L' : ML} (hS : (S t).1 = 12) (h : f_Mod_wantsAt g S R I L t p1 p2 p3 p4 p5 = some L') : C E y_Mod_wantsAt b_Mod_wantsAt 13 none tg d 0 0 [.ref (e_b E + t), .ref (e_b E + p1), .long p2, .int p3, .int p4, .int p5] S I L R n (Kq none S I L' R n) := by
  refine C.of (o := [some (.ref (e_b E + t)), some (.ref (e_b E + p1)), some (.long p2), none, some (.int p3), some (.int p4), some (.int p5), none, none, none, none, none, none]) (by decide) rfl (Nat.le_of_ble_eq_true rfl) ?_
  rw [f_Mod_wantsAt] at h
  refine X.aload_0 (pc := 0) (by decide +kernel) ?_
  refine X.iload_4 (pc := 1) (by decide +kernel) ?_
  refine X.iload_5 (pc := 3) (by decide +kernel) ?_
  refine X.iload_6 (pc := 5) (by decide +kernel) ?_
  obtain ⟨x1, hv2, h⟩ := bnd1_some h
  refine X.callVi (pc := 7) (nc := 0) (ns := 0) (c_Mod_stateOf hE (dle hd (Nat.le_of_ble_eq_true rfl)) hS hv2) cv_Mod_304 (by decide +kernel) hS ⟨by decide, rfl⟩ (ddd hd (Nat.le_of_ble_eq_true rfl)) rfl (Nat.le_of_ble_eq_true rfl) rfl rfl ?_
  refine X.istore_7 (pc := 10) (by decide +kernel) (by decide) rfl ?_
  refine X.aload_0 (pc := 12) (by decide +kernel) ?_
  refine X.iload_4 (pc := 13) (by decide +kernel) ?_
  obtain ⟨x3, hv4, h⟩ := bnd1_some h
  refine X.callVi (pc := 15) (nc := 0) (ns := 0) (c_Mod_isEnd hE (dle hd (Nat.le_of_ble_eq_true rfl)) hS hv4) cv_Mod_264 (by decide +kernel) hS ⟨by decide, rfl⟩ (ddd hd (Nat.le_of_ble_eq_true rfl)) rfl (Nat.le_of_ble_eq_true rfl) rfl rfl ?_
  rcases ifb_some h with ⟨hq5, h⟩ | ⟨hq5, h⟩
  · refine X.if_eq_t (pc := 18) (off := 40) (tgt := 58) hq5 rfl (by decide +kernel) ?_
    refine X.aload_0 (pc := 58) (by decide +kernel) ?_
    obtain ⟨b6, hb6, h⟩ := bnd1_some h
    refine X.getR (pc := 59) (k := 29) fw_Mod_87 (by decide +kernel) (fun _ => rfl) hS hb6 ?_
    refine X.iload_7 (pc := 62) (by decide +kernel) ?_
    refine X.aload_0 (pc := 64) (by decide +kernel) ?_
    refine X.iload_4 (pc := 65) (by decide +kernel) ?_
    refine X.iload_5 (pc := 67) (by decide +kernel) ?_
    refine X.iload_6 (pc := 69) (by decide +kernel) ?_
    refine X.iconst (pc := 71) (i := 3) (v := 3) ic_3 (by decide +kernel) ?_
    refine X.aload_0 (pc := 72) (by decide +kernel) ?_
    obtain ⟨b7, hb7, h⟩ := bnd1_some h
    refine X.getR (pc := 73) (k := 28) fw_Mod_84 (by decide +kernel) (fun _ => rfl) hS hb7 ?_
    obtain ⟨x8, hv9, h⟩ := bnd1_some h
    refine X.callVl (pc := 76) (nc := 0) (ns := 0) (c_Mod_comesOf hE (dle hd (Nat.le_of_ble_eq_true rfl)) hS hv9) cv_Mod_310 (by decide +kernel) hS ⟨by decide, rfl⟩ (ddd hd (Nat.le_of_ble_eq_true rfl)) rfl (Nat.le_of_ble_eq_true rfl) rfl rfl ?_
    obtain ⟨hc10, h⟩ := asrt_some h
    obtain ⟨hi11, h⟩ := asrt_some h
    refine X.lastore (pc := 79) (by decide +kernel) hc10 hi11 ?_
    refine X.nameML (fun L12 hL12 => ?_)
    have h := lt_at hL12 h
    refine X.aload_0 (pc := 80) (by decide +kernel) ?_
    obtain ⟨b13, hb13, h⟩ := bnd1_some h
    refine X.getR (pc := 81) (k := 33) fw_Mod_99 (by decide +kernel) (fun _ => rfl) hS hb13 ?_
    refine X.iload_7 (pc := 84) (by decide +kernel) ?_
    refine X.aload_1 (pc := 86) (by decide +kernel) ?_
    refine X.iconst (pc := 87) (i := 3) (v := 3) ic_3 (by decide +kernel) ?_
    obtain ⟨hc15, h⟩ := asrt_some h
    obtain ⟨hi14, h⟩ := asrt_some h
    refine X.iaload (pc := 88) (by decide +kernel) hc15 hi14 ?_
    refine X.i2l (pc := 89) (by decide +kernel) ?_
    refine X.lload_2 (pc := 90) (by decide +kernel) ?_
    refine X.lmul (pc := 91) (by decide +kernel) ?_
    refine X.aload_0 (pc := 92) (by decide +kernel) ?_
    refine X.iload_4 (pc := 93) (by decide +kernel) ?_
    refine X.iload_5 (pc := 95) (by decide +kernel) ?_
    refine X.iload_6 (pc := 97) (by decide +kernel) ?_
    refine X.iconst (pc := 99) (i := 3) (v := 3) ic_3 (by decide +kernel) ?_
    refine X.aload_0 (pc := 100) (by decide +kernel) ?_
    obtain ⟨b16, hb16, h⟩ := bnd1_some h
    refine X.getR (pc := 101) (k := 32) fw_Mod_96 (by decide +kernel) (fun _ => rfl) hS hb16 ?_
    obtain ⟨x17, hv18, h⟩ := bnd1_some h
    refine X.callVl (pc := 104) (nc := 0) (ns := 0) (c_Mod_comesOf hE (dle hd (Nat.le_of_ble_eq_true rfl)) hS hv18) cv_Mod_310 (by decide +kernel) hS ⟨by decide, rfl⟩ (ddd hd (Nat.le_of_ble_eq_true rfl)) rfl (Nat.le_of_ble_eq_true rfl) rfl rfl ?_
    refine X.ladd (pc := 107) (by decide +kernel) ?_
    refine X.nameL (fun x19 hx19 => ?_)
    have h := lt_at hx19 h
    obtain ⟨hc20, h⟩ := asrt_some h
    obtain ⟨hi21, h⟩ := asrt_some h
    refine X.lastore (pc := 108) (by decide +kernel) hc20 hi21 ?_
    refine X.nameML (fun L22 hL22 => ?_)
    have h := lt_at hL22 h
    refine X.iconst (pc := 109) (i := 0) (v := 0) ic_0 (by decide +kernel) ?_
    refine X.istore_8 (pc := 110) (by decide +kernel) (by decide) rfl ?_
    obtain ⟨L58, hv59, h⟩ := bnd1_some h
    refine xl_Mod_wantsAt_112 hE hd hS hv59 ?_
    have j0 := Option.some.inj h
    subst j0
    exact X.vreturn (pc := 233) (by decide +kernel) rfl ⟨rfl, rfl, rfl, rfl, rfl, rfl⟩
  · refine X.if_eq_f (pc := 18) (off := 40) (tgt := 58) hq5 rfl (by decide +kernel) ?_
    refine X.aload_0 (pc := 21) (by decide +kernel) ?_
    obtain ⟨b60, hb60, h⟩ := bnd1_some h
    refine X.getR (pc := 22) (k := 29) fw_Mod_87 (by decide +kernel) (fun _ => rfl) hS hb60 ?_
    refine X.iload_7 (pc := 25) (by decide +kernel) ?_
    refine X.ldc2 (pc := 27) (x := 302) (v := 100) ld_Mod_302 (by decide +kernel) ?_
    refine X.aload_0 (pc := 30) (by decide +kernel) ?_
    obtain ⟨b61, hb61, h⟩ := bnd1_some h
    refine X.getR (pc := 31) (k := 28) fw_Mod_84 (by decide +kernel) (fun _ => rfl) hS hb61 ?_
    refine X.iload_7 (pc := 34) (by decide +kernel) ?_
    obtain ⟨hc63, h⟩ := asrt_some h
    obtain ⟨hi62, h⟩ := asrt_some h
    refine X.laload (pc := 36) (by decide +kernel) hc63 hi62 ?_
    refine X.lmul (pc := 37) (by decide +kernel) ?_
    refine X.nameL (fun x64 hx64 => ?_)
    have h := lt_at hx64 h
    obtain ⟨hc65, h⟩ := asrt_some h
    obtain ⟨hi66, h⟩ := asrt_some h
    refine X.lastore (pc := 38) (by decide +kernel) hc65 hi66 ?_
    refine X.nameML (fun L67 hL67 => ?_)
    have h := lt_at hL67 h
    refine X.aload_0 (pc := 39) (by decide +kernel) ?_
    obtain ⟨b68, hb68, h⟩ := bnd1_some h
    refine X.getR (pc := 40) (k := 33) fw_Mod_99 (by decide +kernel) (fun _ => rfl) hS hb68 ?_
    refine X.iload_7 (pc := 43) (by decide +kernel) ?_
    refine X.ldc2 (pc := 45) (x := 302) (v := 100) ld_Mod_302 (by decide +kernel) ?_
    refine X.aload_0 (pc := 48) (by decide +kernel) ?_
    obtain ⟨b69, hb69, h⟩ := bnd1_some h
    refine X.getR (pc := 49) (k := 32) fw_Mod_96 (by decide +kernel) (fun _ => rfl) hS hb69 ?_
    refine X.iload_7 (pc := 52) (by decide +kernel) ?_
    obtain ⟨hc71, h⟩ := asrt_some h
    obtain ⟨hi70, h⟩ := asrt_some h
    refine X.laload (pc := 54) (by decide +kernel) hc71 hi70 ?_
    refine X.lmul (pc := 55) (by decide +kernel) ?_
    refine X.nameL (fun x72 hx72 => ?_)
    have h := lt_at hx72 h
    obtain ⟨hc73, h⟩ := asrt_some h
    obtain ⟨hi74, h⟩ := asrt_some h
    refine X.lastore (pc := 56) (by decide +kernel) hc73 hi74 ?_
    refine X.nameML (fun L75 hL75 => ?_)
    have h := lt_at hL75 h
    have j0 := Option.some.inj h
    subst j0
    exact X.vreturn (pc := 57) (by decide +kernel) rfl ⟨rfl, rfl, rfl, rfl, rfl, rfl⟩
set_option maxRecDepth 100000 in
noncomputable def l_Mod_wantsBack_24 (g : Nat) (S : MS) (R : MR) (I : MI) (v0 : Nat) (v1 : Nat) (v2 : Int64) (v4 : Int32) (v5 : Int32) : Nat → ML → Int32 → Option ML
  | 0, _, _ => none
  | f + 1, L, v6 =>
    ifb (10 ≤ v6)
      (some L)
      (bnd1 (f_Mod_wantsAt g S R I L v0 v1 v2 v4 v5 v6) fun L6 =>
      l_Mod_wantsBack_24 g S R I v0 v1 v2 v4 v5 f L6 (v6 + 1))
set_option maxRecDepth 100000 in
set_option maxHeartbeats 4000000 in
theorem xl_Mod_wantsBack_24 {E : Env} (hE : OKE E) {tg : Bool} {d : Nat} (hd : 4 ≤ d) {g : Nat} {S : MS} {I : MI} {R : MR} {n : Nat} {v0 : Nat} {v1 : Nat} {v2 : Int64} {v4 : Int32} {v5 : Int32} {K : KT} :
    ∀ {f : Nat} {L : ML} {v6 : Int32} {L' : ML}, (S v0).1 = 12 → l_Mod_wantsBack_24 g S R I v0 v1 v2 v4 v5 f L v6 = some L' → X E y_Mod_wantsBack b_Mod_wantsBack 7 none tg d 0 0 49 [some (.ref (e_b E + v0)), some (.ref (e_b E + v1)), some (.long v2), none, some (.int v4), some (.int v5), none] [] S I L' R n K → X E y_Mod_wantsBack b_Mod_wantsBack 7 none tg d 0 0 24 [some (.ref (e_b E + v0)), some (.ref (e_b E + v1)), some (.long v2), none, some (.int v4), some (.int v5), some (.int v6)] [] S I L R n K := by
  intro f
  induction f with
  | zero =>
    intro L v6 L' hS h hk
    rw [l_Mod_wantsBack_24] at h
    cases h
  | succ f ih =>
    intro L v6 L' hS h hk
    rw [l_Mod_wantsBack_24] at h
    refine X.iload_6 (pc := 24) (by decide +kernel) ?_
    refine X.bipush (pc := 26) (i := 10) (v := 10) bp_10 (by decide +kernel) ?_
    rcases ifb_some h with ⟨hq5, h⟩ | ⟨hq5, h⟩
    · refine X.icmp_ge_t (pc := 28) (off := 21) (tgt := 49) hq5 rfl (by decide +kernel) ?_
      have j0 := Option.some.inj h
      subst j0
      refine X.fgt (o' := [some (.ref (e_b E + v0)), some (.ref (e_b E + v1)), some (.long v2), none, some (.int v4), some (.int v5), none]) ⟨rfl, ⟨rfl, ⟨rfl, ⟨rfl, ⟨rfl, trivial⟩⟩⟩⟩⟩ ?_
      exact hk
    · refine X.icmp_ge_f (pc := 28) (off := 21) (tgt := 49) hq5 rfl (by decide +kernel) ?_
      refine X.aload_0 (pc := 31) (by decide +kernel) ?_
      refine X.aload_1 (pc := 32) (by decide +kernel) ?_
      refine X.lload_2 (pc := 33) (by decide +kernel) ?_
      refine X.iload_4 (pc := 34) (by decide +kernel) ?_
      refine X.iload_5 (pc := 36) (by decide +kernel) ?_
      refine X.iload_6 (pc := 38) (by decide +kernel) ?_
      obtain ⟨L6, hv7, h⟩ := bnd1_some h
      refine X.callVv (pc := 40) (nc := 0) (ns := 0) (c_Mod_wantsAt hE (dle hd (Nat.le_of_ble_eq_true rfl)) hS hv7) cv_Mod_354 (by decide +kernel) hS ⟨by decide, rfl⟩ (ddd hd (Nat.le_of_ble_eq_true rfl)) rfl (Nat.le_of_ble_eq_true rfl) rfl rfl ?_
      refine X.iinc_6 (pc := 43) (z := 1) (v := 1) ic_1 (by decide +kernel) (by decide) rfl ?_
      refine X.goto (pc := 46) (off := (-22)) (tgt := 24) (by decide +kernel) rfl ?_
      exact ih hS h hk
set_option maxRecDepth 100000 in
noncomputable def l_Mod_wantsBack_15 (g : Nat) (S : MS) (R : MR) (I : MI) (v0 : Nat) (v1 : Nat) (v2 : Int64) (v4 : Int32) : Nat → ML → Int32 → Option ML
  | 0, _, _ => none
  | f + 1, L, v5 =>
    ifb (4 ≤ v5)
      (some L)
      (bnd1 (l_Mod_wantsBack_24 g S R I v0 v1 v2 v4 v5 g L 0) fun L8 =>
      l_Mod_wantsBack_15 g S R I v0 v1 v2 v4 f L8 (v5 + 1))
set_option maxRecDepth 100000 in
set_option maxHeartbeats 4000000 in
theorem xl_Mod_wantsBack_15 {E : Env} (hE : OKE E) {tg : Bool} {d : Nat} (hd : 4 ≤ d) {g : Nat} {S : MS} {I : MI} {R : MR} {n : Nat} {v0 : Nat} {v1 : Nat} {v2 : Int64} {v4 : Int32} {K : KT} :
    ∀ {f : Nat} {L : ML} {v5 : Int32} {L' : ML}, (S v0).1 = 12 → l_Mod_wantsBack_15 g S R I v0 v1 v2 v4 f L v5 = some L' → X E y_Mod_wantsBack b_Mod_wantsBack 7 none tg d 0 0 55 [some (.ref (e_b E + v0)), some (.ref (e_b E + v1)), some (.long v2), none, some (.int v4), none, none] [] S I L' R n K → X E y_Mod_wantsBack b_Mod_wantsBack 7 none tg d 0 0 15 [some (.ref (e_b E + v0)), some (.ref (e_b E + v1)), some (.long v2), none, some (.int v4), some (.int v5), none] [] S I L R n K := by
  intro f
  induction f with
  | zero =>
    intro L v5 L' hS h hk
    rw [l_Mod_wantsBack_15] at h
    cases h
  | succ f ih =>
    intro L v5 L' hS h hk
    rw [l_Mod_wantsBack_15] at h
    refine X.iload_5 (pc := 15) (by decide +kernel) ?_
    refine X.iconst (pc := 17) (i := 4) (v := 4) ic_4 (by decide +kernel) ?_
    rcases ifb_some h with ⟨hq4, h⟩ | ⟨hq4, h⟩
    · refine X.icmp_ge_t (pc := 18) (off := 37) (tgt := 55) hq4 rfl (by decide +kernel) ?_
      have j0 := Option.some.inj h
      subst j0
      refine X.fgt (o' := [some (.ref (e_b E + v0)), some (.ref (e_b E + v1)), some (.long v2), none, some (.int v4), none, none]) ⟨rfl, ⟨rfl, ⟨rfl, ⟨rfl, trivial⟩⟩⟩⟩ ?_
      exact hk
    · refine X.icmp_ge_f (pc := 18) (off := 37) (tgt := 55) hq4 rfl (by decide +kernel) ?_
      refine X.iconst (pc := 21) (i := 0) (v := 0) ic_0 (by decide +kernel) ?_
      refine X.istore_6 (pc := 22) (by decide +kernel) (by decide) rfl ?_
      obtain ⟨L8, hv9, h⟩ := bnd1_some h
      refine xl_Mod_wantsBack_24 hE hd hS hv9 ?_
      refine X.iinc_5 (pc := 49) (z := 1) (v := 1) ic_1 (by decide +kernel) (by decide) rfl ?_
      refine X.goto (pc := 52) (off := (-37)) (tgt := 15) (by decide +kernel) rfl ?_
      exact ih hS h hk
set_option maxRecDepth 100000 in
noncomputable def l_Mod_wantsBack_3 (g : Nat) (S : MS) (R : MR) (I : MI) (v0 : Nat) (v1 : Nat) (v2 : Int64) : Nat → ML → Int32 → Option ML
  | 0, _, _ => none
  | f + 1, L, v4 =>
    bnd1 (f_Mod_cells S I v0) fun x1 =>
    ifb (x1 ≤ v4)
      (some L)
      (bnd1 (l_Mod_wantsBack_15 g S R I v0 v1 v2 v4 g L 0) fun L10 =>
      l_Mod_wantsBack_3 g S R I v0 v1 v2 f L10 (v4 + 1))
set_option maxRecDepth 100000 in
set_option maxHeartbeats 4000000 in
theorem xl_Mod_wantsBack_3 {E : Env} (hE : OKE E) {tg : Bool} {d : Nat} (hd : 4 ≤ d) {g : Nat} {S : MS} {I : MI} {R : MR} {n : Nat} {v0 : Nat} {v1 : Nat} {v2 : Int64} {K : KT} :
    ∀ {f : Nat} {L : ML} {v4 : Int32} {L' : ML}, (S v0).1 = 12 → l_Mod_wantsBack_3 g S R I v0 v1 v2 f L v4 = some L' → X E y_Mod_wantsBack b_Mod_wantsBack 7 none tg d 0 0 61 [some (.ref (e_b E + v0)), none, none, none, none, none, none] [] S I L' R n K → X E y_Mod_wantsBack b_Mod_wantsBack 7 none tg d 0 0 3 [some (.ref (e_b E + v0)), some (.ref (e_b E + v1)), some (.long v2), none, some (.int v4), none, none] [] S I L R n K := by
  intro f
  induction f with
  | zero =>
    intro L v4 L' hS h hk
    rw [l_Mod_wantsBack_3] at h
    cases h
  | succ f ih =>
    intro L v4 L' hS h hk
    rw [l_Mod_wantsBack_3] at h
    refine X.iload_4 (pc := 3) (by decide +kernel) ?_
    refine X.aload_0 (pc := 5) (by decide +kernel) ?_
    obtain ⟨x1, hv2, h⟩ := bnd1_some h
    refine X.callVi (pc := 6) (nc := 0) (ns := 0) (c_Mod_cells hE (dle hd (Nat.le_of_ble_eq_true rfl)) hS hv2) cv_Mod_148 (by decide +kernel) hS ⟨by decide, rfl⟩ (ddd hd (Nat.le_of_ble_eq_true rfl)) rfl (Nat.le_of_ble_eq_true rfl) rfl rfl ?_
    rcases ifb_some h with ⟨hq3, h⟩ | ⟨hq3, h⟩
    · refine X.icmp_ge_t (pc := 9) (off := 52) (tgt := 61) hq3 rfl (by decide +kernel) ?_
      have j0 := Option.some.inj h
      subst j0
      refine X.fgt (o' := [some (.ref (e_b E + v0)), none, none, none, none, none, none]) ⟨rfl, trivial⟩ ?_
      exact hk
    · refine X.icmp_ge_f (pc := 9) (off := 52) (tgt := 61) hq3 rfl (by decide +kernel) ?_
      refine X.iconst (pc := 12) (i := 0) (v := 0) ic_0 (by decide +kernel) ?_
      refine X.istore_5 (pc := 13) (by decide +kernel) (by decide) rfl ?_
      obtain ⟨L10, hv11, h⟩ := bnd1_some h
      refine xl_Mod_wantsBack_15 hE hd hS hv11 ?_
      refine X.iinc_4 (pc := 55) (z := 1) (v := 1) ic_1 (by decide +kernel) (by decide) rfl ?_
      refine X.goto (pc := 58) (off := (-55)) (tgt := 3) (by decide +kernel) rfl ?_
      exact ih hS h hk
set_option maxRecDepth 100000 in
noncomputable def l_Mod_wantsBack_64 (S : MS) (R : MR) (v0 : Nat) : Nat → ML → Int32 → Option ML
  | 0, _, _ => none
  | f + 1, L, v4 =>
    ifb (1440 ≤ v4)
      (some L)
      (bnd1 (R v0 28) fun b15 =>
      bnd1 (R v0 29) fun b16 =>
      asrt ((S b16).1 = 21) <|
      asrt (vp_in v4 (S b16).2) <|
      lt (L b16 (Int32.toNatClampNeg v4)) fun (x19 : Int64) =>
      asrt ((S b15).1 = 21) <|
      asrt (vp_in v4 (S b15).2) <|
      lt (wL L b15 (Int32.toNatClampNeg v4) x19) fun (L22 : ML) =>
      bnd1 (R v0 32) fun b23 =>
      bnd1 (R v0 33) fun b24 =>
      asrt ((S b24).1 = 21) <|
      asrt (vp_in v4 (S b24).2) <|
      lt (L22 b24 (Int32.toNatClampNeg v4)) fun (x27 : Int64) =>
      asrt ((S b23).1 = 21) <|
      asrt (vp_in v4 (S b23).2) <|
      lt (wL L22 b23 (Int32.toNatClampNeg v4) x27) fun (L30 : ML) =>
      l_Mod_wantsBack_64 S R v0 f L30 (v4 + 1))
set_option maxRecDepth 100000 in
set_option maxHeartbeats 4000000 in
theorem xl_Mod_wantsBack_64 {E : Env} (hE : OKE E) {tg : Bool} {d : Nat} (hd : 4 ≤ d) {S : MS} {I : MI} {R : MR} {n : Nat} {v0 : Nat} {K : KT} :
    ∀ {f : Nat} {L : ML} {v4 : Int32} {L' : ML}, (S v0).1 = 12 → l_Mod_wantsBack_64 S R v0 f L v4 = some L' → X E y_Mod_wantsBack b_Mod_wantsBack 7 none tg d 0 0 106 [none, none, none, none, none, none, none] [] S I L' R n K → X E y_Mod_wantsBack b_Mod_wantsBack 7 none tg d 0 0 64 [some (.ref (e_b E + v0)), none, none, none, some (.int v4), none, none] [] S I L R n K := by
  intro f
  induction f with
  | zero =>
    intro L v4 L' hS h hk
    rw [l_Mod_wantsBack_64] at h
    cases h
  | succ f ih =>
    intro L v4 L' hS h hk
    rw [l_Mod_wantsBack_64] at h
    refine X.iload_4 (pc := 64) (by decide +kernel) ?_
    refine X.sipush (pc := 66) (i := 1440) (v := 1440) sp_1440 (by decide +kernel) ?_
    rcases ifb_some h with ⟨hq14, h⟩ | ⟨hq14, h⟩
    · refine X.icmp_ge_t (pc := 69) (off := 37) (tgt := 106) hq14 rfl (by decide +kernel) ?_
      have j0 := Option.some.inj h
      subst j0
      refine X.fgt (o' := [none, none, none, none, none, none, none]) trivial ?_
      exact hk
    · refine X.icmp_ge_f (pc := 69) (off := 37) (tgt := 106) hq14 rfl (by decide +kernel) ?_
      refine X.aload_0 (pc := 72) (by decide +kernel) ?_
      obtain ⟨b15, hb15, h⟩ := bnd1_some h
      refine X.getR (pc := 73) (k := 28) fw_Mod_84 (by decide +kernel) (fun _ => rfl) hS hb15 ?_
      refine X.iload_4 (pc := 76) (by decide +kernel) ?_
      refine X.aload_0 (pc := 78) (by decide +kernel) ?_
      obtain ⟨b16, hb16, h⟩ := bnd1_some h
      refine X.getR (pc := 79) (k := 29) fw_Mod_87 (by decide +kernel) (fun _ => rfl) hS hb16 ?_
      refine X.iload_4 (pc := 82) (by decide +kernel) ?_
      obtain ⟨hc18, h⟩ := asrt_some h
      obtain ⟨hi17, h⟩ := asrt_some h
      refine X.laload (pc := 84) (by decide +kernel) hc18 hi17 ?_
      refine X.nameL (fun x19 hx19 => ?_)
      have h := lt_at hx19 h
      obtain ⟨hc20, h⟩ := asrt_some h
      obtain ⟨hi21, h⟩ := asrt_some h
      refine X.lastore (pc := 85) (by decide +kernel) hc20 hi21 ?_
      refine X.nameML (fun L22 hL22 => ?_)
      have h := lt_at hL22 h
      refine X.aload_0 (pc := 86) (by decide +kernel) ?_
      obtain ⟨b23, hb23, h⟩ := bnd1_some h
      refine X.getR (pc := 87) (k := 32) fw_Mod_96 (by decide +kernel) (fun _ => rfl) hS hb23 ?_
      refine X.iload_4 (pc := 90) (by decide +kernel) ?_
      refine X.aload_0 (pc := 92) (by decide +kernel) ?_
      obtain ⟨b24, hb24, h⟩ := bnd1_some h
      refine X.getR (pc := 93) (k := 33) fw_Mod_99 (by decide +kernel) (fun _ => rfl) hS hb24 ?_
      refine X.iload_4 (pc := 96) (by decide +kernel) ?_
      obtain ⟨hc26, h⟩ := asrt_some h
      obtain ⟨hi25, h⟩ := asrt_some h
      refine X.laload (pc := 98) (by decide +kernel) hc26 hi25 ?_
      refine X.nameL (fun x27 hx27 => ?_)
      have h := lt_at hx27 h
      obtain ⟨hc28, h⟩ := asrt_some h
      obtain ⟨hi29, h⟩ := asrt_some h
      refine X.lastore (pc := 99) (by decide +kernel) hc28 hi29 ?_
      refine X.nameML (fun L30 hL30 => ?_)
      have h := lt_at hL30 h
      refine X.iinc_4 (pc := 100) (z := 1) (v := 1) ic_1 (by decide +kernel) (by decide) rfl ?_
      refine X.goto (pc := 103) (off := (-39)) (tgt := 64) (by decide +kernel) rfl ?_
      exact ih hS h hk
set_option maxRecDepth 100000 in
noncomputable def f_Mod_wantsBack (g : Nat) (S : MS) (R : MR) (I : MI) (L : ML) (t : Nat) (p1 : Nat) (p2 : Int64) : Option ML :=
  bnd1 (l_Mod_wantsBack_3 g S R I t p1 p2 g L 0) fun L12 =>
  bnd1 (l_Mod_wantsBack_64 S R t g L12 0) fun L31 =>
  some L31
set_option maxRecDepth 100000 in
set_option maxHeartbeats 4000000 in
theorem c_Mod_wantsBack {E : Env} (hE : OKE E) {tg : Bool} {d : Nat} (hd : 4 ≤ d) {g : Nat} {S : MS} {I : MI} {L : ML} {R : MR} {n : Nat} {t : Nat} {p1 : Nat} {p2 : Int64} {L' : ML} (hS : (S t).1 = 12) (h : f_Mod_wantsBack g S R I L t p1 p2 = some L') : C E y_Mod_wantsBack b_Mod_wantsBack 7 none tg d 0 0 [.ref (e_b E + t), .ref (e_b E + p1), .long p2] S I L R n (Kq none S I L' R n) := by
  refine C.of (o := [some (.ref (e_b E + t)), some (.ref (e_b E + p1)), some (.long p2), none, none, none, none]) (by decide) rfl (Nat.le_of_ble_eq_true rfl) ?_
  rw [f_Mod_wantsBack] at h
  refine X.iconst (pc := 0) (i := 0) (v := 0) ic_0 (by decide +kernel) ?_
  refine X.istore_4 (pc := 1) (by decide +kernel) (by decide) rfl ?_
  obtain ⟨L12, hv13, h⟩ := bnd1_some h
  refine xl_Mod_wantsBack_3 hE hd hS hv13 ?_
  refine X.iconst (pc := 61) (i := 0) (v := 0) ic_0 (by decide +kernel) ?_
  refine X.istore_4 (pc := 62) (by decide +kernel) (by decide) rfl ?_
  obtain ⟨L31, hv32, h⟩ := bnd1_some h
  refine xl_Mod_wantsBack_64 hE hd hS hv32 ?_
  have j0 := Option.some.inj h
  subst j0
  exact X.vreturn (pc := 106) (by decide +kernel) rfl ⟨rfl, rfl, rfl, rfl, rfl, rfl⟩
set_option maxRecDepth 100000 in
noncomputable def l_Mod_wants_27 (S : MS) (R : MR) (I : MI) (v0 : Nat) (v1 : Nat) (v2 : Int32) (v3 : Int32) (v4 : Int32) : Nat → ML → Int32 → Option ML
  | 0, _, _ => none
  | f + 1, L, v5 =>
    ifb (10 ≤ v5)
      (some L)
      (bnd1 (R v0 32) fun b8 =>
      bnd1 (f_Mod_stateOf v0 v3 v4 v5) fun x9 =>
      asrt ((S v1).1 = 20) <|
      asrt (vp_in 1 (S v1).2) <|
      bnd1 (R v0 5) fun b13 =>
      asrt ((S b13).1 = 20) <|
      asrt (vp_in v3 (S b13).2) <|
      bnd1 (ifb ((I b13 (Int32.toNatClampNeg v3)) = 3)
          (some 1)
          (some 0)) fun (y17 : Int32) =>
      bnd1 (f_Mod_flag y17) fun x20 =>
      asrt (vp_in 2 (S v1).2) <|
      asrt (vp_in v3 (S b13).2) <|
      bnd1 (ifb ((I b13 (Int32.toNatClampNeg v3)) = 1)
          (some 1)
          (some 0)) fun (y25 : Int32) =>
      bnd1 (f_Mod_flag y25) fun x28 =>
      lt (Int32.toInt64 (((I v1 (Int32.toNatClampNeg 1)) * x20) + ((I v1 (Int32.toNatClampNeg 2)) * x28))) fun (x30 : Int64) =>
      asrt ((S b8).1 = 21) <|
      asrt (vp_in x9 (S b8).2) <|
      lt (wL L b8 (Int32.toNatClampNeg x9) x30) fun (L33 : ML) =>
      l_Mod_wants_27 S R I v0 v1 v2 v3 v4 f L33 (v5 + 1))
set_option maxRecDepth 100000 in
set_option maxHeartbeats 4000000 in
theorem xl_Mod_wants_27 {E : Env} (hE : OKE E) {tg : Bool} {d : Nat} (hd : 5 ≤ d) {S : MS} {I : MI} {R : MR} {n : Nat} {v0 : Nat} {v1 : Nat} {v2 : Int32} {v3 : Int32} {v4 : Int32} {K : KT} :
    ∀ {f : Nat} {L : ML} {v5 : Int32} {L' : ML}, (S v0).1 = 12 → l_Mod_wants_27 S R I v0 v1 v2 v3 v4 f L v5 = some L' → X E y_Mod_wants b_Mod_wants 6 none tg d 0 0 100 [some (.ref (e_b E + v0)), some (.ref (e_b E + v1)), some (.int v2), some (.int v3), some (.int v4), none] [] S I L' R n K → X E y_Mod_wants b_Mod_wants 6 none tg d 0 0 27 [some (.ref (e_b E + v0)), some (.ref (e_b E + v1)), some (.int v2), some (.int v3), some (.int v4), some (.int v5)] [] S I L R n K := by
  intro f
  induction f with
  | zero =>
    intro L v5 L' hS h hk
    rw [l_Mod_wants_27] at h
    cases h
  | succ f ih =>
    intro L v5 L' hS h hk
    rw [l_Mod_wants_27] at h
    refine X.iload_5 (pc := 27) (by decide +kernel) ?_
    refine X.bipush (pc := 29) (i := 10) (v := 10) bp_10 (by decide +kernel) ?_
    rcases ifb_some h with ⟨hq7, h⟩ | ⟨hq7, h⟩
    · refine X.icmp_ge_t (pc := 31) (off := 69) (tgt := 100) hq7 rfl (by decide +kernel) ?_
      have j0 := Option.some.inj h
      subst j0
      refine X.fgt (o' := [some (.ref (e_b E + v0)), some (.ref (e_b E + v1)), some (.int v2), some (.int v3), some (.int v4), none]) ⟨rfl, ⟨rfl, ⟨rfl, ⟨rfl, ⟨rfl, trivial⟩⟩⟩⟩⟩ ?_
      exact hk
    · refine X.icmp_ge_f (pc := 31) (off := 69) (tgt := 100) hq7 rfl (by decide +kernel) ?_
      refine X.aload_0 (pc := 34) (by decide +kernel) ?_
      obtain ⟨b8, hb8, h⟩ := bnd1_some h
      refine X.getR (pc := 35) (k := 32) fw_Mod_96 (by decide +kernel) (fun _ => rfl) hS hb8 ?_
      refine X.aload_0 (pc := 38) (by decide +kernel) ?_
      refine X.iload_3 (pc := 39) (by decide +kernel) ?_
      refine X.iload_4 (pc := 40) (by decide +kernel) ?_
      refine X.iload_5 (pc := 42) (by decide +kernel) ?_
      obtain ⟨x9, hv10, h⟩ := bnd1_some h
      refine X.callVi (pc := 44) (nc := 0) (ns := 0) (c_Mod_stateOf hE (dle hd (Nat.le_of_ble_eq_true rfl)) hS hv10) cv_Mod_304 (by decide +kernel) hS ⟨by decide, rfl⟩ (ddd hd (Nat.le_of_ble_eq_true rfl)) rfl (Nat.le_of_ble_eq_true rfl) rfl rfl ?_
      refine X.aload_1 (pc := 47) (by decide +kernel) ?_
      refine X.iconst (pc := 48) (i := 1) (v := 1) ic_1 (by decide +kernel) ?_
      obtain ⟨hc12, h⟩ := asrt_some h
      obtain ⟨hi11, h⟩ := asrt_some h
      refine X.iaload (pc := 49) (by decide +kernel) hc12 hi11 ?_
      refine X.aload_0 (pc := 50) (by decide +kernel) ?_
      obtain ⟨b13, hb13, h⟩ := bnd1_some h
      refine X.getR (pc := 51) (k := 5) fw_Mod_40 (by decide +kernel) (fun _ => rfl) hS hb13 ?_
      refine X.iload_3 (pc := 54) (by decide +kernel) ?_
      obtain ⟨hc15, h⟩ := asrt_some h
      obtain ⟨hi14, h⟩ := asrt_some h
      refine X.iaload (pc := 55) (by decide +kernel) hc15 hi14 ?_
      refine X.iconst (pc := 56) (i := 3) (v := 3) ic_3 (by decide +kernel) ?_
      obtain ⟨y17, hr18, h⟩ := bnd1_some h
      have hj19 : X E y_Mod_wants b_Mod_wants 6 none tg d 0 0 65 [some (.ref (e_b E + v0)), some (.ref (e_b E + v1)), some (.int v2), some (.int v3), some (.int v4), some (.int v5)] [.int y17, .int (I v1 (Int32.toNatClampNeg 1)), .int x9, .ref (e_b E + b8)] S I L R n K := by
        obtain ⟨x20, hv21, h⟩ := bnd1_some h
        refine X.callSi (pc := 65) (nc := 0) (ns := 0) (c_Mod_flag hE (dle hd (Nat.le_of_ble_eq_true rfl)) hv21) cv_Mod_155 (by decide +kernel) (ddd hd (Nat.le_of_ble_eq_true rfl)) rfl (Nat.le_of_ble_eq_true rfl) rfl rfl ?_
        refine X.imul (pc := 68) (by decide +kernel) ?_
        refine X.aload_1 (pc := 69) (by decide +kernel) ?_
        refine X.iconst (pc := 70) (i := 2) (v := 2) ic_2 (by decide +kernel) ?_
        obtain ⟨hi22, h⟩ := asrt_some h
        refine X.iaload (pc := 71) (by decide +kernel) hc12 hi22 ?_
        refine X.aload_0 (pc := 72) (by decide +kernel) ?_
        refine X.getR (pc := 73) (k := 5) fw_Mod_40 (by decide +kernel) (fun _ => rfl) hS hb13 ?_
        refine X.iload_3 (pc := 76) (by decide +kernel) ?_
        obtain ⟨hi23, h⟩ := asrt_some h
        refine X.iaload (pc := 77) (by decide +kernel) hc15 hi23 ?_
        refine X.iconst (pc := 78) (i := 1) (v := 1) ic_1 (by decide +kernel) ?_
        obtain ⟨y25, hr26, h⟩ := bnd1_some h
        have hj27 : X E y_Mod_wants b_Mod_wants 6 none tg d 0 0 87 [some (.ref (e_b E + v0)), some (.ref (e_b E + v1)), some (.int v2), some (.int v3), some (.int v4), some (.int v5)] [.int y25, .int (I v1 (Int32.toNatClampNeg 2)), .int ((I v1 (Int32.toNatClampNeg 1)) * x20), .int x9, .ref (e_b E + b8)] S I L R n K := by
          obtain ⟨x28, hv29, h⟩ := bnd1_some h
          refine X.callSi (pc := 87) (nc := 0) (ns := 0) (c_Mod_flag hE (dle hd (Nat.le_of_ble_eq_true rfl)) hv29) cv_Mod_155 (by decide +kernel) (ddd hd (Nat.le_of_ble_eq_true rfl)) rfl (Nat.le_of_ble_eq_true rfl) rfl rfl ?_
          refine X.imul (pc := 90) (by decide +kernel) ?_
          refine X.iadd (pc := 91) (by decide +kernel) ?_
          refine X.i2l (pc := 92) (by decide +kernel) ?_
          refine X.nameL (fun x30 hx30 => ?_)
          have h := lt_at hx30 h
          obtain ⟨hc31, h⟩ := asrt_some h
          obtain ⟨hi32, h⟩ := asrt_some h
          refine X.lastore (pc := 93) (by decide +kernel) hc31 hi32 ?_
          refine X.nameML (fun L33 hL33 => ?_)
          have h := lt_at hL33 h
          refine X.iinc_5 (pc := 94) (z := 1) (v := 1) ic_1 (by decide +kernel) (by decide) rfl ?_
          refine X.goto (pc := 97) (off := (-70)) (tgt := 27) (by decide +kernel) rfl ?_
          exact ih hS h hk
        have h := hr26
        rcases ifb_some h with ⟨hq24, h⟩ | ⟨hq24, h⟩
        · refine X.icmp_ne_f (pc := 79) (off := 7) (tgt := 86) hq24 rfl (by decide +kernel) ?_
          refine X.iconst (pc := 82) (i := 1) (v := 1) ic_1 (by decide +kernel) ?_
          refine X.goto (pc := 83) (off := 4) (tgt := 87) (by decide +kernel) rfl ?_
          have j0 := Option.some.inj h
          subst j0
          exact hj27
        · refine X.icmp_ne_t (pc := 79) (off := 7) (tgt := 86) hq24 rfl (by decide +kernel) ?_
          refine X.iconst (pc := 86) (i := 0) (v := 0) ic_0 (by decide +kernel) ?_
          have j0 := Option.some.inj h
          subst j0
          exact hj27
      have h := hr18
      rcases ifb_some h with ⟨hq16, h⟩ | ⟨hq16, h⟩
      · refine X.icmp_ne_f (pc := 57) (off := 7) (tgt := 64) hq16 rfl (by decide +kernel) ?_
        refine X.iconst (pc := 60) (i := 1) (v := 1) ic_1 (by decide +kernel) ?_
        refine X.goto (pc := 61) (off := 4) (tgt := 65) (by decide +kernel) rfl ?_
        have j0 := Option.some.inj h
        subst j0
        exact hj19
      · refine X.icmp_ne_t (pc := 57) (off := 7) (tgt := 64) hq16 rfl (by decide +kernel) ?_
        refine X.iconst (pc := 64) (i := 0) (v := 0) ic_0 (by decide +kernel) ?_
        have j0 := Option.some.inj h
        subst j0
        exact hj19
set_option maxRecDepth 100000 in
noncomputable def l_Mod_wants_18 (g : Nat) (S : MS) (R : MR) (I : MI) (v0 : Nat) (v1 : Nat) (v2 : Int32) (v3 : Int32) : Nat → ML → Int32 → Option ML
  | 0, _, _ => none
  | f + 1, L, v4 =>
    ifb (4 ≤ v4)
      (some L)
      (bnd1 (l_Mod_wants_27 S R I v0 v1 v2 v3 v4 g L 0) fun L34 =>
      l_Mod_wants_18 g S R I v0 v1 v2 v3 f L34 (v4 + 1))
set_option maxRecDepth 100000 in
set_option maxHeartbeats 4000000 in
theorem xl_Mod_wants_18 {E : Env} (hE : OKE E) {tg : Bool} {d : Nat} (hd : 5 ≤ d) {g : Nat} {S : MS} {I : MI} {R : MR} {n : Nat} {v0 : Nat} {v1 : Nat} {v2 : Int32} {v3 : Int32} {K : KT} :
    ∀ {f : Nat} {L : ML} {v4 : Int32} {L' : ML}, (S v0).1 = 12 → l_Mod_wants_18 g S R I v0 v1 v2 v3 f L v4 = some L' → X E y_Mod_wants b_Mod_wants 6 none tg d 0 0 106 [some (.ref (e_b E + v0)), some (.ref (e_b E + v1)), some (.int v2), some (.int v3), none, none] [] S I L' R n K → X E y_Mod_wants b_Mod_wants 6 none tg d 0 0 18 [some (.ref (e_b E + v0)), some (.ref (e_b E + v1)), some (.int v2), some (.int v3), some (.int v4), none] [] S I L R n K := by
  intro f
  induction f with
  | zero =>
    intro L v4 L' hS h hk
    rw [l_Mod_wants_18] at h
    cases h
  | succ f ih =>
    intro L v4 L' hS h hk
    rw [l_Mod_wants_18] at h
    refine X.iload_4 (pc := 18) (by decide +kernel) ?_
    refine X.iconst (pc := 20) (i := 4) (v := 4) ic_4 (by decide +kernel) ?_
    rcases ifb_some h with ⟨hq6, h⟩ | ⟨hq6, h⟩
    · refine X.icmp_ge_t (pc := 21) (off := 85) (tgt := 106) hq6 rfl (by decide +kernel) ?_
      have j0 := Option.some.inj h
      subst j0
      refine X.fgt (o' := [some (.ref (e_b E + v0)), some (.ref (e_b E + v1)), some (.int v2), some (.int v3), none, none]) ⟨rfl, ⟨rfl, ⟨rfl, ⟨rfl, trivial⟩⟩⟩⟩ ?_
      exact hk
    · refine X.icmp_ge_f (pc := 21) (off := 85) (tgt := 106) hq6 rfl (by decide +kernel) ?_
      refine X.iconst (pc := 24) (i := 0) (v := 0) ic_0 (by decide +kernel) ?_
      refine X.istore_5 (pc := 25) (by decide +kernel) (by decide) rfl ?_
      obtain ⟨L34, hv35, h⟩ := bnd1_some h
      refine xl_Mod_wants_27 hE hd hS hv35 ?_
      refine X.iinc_4 (pc := 100) (z := 1) (v := 1) ic_1 (by decide +kernel) (by decide) rfl ?_
      refine X.goto (pc := 103) (off := (-85)) (tgt := 18) (by decide +kernel) rfl ?_
      exact ih hS h hk
set_option maxRecDepth 100000 in
noncomputable def l_Mod_wants_7 (g : Nat) (S : MS) (R : MR) (I : MI) (v0 : Nat) (v1 : Nat) (v2 : Int32) : Nat → ML → Int32 → Option ML
  | 0, _, _ => none
  | f + 1, L, v3 =>
    bnd1 (f_Mod_cells S I v0) fun x3 =>
    ifb (x3 ≤ v3)
      (some L)
      (bnd1 (l_Mod_wants_18 g S R I v0 v1 v2 v3 g L 0) fun L36 =>
      l_Mod_wants_7 g S R I v0 v1 v2 f L36 (v3 + 1))
set_option maxRecDepth 100000 in
set_option maxHeartbeats 4000000 in
theorem xl_Mod_wants_7 {E : Env} (hE : OKE E) {tg : Bool} {d : Nat} (hd : 5 ≤ d) {g : Nat} {S : MS} {I : MI} {R : MR} {n : Nat} {v0 : Nat} {v1 : Nat} {v2 : Int32} {K : KT} :
    ∀ {f : Nat} {L : ML} {v3 : Int32} {L' : ML}, (S v0).1 = 12 → l_Mod_wants_7 g S R I v0 v1 v2 f L v3 = some L' → X E y_Mod_wants b_Mod_wants 6 none tg d 0 0 112 [some (.ref (e_b E + v0)), some (.ref (e_b E + v1)), some (.int v2), none, none, none] [] S I L' R n K → X E y_Mod_wants b_Mod_wants 6 none tg d 0 0 7 [some (.ref (e_b E + v0)), some (.ref (e_b E + v1)), some (.int v2), some (.int v3), none, none] [] S I L R n K := by
  intro f
  induction f with
  | zero =>
    intro L v3 L' hS h hk
    rw [l_Mod_wants_7] at h
    cases h
  | succ f ih =>
    intro L v3 L' hS h hk
    rw [l_Mod_wants_7] at h
    refine X.iload_3 (pc := 7) (by decide +kernel) ?_
    refine X.aload_0 (pc := 8) (by decide +kernel) ?_
    obtain ⟨x3, hv4, h⟩ := bnd1_some h
    refine X.callVi (pc := 9) (nc := 0) (ns := 0) (c_Mod_cells hE (dle hd (Nat.le_of_ble_eq_true rfl)) hS hv4) cv_Mod_148 (by decide +kernel) hS ⟨by decide, rfl⟩ (ddd hd (Nat.le_of_ble_eq_true rfl)) rfl (Nat.le_of_ble_eq_true rfl) rfl rfl ?_
    rcases ifb_some h with ⟨hq5, h⟩ | ⟨hq5, h⟩
    · refine X.icmp_ge_t (pc := 12) (off := 100) (tgt := 112) hq5 rfl (by decide +kernel) ?_
      have j0 := Option.some.inj h
      subst j0
      refine X.fgt (o' := [some (.ref (e_b E + v0)), some (.ref (e_b E + v1)), some (.int v2), none, none, none]) ⟨rfl, ⟨rfl, ⟨rfl, trivial⟩⟩⟩ ?_
      exact hk
    · refine X.icmp_ge_f (pc := 12) (off := 100) (tgt := 112) hq5 rfl (by decide +kernel) ?_
      refine X.iconst (pc := 15) (i := 0) (v := 0) ic_0 (by decide +kernel) ?_
      refine X.istore_4 (pc := 16) (by decide +kernel) (by decide) rfl ?_
      obtain ⟨L36, hv37, h⟩ := bnd1_some h
      refine xl_Mod_wants_18 hE hd hS hv37 ?_
      refine X.iinc_3 (pc := 106) (z := 1) (v := 1) ic_1 (by decide +kernel) (by decide) rfl ?_
      refine X.goto (pc := 109) (off := (-102)) (tgt := 7) (by decide +kernel) rfl ?_
      exact ih hS h hk
set_option maxRecDepth 100000 in
noncomputable def l_Mod_wants_114 (g : Nat) (S : MS) (R : MR) (I : MI) (v0 : Nat) (v1 : Nat) (v2 : Int32) : Nat → ML → Int32 → Option ML
  | 0, _, _ => none
  | f + 1, L, v3 =>
    ifb (v2 ≤ v3)
      (some L)
      (bnd1 (f_Mod_whole g (v3 + 1)) fun x41 =>
      bnd1 (f_Mod_wantsBack g S R I L v0 v1 x41) fun L43 =>
      l_Mod_wants_114 g S R I v0 v1 v2 f L43 (v3 + 1))
set_option maxRecDepth 100000 in
set_option maxHeartbeats 4000000 in
theorem xl_Mod_wants_114 {E : Env} (hE : OKE E) {tg : Bool} {d : Nat} (hd : 5 ≤ d) {g : Nat} {S : MS} {I : MI} {R : MR} {n : Nat} {v0 : Nat} {v1 : Nat} {v2 : Int32} {K : KT} :
    ∀ {f : Nat} {L : ML} {v3 : Int32} {L' : ML}, (S v0).1 = 12 → l_Mod_wants_114 g S R I v0 v1 v2 f L v3 = some L' → X E y_Mod_wants b_Mod_wants 6 none tg d 0 0 136 [none, none, none, none, none, none] [] S I L' R n K → X E y_Mod_wants b_Mod_wants 6 none tg d 0 0 114 [some (.ref (e_b E + v0)), some (.ref (e_b E + v1)), some (.int v2), some (.int v3), none, none] [] S I L R n K := by
  intro f
  induction f with
  | zero =>
    intro L v3 L' hS h hk
    rw [l_Mod_wants_114] at h
    cases h
  | succ f ih =>
    intro L v3 L' hS h hk
    rw [l_Mod_wants_114] at h
    refine X.iload_3 (pc := 114) (by decide +kernel) ?_
    refine X.iload_2 (pc := 115) (by decide +kernel) ?_
    rcases ifb_some h with ⟨hq40, h⟩ | ⟨hq40, h⟩
    · refine X.icmp_ge_t (pc := 116) (off := 20) (tgt := 136) hq40 rfl (by decide +kernel) ?_
      have j0 := Option.some.inj h
      subst j0
      refine X.fgt (o' := [none, none, none, none, none, none]) trivial ?_
      exact hk
    · refine X.icmp_ge_f (pc := 116) (off := 20) (tgt := 136) hq40 rfl (by decide +kernel) ?_
      refine X.aload_0 (pc := 119) (by decide +kernel) ?_
      refine X.aload_1 (pc := 120) (by decide +kernel) ?_
      refine X.iload_3 (pc := 121) (by decide +kernel) ?_
      refine X.iconst (pc := 122) (i := 1) (v := 1) ic_1 (by decide +kernel) ?_
      refine X.iadd (pc := 123) (by decide +kernel) ?_
      obtain ⟨x41, hv42, h⟩ := bnd1_some h
      refine X.callSl (pc := 124) (nc := 0) (ns := 0) (c_Mod_whole hE (dle hd (Nat.le_of_ble_eq_true rfl)) hv42) cv_Mod_337 (by decide +kernel) (ddd hd (Nat.le_of_ble_eq_true rfl)) rfl (Nat.le_of_ble_eq_true rfl) rfl rfl ?_
      obtain ⟨L43, hv44, h⟩ := bnd1_some h
      refine X.callVv (pc := 127) (nc := 0) (ns := 0) (c_Mod_wantsBack hE (dle hd (Nat.le_of_ble_eq_true rfl)) hS hv44) cv_Mod_350 (by decide +kernel) hS ⟨by decide, rfl⟩ (ddd hd (Nat.le_of_ble_eq_true rfl)) rfl (Nat.le_of_ble_eq_true rfl) rfl rfl ?_
      refine X.iinc_3 (pc := 130) (z := 1) (v := 1) ic_1 (by decide +kernel) (by decide) rfl ?_
      refine X.goto (pc := 133) (off := (-19)) (tgt := 114) (by decide +kernel) rfl ?_
      exact ih hS h hk
set_option maxRecDepth 100000 in
noncomputable def f_Mod_wants (g : Nat) (S : MS) (R : MR) (I : MI) (L : ML) (t : Nat) (p1 : Nat) (p2 : Int32) : Option ML :=
  bnd1 (f_Mod_laysOut g S R I L t 0) fun L1 =>
  bnd1 (l_Mod_wants_7 g S R I t p1 p2 g L1 0) fun L38 =>
  bnd1 (l_Mod_wants_114 g S R I t p1 p2 g L38 0) fun L45 =>
  some L45
set_option maxRecDepth 100000 in
set_option maxHeartbeats 4000000 in
theorem c_Mod_wants {E : Env} (hE : OKE E) {tg : Bool} {d : Nat} (hd : 5 ≤ d) {g : Nat} {S : MS} {I : MI} {L : ML} {R : MR} {n : Nat} {t : Nat} {p1 : Nat} {p2 : Int32} {L' : ML} (hS : (S t).1 = 12) (h : f_Mod_wants g S R I L t p1 p2 = some L') : C E y_Mod_wants b_Mod_wants 6 none tg d 0 0 [.ref (e_b E + t), .ref (e_b E + p1), .int p2] S I L R n (Kq none S I L' R n) := by
  refine C.of (o := [some (.ref (e_b E + t)), some (.ref (e_b E + p1)), some (.int p2), none, none, none]) (by decide) rfl (Nat.le_of_ble_eq_true rfl) ?_
  rw [f_Mod_wants] at h
  refine X.aload_0 (pc := 0) (by decide +kernel) ?_
  refine X.iconst (pc := 1) (i := 0) (v := 0) ic_0 (by decide +kernel) ?_
  obtain ⟨L1, hv2, h⟩ := bnd1_some h
  refine X.callVv (pc := 2) (nc := 0) (ns := 0) (c_Mod_laysOut hE (dle hd (Nat.le_of_ble_eq_true rfl)) hS hv2) cv_Mod_317 (by decide +kernel) hS ⟨by decide, rfl⟩ (ddd hd (Nat.le_of_ble_eq_true rfl)) rfl (Nat.le_of_ble_eq_true rfl) rfl rfl ?_
  refine X.iconst (pc := 5) (i := 0) (v := 0) ic_0 (by decide +kernel) ?_
  refine X.istore_3 (pc := 6) (by decide +kernel) (by decide) rfl ?_
  obtain ⟨L38, hv39, h⟩ := bnd1_some h
  refine xl_Mod_wants_7 hE hd hS hv39 ?_
  refine X.iconst (pc := 112) (i := 0) (v := 0) ic_0 (by decide +kernel) ?_
  refine X.istore_3 (pc := 113) (by decide +kernel) (by decide) rfl ?_
  obtain ⟨L45, hv46, h⟩ := bnd1_some h
  refine xl_Mod_wants_114 hE hd hS hv46 ?_
  have j0 := Option.some.inj h
  subst j0
  exact X.vreturn (pc := 136) (by decide +kernel) rfl ⟨rfl, rfl, rfl, rfl, rfl, rfl⟩
set_option maxRecDepth 100000 in
noncomputable def f_Mod_greed (g : Nat) (S : MS) (R : MR) (I : MI) (L : ML) (t : Nat) (p1 : Int32) : Option (Int32 × MI × ML) :=
  lt (wI I t 0 0) fun (I1 : MI) =>
  bnd1 (f_Mod_areFew p1) fun x2 =>
  ifb (x2 = 0)
    (some ((-1), I1, L))
    (bnd1 (R t 21) fun b5 =>
    bnd1 (f_Mod_wants g S R I1 L t b5 p1) fun L6 =>
    lt (wI I1 t 1 0) fun (I8 : MI) =>
    bnd1 (R t 32) fun b9 =>
    bnd1 (f_Mod_stateOf t (I8 t 7) (I8 t 8) (I8 t 10)) fun x10 =>
    asrt ((S b9).1 = 21) <|
    asrt (vp_in x10 (S b9).2) <|
    asrt ((S b5).1 = 20) <|
    asrt (vp_in 0 (S b5).2) <|
    bnd1 (f_Mod_whole g p1) fun x16 =>
    bnd1 (f_Mod_whole g p1) fun x18 =>
    bnd2 (f_Mod_entersFraction S R I8 L6 t ((L6 b9 (Int32.toNatClampNeg x10)) + ((Int32.toInt64 (I8 b5 (Int32.toNatClampNeg 0))) * x16)) x18) fun I20 L21 =>
    bnd1 (f_Mod_chanceNow S R I20 L21 t (I20 t 10)) fun x23 =>
    bnd1 (f_Mod_whole g p1) fun x25 =>
    bnd2 (f_Mod_entersFraction S R I20 L21 t x23 x25) fun I27 L28 =>
    some (0, I27, L28))
set_option maxRecDepth 100000 in
set_option maxHeartbeats 4000000 in
theorem c_Mod_greed {E : Env} (hE : OKE E) {tg : Bool} {d : Nat} (hd : 203 ≤ d) {g : Nat} {S : MS} {I : MI} {L : ML} {R : MR} {n : Nat} {t : Nat} {p1 : Int32} {v : Int32} {I' : MI} {L' : ML} (hS : (S t).1 = 12) (h : f_Mod_greed g S R I L t p1 = some (v, I', L')) : C E y_Mod_greed b_Mod_greed 2 (some .int) tg d 0 0 [.ref (e_b E + t), .int p1] S I L R n (Kq (some (.int v)) S I' L' R n) := by
  refine C.of (o := [some (.ref (e_b E + t)), some (.int p1)]) (by decide) rfl (Nat.le_of_ble_eq_true rfl) ?_
  rw [f_Mod_greed] at h
  refine X.aload_0 (pc := 0) (by decide +kernel) ?_
  refine X.iconst (pc := 1) (i := 0) (v := 0) ic_0 (by decide +kernel) ?_
  refine X.putI (pc := 2) (k := 0) fw_Mod_3 (by decide +kernel) rfl rfl hS ?_
  refine X.nameMI (fun I1 hI1 => ?_)
  have h := lt_at hI1 h
  refine X.iload_1 (pc := 5) (by decide +kernel) ?_
  obtain ⟨x2, hv3, h⟩ := bnd1_some h
  refine X.callSi (pc := 6) (nc := 0) (ns := 0) (c_Mod_areFew hE (dle hd (Nat.le_of_ble_eq_true rfl)) hv3) cv_Mod_360 (by decide +kernel) (ddd hd (Nat.le_of_ble_eq_true rfl)) rfl (Nat.le_of_ble_eq_true rfl) rfl rfl ?_
  rcases ifb_some h with ⟨hq4, h⟩ | ⟨hq4, h⟩
  · refine X.if_ne_f (pc := 9) (off := 5) (tgt := 14) hq4 rfl (by decide +kernel) ?_
    refine X.iconst (pc := 12) (i := (-1)) (v := (-1)) ic_m1 (by decide +kernel) ?_
    have j0 := Option.some.inj h
    obtain ⟨i0, j1⟩ := Prod.mk.inj j0
    obtain ⟨i1, j2⟩ := Prod.mk.inj j1
    subst i0
    subst i1
    subst j2
    exact X.ireturn (pc := 13) (by decide +kernel) ⟨_, rfl, rfl⟩ ⟨rfl, rfl, rfl, rfl, rfl, rfl⟩
  · refine X.if_ne_t (pc := 9) (off := 5) (tgt := 14) hq4 rfl (by decide +kernel) ?_
    refine X.aload_0 (pc := 14) (by decide +kernel) ?_
    refine X.aload_0 (pc := 15) (by decide +kernel) ?_
    obtain ⟨b5, hb5, h⟩ := bnd1_some h
    refine X.getR (pc := 16) (k := 21) fw_Mod_65 (by decide +kernel) (fun _ => rfl) hS hb5 ?_
    refine X.iload_1 (pc := 19) (by decide +kernel) ?_
    obtain ⟨L6, hv7, h⟩ := bnd1_some h
    refine X.callVv (pc := 20) (nc := 0) (ns := 0) (c_Mod_wants hE (dle hd (Nat.le_of_ble_eq_true rfl)) hS hv7) cv_Mod_363 (by decide +kernel) hS ⟨by decide, rfl⟩ (ddd hd (Nat.le_of_ble_eq_true rfl)) rfl (Nat.le_of_ble_eq_true rfl) rfl rfl ?_
    refine X.aload_0 (pc := 23) (by decide +kernel) ?_
    refine X.iconst (pc := 24) (i := 0) (v := 0) ic_0 (by decide +kernel) ?_
    refine X.putI (pc := 25) (k := 1) fw_Mod_21 (by decide +kernel) rfl rfl hS ?_
    refine X.nameMI (fun I8 hI8 => ?_)
    have h := lt_at hI8 h
    refine X.aload_0 (pc := 28) (by decide +kernel) ?_
    refine X.aload_0 (pc := 29) (by decide +kernel) ?_
    obtain ⟨b9, hb9, h⟩ := bnd1_some h
    refine X.getR (pc := 30) (k := 32) fw_Mod_96 (by decide +kernel) (fun _ => rfl) hS hb9 ?_
    refine X.aload_0 (pc := 33) (by decide +kernel) ?_
    refine X.aload_0 (pc := 34) (by decide +kernel) ?_
    refine X.getI (pc := 35) (k := 7) fw_Mod_204 (by decide +kernel) (fun _ => rfl) hS ?_
    refine X.aload_0 (pc := 38) (by decide +kernel) ?_
    refine X.getI (pc := 39) (k := 8) fw_Mod_207 (by decide +kernel) (fun _ => rfl) hS ?_
    refine X.aload_0 (pc := 42) (by decide +kernel) ?_
    refine X.getI (pc := 43) (k := 10) fw_Mod_47 (by decide +kernel) (fun _ => rfl) hS ?_
    obtain ⟨x10, hv11, h⟩ := bnd1_some h
    refine X.callVi (pc := 46) (nc := 0) (ns := 0) (c_Mod_stateOf hE (dle hd (Nat.le_of_ble_eq_true rfl)) hS hv11) cv_Mod_304 (by decide +kernel) hS ⟨by decide, rfl⟩ (ddd hd (Nat.le_of_ble_eq_true rfl)) rfl (Nat.le_of_ble_eq_true rfl) rfl rfl ?_
    obtain ⟨hc13, h⟩ := asrt_some h
    obtain ⟨hi12, h⟩ := asrt_some h
    refine X.laload (pc := 49) (by decide +kernel) hc13 hi12 ?_
    refine X.aload_0 (pc := 50) (by decide +kernel) ?_
    refine X.getR (pc := 51) (k := 21) fw_Mod_65 (by decide +kernel) (fun _ => rfl) hS hb5 ?_
    refine X.iconst (pc := 54) (i := 0) (v := 0) ic_0 (by decide +kernel) ?_
    obtain ⟨hc15, h⟩ := asrt_some h
    obtain ⟨hi14, h⟩ := asrt_some h
    refine X.iaload (pc := 55) (by decide +kernel) hc15 hi14 ?_
    refine X.i2l (pc := 56) (by decide +kernel) ?_
    refine X.iload_1 (pc := 57) (by decide +kernel) ?_
    obtain ⟨x16, hv17, h⟩ := bnd1_some h
    refine X.callSl (pc := 58) (nc := 0) (ns := 0) (c_Mod_whole hE (dle hd (Nat.le_of_ble_eq_true rfl)) hv17) cv_Mod_337 (by decide +kernel) (ddd hd (Nat.le_of_ble_eq_true rfl)) rfl (Nat.le_of_ble_eq_true rfl) rfl rfl ?_
    refine X.lmul (pc := 61) (by decide +kernel) ?_
    refine X.ladd (pc := 62) (by decide +kernel) ?_
    refine X.iload_1 (pc := 63) (by decide +kernel) ?_
    obtain ⟨x18, hv19, h⟩ := bnd1_some h
    refine X.callSl (pc := 64) (nc := 0) (ns := 0) (c_Mod_whole hE (dle hd (Nat.le_of_ble_eq_true rfl)) hv19) cv_Mod_337 (by decide +kernel) (ddd hd (Nat.le_of_ble_eq_true rfl)) rfl (Nat.le_of_ble_eq_true rfl) rfl rfl ?_
    obtain ⟨I20, L21, hv22, h⟩ := bnd2_some h
    refine X.callVv (pc := 67) (nc := 0) (ns := 0) (c_Mod_entersFraction hE (dle hd (Nat.le_of_ble_eq_true rfl)) hS hv22) cv_Mod_340 (by decide +kernel) hS ⟨by decide, rfl⟩ (ddd hd (Nat.le_of_ble_eq_true rfl)) rfl (Nat.le_of_ble_eq_true rfl) rfl rfl ?_
    refine X.aload_0 (pc := 70) (by decide +kernel) ?_
    refine X.aload_0 (pc := 71) (by decide +kernel) ?_
    refine X.aload_0 (pc := 72) (by decide +kernel) ?_
    refine X.getI (pc := 73) (k := 10) fw_Mod_47 (by decide +kernel) (fun _ => rfl) hS ?_
    obtain ⟨x23, hv24, h⟩ := bnd1_some h
    refine X.callVl (pc := 76) (nc := 0) (ns := 0) (c_Mod_chanceNow hE (dle hd (Nat.le_of_ble_eq_true rfl)) hS hv24) cv_Mod_333 (by decide +kernel) hS ⟨by decide, rfl⟩ (ddd hd (Nat.le_of_ble_eq_true rfl)) rfl (Nat.le_of_ble_eq_true rfl) rfl rfl ?_
    refine X.iload_1 (pc := 79) (by decide +kernel) ?_
    obtain ⟨x25, hv26, h⟩ := bnd1_some h
    refine X.callSl (pc := 80) (nc := 0) (ns := 0) (c_Mod_whole hE (dle hd (Nat.le_of_ble_eq_true rfl)) hv26) cv_Mod_337 (by decide +kernel) (ddd hd (Nat.le_of_ble_eq_true rfl)) rfl (Nat.le_of_ble_eq_true rfl) rfl rfl ?_
    obtain ⟨I27, L28, hv29, h⟩ := bnd2_some h
    refine X.callVv (pc := 83) (nc := 0) (ns := 0) (c_Mod_entersFraction hE (dle hd (Nat.le_of_ble_eq_true rfl)) hS hv29) cv_Mod_340 (by decide +kernel) hS ⟨by decide, rfl⟩ (ddd hd (Nat.le_of_ble_eq_true rfl)) rfl (Nat.le_of_ble_eq_true rfl) rfl rfl ?_
    refine X.iconst (pc := 86) (i := 0) (v := 0) ic_0 (by decide +kernel) ?_
    have j0 := Option.some.inj h
    obtain ⟨i0, j1⟩ := Prod.mk.inj j0
    obtain ⟨i1, j2⟩ := Prod.mk.inj j1
    subst i0
    subst i1
    subst j2
    exact X.ireturn (pc := 87) (by decide +kernel) ⟨_, rfl, rfl⟩ ⟨rfl, rfl, rfl, rfl, rfl, rfl⟩
set_option maxRecDepth 100000 in
noncomputable def f_Mod_honest (g : Nat) (S : MS) (R : MR) (I : MI) (L : ML) (t : Nat) (p1 : Int32) : Option (Int32 × MI × ML) :=
  lt (wI I t 0 0) fun (I1 : MI) =>
  bnd1 (f_Mod_areFew p1) fun x2 =>
  ifb (x2 = 0)
    (some ((-1), I1, L))
    (bnd1 (R t 21) fun b5 =>
    bnd1 (f_Mod_wants g S R I1 L t b5 p1) fun L6 =>
    bnd1 (f_Mod_chanceNow S R I1 L6 t (I1 t 10)) fun x8 =>
    bnd1 (f_Mod_works g S R I1 L6 t p1 0 1) fun L10 =>
    lt (wI I1 t 1 0) fun (I12 : MI) =>
    bnd1 (f_Mod_chanceNow S R I12 L10 t (I12 t 10)) fun x13 =>
    bnd1 (f_Mod_whole g p1) fun x15 =>
    bnd2 (f_Mod_entersFraction S R I12 L10 t (x13 - x8) x15) fun I17 L18 =>
    bnd1 (f_Mod_chanceNow S R I17 L18 t (I17 t 10)) fun x20 =>
    bnd1 (ifb ((lg_cmp x20 x8) = 0)
        (some 1)
        (some 0)) fun (y23 : Int32) =>
    bnd1 (f_Mod_flag y23) fun x26 =>
    some (x26, I17, L18))
set_option maxRecDepth 100000 in
set_option maxHeartbeats 4000000 in
theorem c_Mod_honest {E : Env} (hE : OKE E) {tg : Bool} {d : Nat} (hd : 203 ≤ d) {g : Nat} {S : MS} {I : MI} {L : ML} {R : MR} {n : Nat} {t : Nat} {p1 : Int32} {v : Int32} {I' : MI} {L' : ML} (hS : (S t).1 = 12) (h : f_Mod_honest g S R I L t p1 = some (v, I', L')) : C E y_Mod_honest b_Mod_honest 4 (some .int) tg d 0 0 [.ref (e_b E + t), .int p1] S I L R n (Kq (some (.int v)) S I' L' R n) := by
  refine C.of (o := [some (.ref (e_b E + t)), some (.int p1), none, none]) (by decide) rfl (Nat.le_of_ble_eq_true rfl) ?_
  rw [f_Mod_honest] at h
  refine X.aload_0 (pc := 0) (by decide +kernel) ?_
  refine X.iconst (pc := 1) (i := 0) (v := 0) ic_0 (by decide +kernel) ?_
  refine X.putI (pc := 2) (k := 0) fw_Mod_3 (by decide +kernel) rfl rfl hS ?_
  refine X.nameMI (fun I1 hI1 => ?_)
  have h := lt_at hI1 h
  refine X.iload_1 (pc := 5) (by decide +kernel) ?_
  obtain ⟨x2, hv3, h⟩ := bnd1_some h
  refine X.callSi (pc := 6) (nc := 0) (ns := 0) (c_Mod_areFew hE (dle hd (Nat.le_of_ble_eq_true rfl)) hv3) cv_Mod_360 (by decide +kernel) (ddd hd (Nat.le_of_ble_eq_true rfl)) rfl (Nat.le_of_ble_eq_true rfl) rfl rfl ?_
  rcases ifb_some h with ⟨hq4, h⟩ | ⟨hq4, h⟩
  · refine X.if_ne_f (pc := 9) (off := 5) (tgt := 14) hq4 rfl (by decide +kernel) ?_
    refine X.iconst (pc := 12) (i := (-1)) (v := (-1)) ic_m1 (by decide +kernel) ?_
    have j0 := Option.some.inj h
    obtain ⟨i0, j1⟩ := Prod.mk.inj j0
    obtain ⟨i1, j2⟩ := Prod.mk.inj j1
    subst i0
    subst i1
    subst j2
    exact X.ireturn (pc := 13) (by decide +kernel) ⟨_, rfl, rfl⟩ ⟨rfl, rfl, rfl, rfl, rfl, rfl⟩
  · refine X.if_ne_t (pc := 9) (off := 5) (tgt := 14) hq4 rfl (by decide +kernel) ?_
    refine X.aload_0 (pc := 14) (by decide +kernel) ?_
    refine X.aload_0 (pc := 15) (by decide +kernel) ?_
    obtain ⟨b5, hb5, h⟩ := bnd1_some h
    refine X.getR (pc := 16) (k := 21) fw_Mod_65 (by decide +kernel) (fun _ => rfl) hS hb5 ?_
    refine X.iload_1 (pc := 19) (by decide +kernel) ?_
    obtain ⟨L6, hv7, h⟩ := bnd1_some h
    refine X.callVv (pc := 20) (nc := 0) (ns := 0) (c_Mod_wants hE (dle hd (Nat.le_of_ble_eq_true rfl)) hS hv7) cv_Mod_363 (by decide +kernel) hS ⟨by decide, rfl⟩ (ddd hd (Nat.le_of_ble_eq_true rfl)) rfl (Nat.le_of_ble_eq_true rfl) rfl rfl ?_
    refine X.aload_0 (pc := 23) (by decide +kernel) ?_
    refine X.aload_0 (pc := 24) (by decide +kernel) ?_
    refine X.getI (pc := 25) (k := 10) fw_Mod_47 (by decide +kernel) (fun _ => rfl) hS ?_
    obtain ⟨x8, hv9, h⟩ := bnd1_some h
    refine X.callVl (pc := 28) (nc := 0) (ns := 0) (c_Mod_chanceNow hE (dle hd (Nat.le_of_ble_eq_true rfl)) hS hv9) cv_Mod_333 (by decide +kernel) hS ⟨by decide, rfl⟩ (ddd hd (Nat.le_of_ble_eq_true rfl)) rfl (Nat.le_of_ble_eq_true rfl) rfl rfl ?_
    refine X.lstore_2 (pc := 31) (by decide +kernel) (by decide) rfl ?_
    refine X.aload_0 (pc := 32) (by decide +kernel) ?_
    refine X.iload_1 (pc := 33) (by decide +kernel) ?_
    refine X.iconst (pc := 34) (i := 0) (v := 0) ic_0 (by decide +kernel) ?_
    refine X.iconst (pc := 35) (i := 1) (v := 1) ic_1 (by decide +kernel) ?_
    obtain ⟨L10, hv11, h⟩ := bnd1_some h
    refine X.callVv (pc := 36) (nc := 0) (ns := 0) (c_Mod_works hE (dle hd (Nat.le_of_ble_eq_true rfl)) hS hv11) cv_Mod_329 (by decide +kernel) hS ⟨by decide, rfl⟩ (ddd hd (Nat.le_of_ble_eq_true rfl)) rfl (Nat.le_of_ble_eq_true rfl) rfl rfl ?_
    refine X.aload_0 (pc := 39) (by decide +kernel) ?_
    refine X.iconst (pc := 40) (i := 0) (v := 0) ic_0 (by decide +kernel) ?_
    refine X.putI (pc := 41) (k := 1) fw_Mod_21 (by decide +kernel) rfl rfl hS ?_
    refine X.nameMI (fun I12 hI12 => ?_)
    have h := lt_at hI12 h
    refine X.aload_0 (pc := 44) (by decide +kernel) ?_
    refine X.aload_0 (pc := 45) (by decide +kernel) ?_
    refine X.aload_0 (pc := 46) (by decide +kernel) ?_
    refine X.getI (pc := 47) (k := 10) fw_Mod_47 (by decide +kernel) (fun _ => rfl) hS ?_
    obtain ⟨x13, hv14, h⟩ := bnd1_some h
    refine X.callVl (pc := 50) (nc := 0) (ns := 0) (c_Mod_chanceNow hE (dle hd (Nat.le_of_ble_eq_true rfl)) hS hv14) cv_Mod_333 (by decide +kernel) hS ⟨by decide, rfl⟩ (ddd hd (Nat.le_of_ble_eq_true rfl)) rfl (Nat.le_of_ble_eq_true rfl) rfl rfl ?_
    refine X.lload_2 (pc := 53) (by decide +kernel) ?_
    refine X.lsub (pc := 54) (by decide +kernel) ?_
    refine X.iload_1 (pc := 55) (by decide +kernel) ?_
    obtain ⟨x15, hv16, h⟩ := bnd1_some h
    refine X.callSl (pc := 56) (nc := 0) (ns := 0) (c_Mod_whole hE (dle hd (Nat.le_of_ble_eq_true rfl)) hv16) cv_Mod_337 (by decide +kernel) (ddd hd (Nat.le_of_ble_eq_true rfl)) rfl (Nat.le_of_ble_eq_true rfl) rfl rfl ?_
    obtain ⟨I17, L18, hv19, h⟩ := bnd2_some h
    refine X.callVv (pc := 59) (nc := 0) (ns := 0) (c_Mod_entersFraction hE (dle hd (Nat.le_of_ble_eq_true rfl)) hS hv19) cv_Mod_340 (by decide +kernel) hS ⟨by decide, rfl⟩ (ddd hd (Nat.le_of_ble_eq_true rfl)) rfl (Nat.le_of_ble_eq_true rfl) rfl rfl ?_
    refine X.aload_0 (pc := 62) (by decide +kernel) ?_
    refine X.aload_0 (pc := 63) (by decide +kernel) ?_
    refine X.getI (pc := 64) (k := 10) fw_Mod_47 (by decide +kernel) (fun _ => rfl) hS ?_
    obtain ⟨x20, hv21, h⟩ := bnd1_some h
    refine X.callVl (pc := 67) (nc := 0) (ns := 0) (c_Mod_chanceNow hE (dle hd (Nat.le_of_ble_eq_true rfl)) hS hv21) cv_Mod_333 (by decide +kernel) hS ⟨by decide, rfl⟩ (ddd hd (Nat.le_of_ble_eq_true rfl)) rfl (Nat.le_of_ble_eq_true rfl) rfl rfl ?_
    refine X.lload_2 (pc := 70) (by decide +kernel) ?_
    refine X.lcmp (pc := 71) (by decide +kernel) ?_
    obtain ⟨y23, hr24, h⟩ := bnd1_some h
    have hj25 : X E y_Mod_honest b_Mod_honest 4 (some .int) tg d 0 0 80 [none, none, none, none] [.int y23] S I17 L18 R n (Kq (some (.int v)) S I' L' R n) := by
      obtain ⟨x26, hv27, h⟩ := bnd1_some h
      refine X.callSi (pc := 80) (nc := 0) (ns := 0) (c_Mod_flag hE (dle hd (Nat.le_of_ble_eq_true rfl)) hv27) cv_Mod_155 (by decide +kernel) (ddd hd (Nat.le_of_ble_eq_true rfl)) rfl (Nat.le_of_ble_eq_true rfl) rfl rfl ?_
      have j0 := Option.some.inj h
      obtain ⟨i0, j1⟩ := Prod.mk.inj j0
      obtain ⟨i1, j2⟩ := Prod.mk.inj j1
      subst i0
      subst i1
      subst j2
      exact X.ireturn (pc := 83) (by decide +kernel) ⟨_, rfl, rfl⟩ ⟨rfl, rfl, rfl, rfl, rfl, rfl⟩
    have h := hr24
    rcases ifb_some h with ⟨hq22, h⟩ | ⟨hq22, h⟩
    · refine X.if_ne_f (pc := 72) (off := 7) (tgt := 79) hq22 rfl (by decide +kernel) ?_
      refine X.iconst (pc := 75) (i := 1) (v := 1) ic_1 (by decide +kernel) ?_
      refine X.goto (pc := 76) (off := 4) (tgt := 80) (by decide +kernel) rfl ?_
      have j0 := Option.some.inj h
      subst j0
      refine X.fgt (o' := [none, none, none, none]) trivial ?_
      exact hj25
    · refine X.if_ne_t (pc := 72) (off := 7) (tgt := 79) hq22 rfl (by decide +kernel) ?_
      refine X.iconst (pc := 79) (i := 0) (v := 0) ic_0 (by decide +kernel) ?_
      have j0 := Option.some.inj h
      subst j0
      refine X.fgt (o' := [none, none, none, none]) trivial ?_
      exact hj25
set_option maxRecDepth 100000 in
noncomputable def l_Mod_shelf_28 (S : MS) (R : MR) (v0 : Nat) (v1 : Int32) : Nat → MI → Int32 → Option MI
  | 0, _, _ => none
  | f + 1, I, v2 =>
    ifb (5 ≤ v2)
      (some I)
      (bnd1 (R v0 35) fun b10 =>
      bnd1 (R v0 21) fun b11 =>
      asrt ((S b11).1 = 20) <|
      asrt (vp_in v2 (S b11).2) <|
      lt (I b11 (Int32.toNatClampNeg v2)) fun (x14 : Int32) =>
      asrt ((S b10).1 = 20) <|
      asrt (vp_in ((5 * v1) + v2) (S b10).2) <|
      lt (wI I b10 (Int32.toNatClampNeg ((5 * v1) + v2)) x14) fun (I17 : MI) =>
      l_Mod_shelf_28 S R v0 v1 f I17 (v2 + 1))
set_option maxRecDepth 100000 in
set_option maxHeartbeats 4000000 in
theorem xl_Mod_shelf_28 {E : Env} (hE : OKE E) {tg : Bool} {d : Nat} (hd : 1 ≤ d) {S : MS} {L : ML} {R : MR} {n : Nat} {v0 : Nat} {v1 : Int32} {K : KT} :
    ∀ {f : Nat} {I : MI} {v2 : Int32} {I' : MI}, (S v0).1 = 12 → l_Mod_shelf_28 S R v0 v1 f I v2 = some I' → X E y_Mod_shelf b_Mod_shelf 3 (some .boolean) tg d 0 0 55 [none, none, none] [] S I' L R n K → X E y_Mod_shelf b_Mod_shelf 3 (some .boolean) tg d 0 0 28 [some (.ref (e_b E + v0)), some (.int v1), some (.int v2)] [] S I L R n K := by
  intro f
  induction f with
  | zero =>
    intro I v2 I' hS h hk
    rw [l_Mod_shelf_28] at h
    cases h
  | succ f ih =>
    intro I v2 I' hS h hk
    rw [l_Mod_shelf_28] at h
    refine X.iload_2 (pc := 28) (by decide +kernel) ?_
    refine X.iconst (pc := 29) (i := 5) (v := 5) ic_5 (by decide +kernel) ?_
    rcases ifb_some h with ⟨hq9, h⟩ | ⟨hq9, h⟩
    · refine X.icmp_ge_t (pc := 30) (off := 25) (tgt := 55) hq9 rfl (by decide +kernel) ?_
      have j0 := Option.some.inj h
      subst j0
      refine X.fgt (o' := [none, none, none]) trivial ?_
      exact hk
    · refine X.icmp_ge_f (pc := 30) (off := 25) (tgt := 55) hq9 rfl (by decide +kernel) ?_
      refine X.aload_0 (pc := 33) (by decide +kernel) ?_
      obtain ⟨b10, hb10, h⟩ := bnd1_some h
      refine X.getR (pc := 34) (k := 35) fw_Mod_105 (by decide +kernel) (fun _ => rfl) hS hb10 ?_
      refine X.iconst (pc := 37) (i := 5) (v := 5) ic_5 (by decide +kernel) ?_
      refine X.iload_1 (pc := 38) (by decide +kernel) ?_
      refine X.imul (pc := 39) (by decide +kernel) ?_
      refine X.iload_2 (pc := 40) (by decide +kernel) ?_
      refine X.iadd (pc := 41) (by decide +kernel) ?_
      refine X.aload_0 (pc := 42) (by decide +kernel) ?_
      obtain ⟨b11, hb11, h⟩ := bnd1_some h
      refine X.getR (pc := 43) (k := 21) fw_Mod_65 (by decide +kernel) (fun _ => rfl) hS hb11 ?_
      refine X.iload_2 (pc := 46) (by decide +kernel) ?_
      obtain ⟨hc13, h⟩ := asrt_some h
      obtain ⟨hi12, h⟩ := asrt_some h
      refine X.iaload (pc := 47) (by decide +kernel) hc13 hi12 ?_
      refine X.nameI (fun x14 hx14 => ?_)
      have h := lt_at hx14 h
      obtain ⟨hc15, h⟩ := asrt_some h
      obtain ⟨hi16, h⟩ := asrt_some h
      refine X.iastore (pc := 48) (by decide +kernel) hc15 hi16 ?_
      refine X.nameMI (fun I17 hI17 => ?_)
      have h := lt_at hI17 h
      refine X.iinc_2 (pc := 49) (z := 1) (v := 1) ic_1 (by decide +kernel) (by decide) rfl ?_
      refine X.goto (pc := 52) (off := (-24)) (tgt := 28) (by decide +kernel) rfl ?_
      exact ih hS h hk
set_option maxRecDepth 100000 in
noncomputable def f_Mod_shelf (g : Nat) (S : MS) (R : MR) (I : MI) (t : Nat) (p1 : Int32) : Option (Int32 × MI) :=
  lt (wI I t 0 0) fun (I1 : MI) =>
  bnd1 (f_Mod_in (Int32.toInt64 p1) 0 2) fun x2 =>
  ifb (x2 = 0)
    (some (0, I1))
    (bnd1 (R t 34) fun b5 =>
    asrt ((S b5).1 = 22) <|
    asrt (vp_in p1 (S b5).2) <|
    lt (wI I1 b5 (Int32.toNatClampNeg p1) (1 &&& 1)) fun (I8 : MI) =>
    bnd1 (l_Mod_shelf_28 S R t p1 g I8 0) fun I18 =>
    some (1, I18))
set_option maxRecDepth 100000 in
set_option maxHeartbeats 4000000 in
theorem c_Mod_shelf {E : Env} (hE : OKE E) {tg : Bool} {d : Nat} (hd : 1 ≤ d) {g : Nat} {S : MS} {I : MI} {L : ML} {R : MR} {n : Nat} {t : Nat} {p1 : Int32} {v : Int32} {I' : MI} (hS : (S t).1 = 12) (h : f_Mod_shelf g S R I t p1 = some (v, I')) : C E y_Mod_shelf b_Mod_shelf 3 (some .boolean) tg d 0 0 [.ref (e_b E + t), .int p1] S I L R n (Kq (some (.int v)) S I' L R n) := by
  refine C.of (o := [some (.ref (e_b E + t)), some (.int p1), none]) (by decide) rfl (Nat.le_of_ble_eq_true rfl) ?_
  rw [f_Mod_shelf] at h
  refine X.aload_0 (pc := 0) (by decide +kernel) ?_
  refine X.iconst (pc := 1) (i := 0) (v := 0) ic_0 (by decide +kernel) ?_
  refine X.putI (pc := 2) (k := 0) fw_Mod_3 (by decide +kernel) rfl rfl hS ?_
  refine X.nameMI (fun I1 hI1 => ?_)
  have h := lt_at hI1 h
  refine X.iload_1 (pc := 5) (by decide +kernel) ?_
  refine X.i2l (pc := 6) (by decide +kernel) ?_
  refine X.lconst (pc := 7) (i := 0) (v := 0) rfl (by decide +kernel) ?_
  refine X.ldc2 (pc := 8) (x := 259) (v := 2) ld_Mod_259 (by decide +kernel) ?_
  obtain ⟨x2, hv3, h⟩ := bnd1_some h
  refine X.callSi (pc := 11) (nc := 0) (ns := 0) (c_Mod_in hE (dle hd (Nat.le_of_ble_eq_true rfl)) hv3) cv_Mod_151 (by decide +kernel) (ddd hd (Nat.le_of_ble_eq_true rfl)) rfl (Nat.le_of_ble_eq_true rfl) rfl rfl ?_
  rcases ifb_some h with ⟨hq4, h⟩ | ⟨hq4, h⟩
  · refine X.if_ne_f (pc := 14) (off := 5) (tgt := 19) hq4 rfl (by decide +kernel) ?_
    refine X.iconst (pc := 17) (i := 0) (v := 0) ic_0 (by decide +kernel) ?_
    have j0 := Option.some.inj h
    obtain ⟨i0, j1⟩ := Prod.mk.inj j0
    subst i0
    subst j1
    exact X.ireturn (pc := 18) (by decide +kernel) ⟨_, rfl, nz01 (Or.inl rfl)⟩ ⟨rfl, rfl, rfl, rfl, rfl, rfl⟩
  · refine X.if_ne_t (pc := 14) (off := 5) (tgt := 19) hq4 rfl (by decide +kernel) ?_
    refine X.aload_0 (pc := 19) (by decide +kernel) ?_
    obtain ⟨b5, hb5, h⟩ := bnd1_some h
    refine X.getR (pc := 20) (k := 34) fw_Mod_102 (by decide +kernel) (fun _ => rfl) hS hb5 ?_
    refine X.iload_1 (pc := 23) (by decide +kernel) ?_
    refine X.iconst (pc := 24) (i := 1) (v := 1) ic_1 (by decide +kernel) ?_
    obtain ⟨hc6, h⟩ := asrt_some h
    obtain ⟨hi7, h⟩ := asrt_some h
    refine X.bastore (pc := 25) (by decide +kernel) hc6 hi7 ?_
    refine X.nameMI (fun I8 hI8 => ?_)
    have h := lt_at hI8 h
    refine X.iconst (pc := 26) (i := 0) (v := 0) ic_0 (by decide +kernel) ?_
    refine X.istore_2 (pc := 27) (by decide +kernel) (by decide) rfl ?_
    obtain ⟨I18, hv19, h⟩ := bnd1_some h
    refine xl_Mod_shelf_28 hE hd hS hv19 ?_
    refine X.iconst (pc := 55) (i := 1) (v := 1) ic_1 (by decide +kernel) ?_
    have j0 := Option.some.inj h
    obtain ⟨i0, j1⟩ := Prod.mk.inj j0
    subst i0
    subst j1
    exact X.ireturn (pc := 56) (by decide +kernel) ⟨_, rfl, nz01 (Or.inr rfl)⟩ ⟨rfl, rfl, rfl, rfl, rfl, rfl⟩
set_option maxRecDepth 100000 in
noncomputable def l_Mod_fairest_78 (S : MS) (R : MR) (v0 : Nat) (v1 : Int32) (v2 : Int32) (v3 : Int64) (v5 : Int32) : Nat → MI → Int32 → Option MI
  | 0, _, _ => none
  | f + 1, I, v6 =>
    ifb (5 ≤ v6)
      (some I)
      (bnd1 (R v0 36) fun b26 =>
      bnd1 (R v0 35) fun b27 =>
      lt ((5 * v5) + v6) fun (x28 : Int32) =>
      asrt ((S b27).1 = 20) <|
      asrt (vp_in x28 (S b27).2) <|
      lt (I b27 (Int32.toNatClampNeg x28)) fun (x31 : Int32) =>
      asrt ((S b26).1 = 20) <|
      asrt (vp_in v6 (S b26).2) <|
      lt (wI I b26 (Int32.toNatClampNeg v6) x31) fun (I34 : MI) =>
      l_Mod_fairest_78 S R v0 v1 v2 v3 v5 f I34 (v6 + 1))
set_option maxRecDepth 100000 in
set_option maxHeartbeats 4000000 in
theorem xl_Mod_fairest_78 {E : Env} (hE : OKE E) {tg : Bool} {d : Nat} (hd : 203 ≤ d) {S : MS} {L : ML} {R : MR} {n : Nat} {v0 : Nat} {v1 : Int32} {v2 : Int32} {v3 : Int64} {v5 : Int32} {K : KT} :
    ∀ {f : Nat} {I : MI} {v6 : Int32} {I' : MI}, (S v0).1 = 12 → l_Mod_fairest_78 S R v0 v1 v2 v3 v5 f I v6 = some I' → X E y_Mod_fairest b_Mod_fairest 8 (some .int) tg d 0 0 109 [some (.ref (e_b E + v0)), some (.int v1), some (.int v2), some (.long v3), none, some (.int v5), none, none] [] S I' L R n K → X E y_Mod_fairest b_Mod_fairest 8 (some .int) tg d 0 0 78 [some (.ref (e_b E + v0)), some (.int v1), some (.int v2), some (.long v3), none, some (.int v5), some (.int v6), none] [] S I L R n K := by
  intro f
  induction f with
  | zero =>
    intro I v6 I' hS h hk
    rw [l_Mod_fairest_78] at h
    cases h
  | succ f ih =>
    intro I v6 I' hS h hk
    rw [l_Mod_fairest_78] at h
    refine X.iload_6 (pc := 78) (by decide +kernel) ?_
    refine X.iconst (pc := 80) (i := 5) (v := 5) ic_5 (by decide +kernel) ?_
    rcases ifb_some h with ⟨hq25, h⟩ | ⟨hq25, h⟩
    · refine X.icmp_ge_t (pc := 81) (off := 28) (tgt := 109) hq25 rfl (by decide +kernel) ?_
      have j0 := Option.some.inj h
      subst j0
      refine X.fgt (o' := [some (.ref (e_b E + v0)), some (.int v1), some (.int v2), some (.long v3), none, some (.int v5), none, none]) ⟨rfl, ⟨rfl, ⟨rfl, ⟨rfl, ⟨rfl, trivial⟩⟩⟩⟩⟩ ?_
      exact hk
    · refine X.icmp_ge_f (pc := 81) (off := 28) (tgt := 109) hq25 rfl (by decide +kernel) ?_
      refine X.aload_0 (pc := 84) (by decide +kernel) ?_
      obtain ⟨b26, hb26, h⟩ := bnd1_some h
      refine X.getR (pc := 85) (k := 36) fw_Mod_108 (by decide +kernel) (fun _ => rfl) hS hb26 ?_
      refine X.iload_6 (pc := 88) (by decide +kernel) ?_
      refine X.aload_0 (pc := 90) (by decide +kernel) ?_
      obtain ⟨b27, hb27, h⟩ := bnd1_some h
      refine X.getR (pc := 91) (k := 35) fw_Mod_105 (by decide +kernel) (fun _ => rfl) hS hb27 ?_
      refine X.iconst (pc := 94) (i := 5) (v := 5) ic_5 (by decide +kernel) ?_
      refine X.iload_5 (pc := 95) (by decide +kernel) ?_
      refine X.imul (pc := 97) (by decide +kernel) ?_
      refine X.iload_6 (pc := 98) (by decide +kernel) ?_
      refine X.iadd (pc := 100) (by decide +kernel) ?_
      refine X.nameI (fun x28 hx28 => ?_)
      have h := lt_at hx28 h
      obtain ⟨hc30, h⟩ := asrt_some h
      obtain ⟨hi29, h⟩ := asrt_some h
      refine X.iaload (pc := 101) (by decide +kernel) hc30 hi29 ?_
      refine X.nameI (fun x31 hx31 => ?_)
      have h := lt_at hx31 h
      obtain ⟨hc32, h⟩ := asrt_some h
      obtain ⟨hi33, h⟩ := asrt_some h
      refine X.iastore (pc := 102) (by decide +kernel) hc32 hi33 ?_
      refine X.nameMI (fun I34 hI34 => ?_)
      have h := lt_at hI34 h
      refine X.iinc_6 (pc := 103) (z := 1) (v := 1) ic_1 (by decide +kernel) (by decide) rfl ?_
      refine X.goto (pc := 106) (off := (-28)) (tgt := 78) (by decide +kernel) rfl ?_
      exact ih hS h hk
set_option maxRecDepth 100000 in
noncomputable def l_Mod_fairest_56 (g : Nat) (S : MS) (R : MR) (v0 : Nat) (v1 : Int32) : Nat → MI → ML → Int32 → Int64 → Int32 → Option (Int32 × MI × ML)
  | 0, _, _, _, _, _ => none
  | f + 1, I, L, v2, v3, v5 =>
    ifb (3 ≤ v5)
      (some (v2, I, L))
      (bnd1 (R v0 34) fun b15 =>
      asrt ((S b15).1 = 22) <|
      asrt (vp_in v5 (S b15).2) <|
      bnd4 (ifb ((I b15 (Int32.toNatClampNeg v5)) = 0)
          (some (v2, v3, I, L))
          (bnd1 (l_Mod_fairest_78 S R v0 v1 v2 v3 v5 g I 0) fun I35 =>
          bnd1 (R v0 36) fun b37 =>
          bnd1 (f_Mod_wants g S R I35 L v0 b37 v1) fun L38 =>
          bnd1 (f_Mod_chanceNow S R I35 L38 v0 (I35 v0 10)) fun x40 =>
          bnd1 (f_Mod_whole g v1) fun x42 =>
          bnd2 (f_Mod_entersFraction S R I35 L38 v0 x40 x42) fun I44 L45 =>
          bnd1 (ifb (v2 < 0)
              (some v5)
              (ifb ((lg_cmp x40 v3) ≤ 0)
                (some v2)
                (some v5))) fun (y48 : Int32) =>
          bnd1 (f_JMath_max_JJ v3 x40) fun x52 =>
          some (y48, x52, I44, L45))) fun (z19 : Int32) (z20 : Int64) (I21 : MI) (L22 : ML) =>
      l_Mod_fairest_56 g S R v0 v1 f I21 L22 z19 z20 (v5 + 1))
set_option maxRecDepth 100000 in
set_option maxHeartbeats 4000000 in
theorem xl_Mod_fairest_56 {E : Env} (hE : OKE E) {tg : Bool} {d : Nat} (hd : 203 ≤ d) {g : Nat} {S : MS} {R : MR} {n : Nat} {v0 : Nat} {v1 : Int32} {K : KT} :
    ∀ {f : Nat} {I : MI} {L : ML} {v2 : Int32} {v3 : Int64} {v5 : Int32} {o2 : Int32} {I' : MI} {L' : ML}, (S v0).1 = 12 → l_Mod_fairest_56 g S R v0 v1 f I L v2 v3 v5 = some (o2, I', L') → X E y_Mod_fairest b_Mod_fairest 8 (some .int) tg d 0 0 169 [none, none, some (.int o2), none, none, none, none, none] [] S I' L' R n K → X E y_Mod_fairest b_Mod_fairest 8 (some .int) tg d 0 0 56 [some (.ref (e_b E + v0)), some (.int v1), some (.int v2), some (.long v3), none, some (.int v5), none, none] [] S I L R n K := by
  intro f
  induction f with
  | zero =>
    intro I L v2 v3 v5 o2 I' L' hS h hk
    rw [l_Mod_fairest_56] at h
    cases h
  | succ f ih =>
    intro I L v2 v3 v5 o2 I' L' hS h hk
    rw [l_Mod_fairest_56] at h
    refine X.iload_5 (pc := 56) (by decide +kernel) ?_
    refine X.iconst (pc := 58) (i := 3) (v := 3) ic_3 (by decide +kernel) ?_
    rcases ifb_some h with ⟨hq14, h⟩ | ⟨hq14, h⟩
    · refine X.icmp_ge_t (pc := 59) (off := 110) (tgt := 169) hq14 rfl (by decide +kernel) ?_
      have j0 := Option.some.inj h
      obtain ⟨i0, j1⟩ := Prod.mk.inj j0
      obtain ⟨i1, j2⟩ := Prod.mk.inj j1
      subst i0
      subst i1
      subst j2
      refine X.fgt (o' := [none, none, some (.int v2), none, none, none, none, none]) ⟨rfl, trivial⟩ ?_
      exact hk
    · refine X.icmp_ge_f (pc := 59) (off := 110) (tgt := 169) hq14 rfl (by decide +kernel) ?_
      refine X.aload_0 (pc := 62) (by decide +kernel) ?_
      obtain ⟨b15, hb15, h⟩ := bnd1_some h
      refine X.getR (pc := 63) (k := 34) fw_Mod_102 (by decide +kernel) (fun _ => rfl) hS hb15 ?_
      refine X.iload_5 (pc := 66) (by decide +kernel) ?_
      obtain ⟨hc17, h⟩ := asrt_some h
      obtain ⟨hi16, h⟩ := asrt_some h
      refine X.baload (pc := 68) (by decide +kernel) hc17 hi16 ?_
      obtain ⟨z19, z20, I21, L22, hr23, h⟩ := bnd4_some h
      have hj24 : X E y_Mod_fairest b_Mod_fairest 8 (some .int) tg d 0 0 163 [some (.ref (e_b E + v0)), some (.int v1), some (.int z19), some (.long z20), none, some (.int v5), none, none] [] S I21 L22 R n K := by
        refine X.iinc_5 (pc := 163) (z := 1) (v := 1) ic_1 (by decide +kernel) (by decide) rfl ?_
        refine X.goto (pc := 166) (off := (-110)) (tgt := 56) (by decide +kernel) rfl ?_
        exact ih hS h hk
      have h := hr23
      rcases ifb_some h with ⟨hq18, h⟩ | ⟨hq18, h⟩
      · refine X.if_ne_f (pc := 69) (off := 6) (tgt := 75) hq18 rfl (by decide +kernel) ?_
        refine X.goto (pc := 72) (off := 91) (tgt := 163) (by decide +kernel) rfl ?_
        have j0 := Option.some.inj h
        obtain ⟨i0, j1⟩ := Prod.mk.inj j0
        obtain ⟨i1, j2⟩ := Prod.mk.inj j1
        obtain ⟨i2, j3⟩ := Prod.mk.inj j2
        subst i0
        subst i1
        subst i2
        subst j3
        exact hj24
      · refine X.if_ne_t (pc := 69) (off := 6) (tgt := 75) hq18 rfl (by decide +kernel) ?_
        refine X.iconst (pc := 75) (i := 0) (v := 0) ic_0 (by decide +kernel) ?_
        refine X.istore_6 (pc := 76) (by decide +kernel) (by decide) rfl ?_
        obtain ⟨I35, hv36, h⟩ := bnd1_some h
        refine xl_Mod_fairest_78 hE hd hS hv36 ?_
        refine X.aload_0 (pc := 109) (by decide +kernel) ?_
        refine X.aload_0 (pc := 110) (by decide +kernel) ?_
        obtain ⟨b37, hb37, h⟩ := bnd1_some h
        refine X.getR (pc := 111) (k := 36) fw_Mod_108 (by decide +kernel) (fun _ => rfl) hS hb37 ?_
        refine X.iload_1 (pc := 114) (by decide +kernel) ?_
        obtain ⟨L38, hv39, h⟩ := bnd1_some h
        refine X.callVv (pc := 115) (nc := 0) (ns := 0) (c_Mod_wants hE (dle hd (Nat.le_of_ble_eq_true rfl)) hS hv39) cv_Mod_363 (by decide +kernel) hS ⟨by decide, rfl⟩ (ddd hd (Nat.le_of_ble_eq_true rfl)) rfl (Nat.le_of_ble_eq_true rfl) rfl rfl ?_
        refine X.aload_0 (pc := 118) (by decide +kernel) ?_
        refine X.aload_0 (pc := 119) (by decide +kernel) ?_
        refine X.getI (pc := 120) (k := 10) fw_Mod_47 (by decide +kernel) (fun _ => rfl) hS ?_
        obtain ⟨x40, hv41, h⟩ := bnd1_some h
        refine X.callVl (pc := 123) (nc := 0) (ns := 0) (c_Mod_chanceNow hE (dle hd (Nat.le_of_ble_eq_true rfl)) hS hv41) cv_Mod_333 (by decide +kernel) hS ⟨by decide, rfl⟩ (ddd hd (Nat.le_of_ble_eq_true rfl)) rfl (Nat.le_of_ble_eq_true rfl) rfl rfl ?_
        refine X.lstore_6 (pc := 126) (by decide +kernel) (by decide) rfl ?_
        refine X.aload_0 (pc := 128) (by decide +kernel) ?_
        refine X.lload_6 (pc := 129) (by decide +kernel) ?_
        refine X.iload_1 (pc := 131) (by decide +kernel) ?_
        obtain ⟨x42, hv43, h⟩ := bnd1_some h
        refine X.callSl (pc := 132) (nc := 0) (ns := 0) (c_Mod_whole hE (dle hd (Nat.le_of_ble_eq_true rfl)) hv43) cv_Mod_337 (by decide +kernel) (ddd hd (Nat.le_of_ble_eq_true rfl)) rfl (Nat.le_of_ble_eq_true rfl) rfl rfl ?_
        obtain ⟨I44, L45, hv46, h⟩ := bnd2_some h
        refine X.callVv (pc := 135) (nc := 0) (ns := 0) (c_Mod_entersFraction hE (dle hd (Nat.le_of_ble_eq_true rfl)) hS hv46) cv_Mod_340 (by decide +kernel) hS ⟨by decide, rfl⟩ (ddd hd (Nat.le_of_ble_eq_true rfl)) rfl (Nat.le_of_ble_eq_true rfl) rfl rfl ?_
        refine X.iload_2 (pc := 138) (by decide +kernel) ?_
        obtain ⟨y48, hr49, h⟩ := bnd1_some h
        have hj50 : X E y_Mod_fairest b_Mod_fairest 8 (some .int) tg d 0 0 155 [some (.ref (e_b E + v0)), some (.int v1), none, some (.long v3), none, some (.int v5), some (.long x40), none] [.int y48] S I44 L45 R n K := by
          refine X.istore_2 (pc := 155) (by decide +kernel) (by decide) rfl ?_
          refine X.lload_3 (pc := 156) (by decide +kernel) ?_
          refine X.lload_6 (pc := 157) (by decide +kernel) ?_
          obtain ⟨x52, hv53, h⟩ := bnd1_some h
          refine X.callSl (pc := 159) (nc := 0) (ns := 0) (c_JMath_max_JJ hE (dle hd (Nat.le_of_ble_eq_true rfl)) hv53) cv_Mod_314 (by decide +kernel) (ddd hd (Nat.le_of_ble_eq_true rfl)) rfl (Nat.le_of_ble_eq_true rfl) rfl rfl ?_
          refine X.lstore_3 (pc := 162) (by decide +kernel) (by decide) rfl ?_
          have j0 := Option.some.inj h
          obtain ⟨i0, j1⟩ := Prod.mk.inj j0
          obtain ⟨i1, j2⟩ := Prod.mk.inj j1
          obtain ⟨i2, j3⟩ := Prod.mk.inj j2
          subst i0
          subst i1
          subst i2
          subst j3
          refine X.fgt (o' := [some (.ref (e_b E + v0)), some (.int v1), some (.int y48), some (.long x52), none, some (.int v5), none, none]) ⟨rfl, ⟨rfl, ⟨rfl, ⟨rfl, ⟨rfl, trivial⟩⟩⟩⟩⟩ ?_
          exact hj24
        have h := hr49
        rcases ifb_some h with ⟨hq47, h⟩ | ⟨hq47, h⟩
        · refine X.if_lt_t (pc := 139) (off := 10) (tgt := 149) hq47 rfl (by decide +kernel) ?_
          refine X.iload_5 (pc := 149) (by decide +kernel) ?_
          refine X.goto (pc := 151) (off := 4) (tgt := 155) (by decide +kernel) rfl ?_
          have j0 := Option.some.inj h
          subst j0
          refine X.fgt (o' := [some (.ref (e_b E + v0)), some (.int v1), none, some (.long v3), none, some (.int v5), some (.long x40), none]) ⟨rfl, ⟨rfl, ⟨rfl, ⟨rfl, ⟨rfl, trivial⟩⟩⟩⟩⟩ ?_
          exact hj50
        · refine X.if_lt_f (pc := 139) (off := 10) (tgt := 149) hq47 rfl (by decide +kernel) ?_
          refine X.lload_6 (pc := 142) (by decide +kernel) ?_
          refine X.lload_3 (pc := 144) (by decide +kernel) ?_
          refine X.lcmp (pc := 145) (by decide +kernel) ?_
          rcases ifb_some h with ⟨hq51, h⟩ | ⟨hq51, h⟩
          · refine X.if_le_t (pc := 146) (off := 8) (tgt := 154) hq51 rfl (by decide +kernel) ?_
            refine X.iload_2 (pc := 154) (by decide +kernel) ?_
            have j0 := Option.some.inj h
            subst j0
            refine X.fgt (o' := [some (.ref (e_b E + v0)), some (.int v1), none, some (.long v3), none, some (.int v5), some (.long x40), none]) ⟨rfl, ⟨rfl, ⟨rfl, ⟨rfl, ⟨rfl, trivial⟩⟩⟩⟩⟩ ?_
            exact hj50
          · refine X.if_le_f (pc := 146) (off := 8) (tgt := 154) hq51 rfl (by decide +kernel) ?_
            refine X.iload_5 (pc := 149) (by decide +kernel) ?_
            refine X.goto (pc := 151) (off := 4) (tgt := 155) (by decide +kernel) rfl ?_
            have j0 := Option.some.inj h
            subst j0
            refine X.fgt (o' := [some (.ref (e_b E + v0)), some (.int v1), none, some (.long v3), none, some (.int v5), some (.long x40), none]) ⟨rfl, ⟨rfl, ⟨rfl, ⟨rfl, ⟨rfl, trivial⟩⟩⟩⟩⟩ ?_
            exact hj50
set_option maxRecDepth 100000 in
noncomputable def f_Mod_fairest (g : Nat) (S : MS) (R : MR) (I : MI) (L : ML) (t : Nat) (p1 : Int32) : Option (Int32 × MI × ML) :=
  lt (wI I t 0 0) fun (I1 : MI) =>
  bnd1 (f_Mod_areFew p1) fun x2 =>
  ifb (x2 = 0)
    (some ((-1), I1, L))
    (bnd1 (R t 34) fun b5 =>
    asrt ((S b5).1 = 22) <|
    asrt (vp_in 0 (S b5).2) <|
    ifb ((I1 b5 (Int32.toNatClampNeg 0)) = 0)
      (asrt (vp_in 1 (S b5).2) <|
      ifb ((I1 b5 (Int32.toNatClampNeg 1)) = 0)
        (asrt (vp_in 2 (S b5).2) <|
        ifb ((I1 b5 (Int32.toNatClampNeg 2)) = 0)
          (some ((-2), I1, L))
          (lt (wI I1 t 1 0) fun (I13 : MI) =>
          bnd3 (l_Mod_fairest_56 g S R t p1 g I13 L (-1) 0 0) fun x54 I55 L56 =>
          some (x54, I55, L56)))
        (lt (wI I1 t 1 0) fun (I58 : MI) =>
        bnd3 (l_Mod_fairest_56 g S R t p1 g I58 L (-1) 0 0) fun x59 I60 L61 =>
        some (x59, I60, L61)))
      (lt (wI I1 t 1 0) fun (I63 : MI) =>
      bnd3 (l_Mod_fairest_56 g S R t p1 g I63 L (-1) 0 0) fun x64 I65 L66 =>
      some (x64, I65, L66)))
set_option maxRecDepth 100000 in
set_option maxHeartbeats 4000000 in
theorem c_Mod_fairest {E : Env} (hE : OKE E) {tg : Bool} {d : Nat} (hd : 203 ≤ d) {g : Nat} {S : MS} {I : MI} {L : ML} {R : MR} {n : Nat} {t : Nat} {p1 : Int32} {v : Int32} {I' : MI} {L' : ML} (hS : (S t).1 = 12) (h : f_Mod_fairest g S R I L t p1 = some (v, I', L')) : C E y_Mod_fairest b_Mod_fairest 8 (some .int) tg d 0 0 [.ref (e_b E + t), .int p1] S I L R n (Kq (some (.int v)) S I' L' R n) := by
  refine C.of (o := [some (.ref (e_b E + t)), some (.int p1), none, none, none, none, none, none]) (by decide) rfl (Nat.le_of_ble_eq_true rfl) ?_
  rw [f_Mod_fairest] at h
  refine X.aload_0 (pc := 0) (by decide +kernel) ?_
  refine X.iconst (pc := 1) (i := 0) (v := 0) ic_0 (by decide +kernel) ?_
  refine X.putI (pc := 2) (k := 0) fw_Mod_3 (by decide +kernel) rfl rfl hS ?_
  refine X.nameMI (fun I1 hI1 => ?_)
  have h := lt_at hI1 h
  refine X.iload_1 (pc := 5) (by decide +kernel) ?_
  obtain ⟨x2, hv3, h⟩ := bnd1_some h
  refine X.callSi (pc := 6) (nc := 0) (ns := 0) (c_Mod_areFew hE (dle hd (Nat.le_of_ble_eq_true rfl)) hv3) cv_Mod_360 (by decide +kernel) (ddd hd (Nat.le_of_ble_eq_true rfl)) rfl (Nat.le_of_ble_eq_true rfl) rfl rfl ?_
  rcases ifb_some h with ⟨hq4, h⟩ | ⟨hq4, h⟩
  · refine X.if_ne_f (pc := 9) (off := 5) (tgt := 14) hq4 rfl (by decide +kernel) ?_
    refine X.iconst (pc := 12) (i := (-1)) (v := (-1)) ic_m1 (by decide +kernel) ?_
    have j0 := Option.some.inj h
    obtain ⟨i0, j1⟩ := Prod.mk.inj j0
    obtain ⟨i1, j2⟩ := Prod.mk.inj j1
    subst i0
    subst i1
    subst j2
    exact X.ireturn (pc := 13) (by decide +kernel) ⟨_, rfl, rfl⟩ ⟨rfl, rfl, rfl, rfl, rfl, rfl⟩
  · refine X.if_ne_t (pc := 9) (off := 5) (tgt := 14) hq4 rfl (by decide +kernel) ?_
    refine X.aload_0 (pc := 14) (by decide +kernel) ?_
    obtain ⟨b5, hb5, h⟩ := bnd1_some h
    refine X.getR (pc := 15) (k := 34) fw_Mod_102 (by decide +kernel) (fun _ => rfl) hS hb5 ?_
    refine X.iconst (pc := 18) (i := 0) (v := 0) ic_0 (by decide +kernel) ?_
    obtain ⟨hc7, h⟩ := asrt_some h
    obtain ⟨hi6, h⟩ := asrt_some h
    refine X.baload (pc := 19) (by decide +kernel) hc7 hi6 ?_
    rcases ifb_some h with ⟨hq8, h⟩ | ⟨hq8, h⟩
    · refine X.if_ne_f (pc := 20) (off := 24) (tgt := 44) hq8 rfl (by decide +kernel) ?_
      refine X.aload_0 (pc := 23) (by decide +kernel) ?_
      refine X.getR (pc := 24) (k := 34) fw_Mod_102 (by decide +kernel) (fun _ => rfl) hS hb5 ?_
      refine X.iconst (pc := 27) (i := 1) (v := 1) ic_1 (by decide +kernel) ?_
      obtain ⟨hi9, h⟩ := asrt_some h
      refine X.baload (pc := 28) (by decide +kernel) hc7 hi9 ?_
      rcases ifb_some h with ⟨hq10, h⟩ | ⟨hq10, h⟩
      · refine X.if_ne_f (pc := 29) (off := 15) (tgt := 44) hq10 rfl (by decide +kernel) ?_
        refine X.aload_0 (pc := 32) (by decide +kernel) ?_
        refine X.getR (pc := 33) (k := 34) fw_Mod_102 (by decide +kernel) (fun _ => rfl) hS hb5 ?_
        refine X.iconst (pc := 36) (i := 2) (v := 2) ic_2 (by decide +kernel) ?_
        obtain ⟨hi11, h⟩ := asrt_some h
        refine X.baload (pc := 37) (by decide +kernel) hc7 hi11 ?_
        rcases ifb_some h with ⟨hq12, h⟩ | ⟨hq12, h⟩
        · refine X.if_ne_f (pc := 38) (off := 6) (tgt := 44) hq12 rfl (by decide +kernel) ?_
          refine X.bipush (pc := 41) (i := (-2)) (v := (-2)) bp_m2 (by decide +kernel) ?_
          have j0 := Option.some.inj h
          obtain ⟨i0, j1⟩ := Prod.mk.inj j0
          obtain ⟨i1, j2⟩ := Prod.mk.inj j1
          subst i0
          subst i1
          subst j2
          exact X.ireturn (pc := 43) (by decide +kernel) ⟨_, rfl, rfl⟩ ⟨rfl, rfl, rfl, rfl, rfl, rfl⟩
        · refine X.if_ne_t (pc := 38) (off := 6) (tgt := 44) hq12 rfl (by decide +kernel) ?_
          refine X.aload_0 (pc := 44) (by decide +kernel) ?_
          refine X.iconst (pc := 45) (i := 0) (v := 0) ic_0 (by decide +kernel) ?_
          refine X.putI (pc := 46) (k := 1) fw_Mod_21 (by decide +kernel) rfl rfl hS ?_
          refine X.nameMI (fun I13 hI13 => ?_)
          have h := lt_at hI13 h
          refine X.iconst (pc := 49) (i := (-1)) (v := (-1)) ic_m1 (by decide +kernel) ?_
          refine X.istore_2 (pc := 50) (by decide +kernel) (by decide) rfl ?_
          refine X.lconst (pc := 51) (i := 0) (v := 0) rfl (by decide +kernel) ?_
          refine X.lstore_3 (pc := 52) (by decide +kernel) (by decide) rfl ?_
          refine X.iconst (pc := 53) (i := 0) (v := 0) ic_0 (by decide +kernel) ?_
          refine X.istore_5 (pc := 54) (by decide +kernel) (by decide) rfl ?_
          obtain ⟨x54, I55, L56, hv57, h⟩ := bnd3_some h
          refine xl_Mod_fairest_56 hE hd hS hv57 ?_
          refine X.iload_2 (pc := 169) (by decide +kernel) ?_
          have j0 := Option.some.inj h
          obtain ⟨i0, j1⟩ := Prod.mk.inj j0
          obtain ⟨i1, j2⟩ := Prod.mk.inj j1
          subst i0
          subst i1
          subst j2
          exact X.ireturn (pc := 170) (by decide +kernel) ⟨_, rfl, rfl⟩ ⟨rfl, rfl, rfl, rfl, rfl, rfl⟩
      · refine X.if_ne_t (pc := 29) (off := 15) (tgt := 44) hq10 rfl (by decide +kernel) ?_
        refine X.aload_0 (pc := 44) (by decide +kernel) ?_
        refine X.iconst (pc := 45) (i := 0) (v := 0) ic_0 (by decide +kernel) ?_
        refine X.putI (pc := 46) (k := 1) fw_Mod_21 (by decide +kernel) rfl rfl hS ?_
        refine X.nameMI (fun I58 hI58 => ?_)
        have h := lt_at hI58 h
        refine X.iconst (pc := 49) (i := (-1)) (v := (-1)) ic_m1 (by decide +kernel) ?_
        refine X.istore_2 (pc := 50) (by decide +kernel) (by decide) rfl ?_
        refine X.lconst (pc := 51) (i := 0) (v := 0) rfl (by decide +kernel) ?_
        refine X.lstore_3 (pc := 52) (by decide +kernel) (by decide) rfl ?_
        refine X.iconst (pc := 53) (i := 0) (v := 0) ic_0 (by decide +kernel) ?_
        refine X.istore_5 (pc := 54) (by decide +kernel) (by decide) rfl ?_
        obtain ⟨x59, I60, L61, hv62, h⟩ := bnd3_some h
        refine xl_Mod_fairest_56 hE hd hS hv62 ?_
        refine X.iload_2 (pc := 169) (by decide +kernel) ?_
        have j0 := Option.some.inj h
        obtain ⟨i0, j1⟩ := Prod.mk.inj j0
        obtain ⟨i1, j2⟩ := Prod.mk.inj j1
        subst i0
        subst i1
        subst j2
        exact X.ireturn (pc := 170) (by decide +kernel) ⟨_, rfl, rfl⟩ ⟨rfl, rfl, rfl, rfl, rfl, rfl⟩
    · refine X.if_ne_t (pc := 20) (off := 24) (tgt := 44) hq8 rfl (by decide +kernel) ?_
      refine X.aload_0 (pc := 44) (by decide +kernel) ?_
      refine X.iconst (pc := 45) (i := 0) (v := 0) ic_0 (by decide +kernel) ?_
      refine X.putI (pc := 46) (k := 1) fw_Mod_21 (by decide +kernel) rfl rfl hS ?_
      refine X.nameMI (fun I63 hI63 => ?_)
      have h := lt_at hI63 h
      refine X.iconst (pc := 49) (i := (-1)) (v := (-1)) ic_m1 (by decide +kernel) ?_
      refine X.istore_2 (pc := 50) (by decide +kernel) (by decide) rfl ?_
      refine X.lconst (pc := 51) (i := 0) (v := 0) rfl (by decide +kernel) ?_
      refine X.lstore_3 (pc := 52) (by decide +kernel) (by decide) rfl ?_
      refine X.iconst (pc := 53) (i := 0) (v := 0) ic_0 (by decide +kernel) ?_
      refine X.istore_5 (pc := 54) (by decide +kernel) (by decide) rfl ?_
      obtain ⟨x64, I65, L66, hv67, h⟩ := bnd3_some h
      refine xl_Mod_fairest_56 hE hd hS hv67 ?_
      refine X.iload_2 (pc := 169) (by decide +kernel) ?_
      have j0 := Option.some.inj h
      obtain ⟨i0, j1⟩ := Prod.mk.inj j0
      obtain ⟨i1, j2⟩ := Prod.mk.inj j1
      subst i0
      subst i1
      subst j2
      exact X.ireturn (pc := 170) (by decide +kernel) ⟨_, rfl, rfl⟩ ⟨rfl, rfl, rfl, rfl, rfl, rfl⟩
set_option maxRecDepth 100000 in
noncomputable def f_Mod_track (S : MS) (R : MR) (I : MI) (t : Nat) (p1 : Int32) : Option (Int32 × MI) :=
  lt (wI I t 0 0) fun (I1 : MI) =>
  bnd1 (f_Mod_isCell S I1 t p1) fun x2 =>
  bnd1 (ifb (x2 = 0)
      (some (-1))
      (bnd1 (R t 15) fun b8 =>
      asrt ((S b8).1 = 20) <|
      asrt (vp_in p1 (S b8).2) <|
      some (I1 b8 (Int32.toNatClampNeg p1)))) fun (y5 : Int32) =>
  some (y5, I1)
set_option maxRecDepth 100000 in
set_option maxHeartbeats 4000000 in
theorem c_Mod_track {E : Env} (hE : OKE E) {tg : Bool} {d : Nat} (hd : 2 ≤ d) {S : MS} {I : MI} {L : ML} {R : MR} {n : Nat} {t : Nat} {p1 : Int32} {v : Int32} {I' : MI} (hS : (S t).1 = 12) (h : f_Mod_track S R I t p1 = some (v, I')) : C E y_Mod_track b_Mod_track 2 (some .int) tg d 0 0 [.ref (e_b E + t), .int p1] S I L R n (Kq (some (.int v)) S I' L R n) := by
  refine C.of (o := [some (.ref (e_b E + t)), some (.int p1)]) (by decide) rfl (Nat.le_of_ble_eq_true rfl) ?_
  rw [f_Mod_track] at h
  refine X.aload_0 (pc := 0) (by decide +kernel) ?_
  refine X.iconst (pc := 1) (i := 0) (v := 0) ic_0 (by decide +kernel) ?_
  refine X.putI (pc := 2) (k := 0) fw_Mod_3 (by decide +kernel) rfl rfl hS ?_
  refine X.nameMI (fun I1 hI1 => ?_)
  have h := lt_at hI1 h
  refine X.aload_0 (pc := 5) (by decide +kernel) ?_
  refine X.iload_1 (pc := 6) (by decide +kernel) ?_
  obtain ⟨x2, hv3, h⟩ := bnd1_some h
  refine X.callVi (pc := 7) (nc := 0) (ns := 0) (c_Mod_isCell hE (dle hd (Nat.le_of_ble_eq_true rfl)) hS hv3) cv_Mod_236 (by decide +kernel) hS ⟨by decide, rfl⟩ (ddd hd (Nat.le_of_ble_eq_true rfl)) rfl (Nat.le_of_ble_eq_true rfl) rfl rfl ?_
  obtain ⟨y5, hr6, h⟩ := bnd1_some h
  have hj7 : X E y_Mod_track b_Mod_track 2 (some .int) tg d 0 0 23 [none, none] [.int y5] S I1 L R n (Kq (some (.int v)) S I' L R n) := by
    have j0 := Option.some.inj h
    obtain ⟨i0, j1⟩ := Prod.mk.inj j0
    subst i0
    subst j1
    exact X.ireturn (pc := 23) (by decide +kernel) ⟨_, rfl, rfl⟩ ⟨rfl, rfl, rfl, rfl, rfl, rfl⟩
  have h := hr6
  rcases ifb_some h with ⟨hq4, h⟩ | ⟨hq4, h⟩
  · refine X.if_eq_t (pc := 10) (off := 12) (tgt := 22) hq4 rfl (by decide +kernel) ?_
    refine X.iconst (pc := 22) (i := (-1)) (v := (-1)) ic_m1 (by decide +kernel) ?_
    have j0 := Option.some.inj h
    subst j0
    refine X.fgt (o' := [none, none]) trivial ?_
    exact hj7
  · refine X.if_eq_f (pc := 10) (off := 12) (tgt := 22) hq4 rfl (by decide +kernel) ?_
    refine X.aload_0 (pc := 13) (by decide +kernel) ?_
    obtain ⟨b8, hb8, h⟩ := bnd1_some h
    refine X.getR (pc := 14) (k := 15) fw_Mod_56 (by decide +kernel) (fun _ => rfl) hS hb8 ?_
    refine X.iload_1 (pc := 17) (by decide +kernel) ?_
    obtain ⟨hc10, h⟩ := asrt_some h
    obtain ⟨hi9, h⟩ := asrt_some h
    refine X.iaload (pc := 18) (by decide +kernel) hc10 hi9 ?_
    refine X.goto (pc := 19) (off := 4) (tgt := 23) (by decide +kernel) rfl ?_
    have j0 := Option.some.inj h
    subst j0
    refine X.fgt (o' := [none, none]) trivial ?_
    exact hj7
set_option maxRecDepth 100000 in
noncomputable def f_Mod_rain (g : Nat) (S : MS) (R : MR) (I : MI) (t : Nat) : Option (Int32 × MI) :=
  lt (wI I t 0 0) fun (I1 : MI) =>
  bnd2 (f_Mod_clearsTracks g S R I1 t) fun x2 I3 =>
  some (x2, I3)
set_option maxRecDepth 100000 in
set_option maxHeartbeats 4000000 in
theorem c_Mod_rain {E : Env} (hE : OKE E) {tg : Bool} {d : Nat} (hd : 2 ≤ d) {g : Nat} {S : MS} {I : MI} {L : ML} {R : MR} {n : Nat} {t : Nat} {v : Int32} {I' : MI} (hS : (S t).1 = 12) (h : f_Mod_rain g S R I t = some (v, I')) : C E y_Mod_rain b_Mod_rain 1 (some .int) tg d 0 0 [.ref (e_b E + t)] S I L R n (Kq (some (.int v)) S I' L R n) := by
  refine C.of (o := [some (.ref (e_b E + t))]) (by decide) rfl (Nat.le_of_ble_eq_true rfl) ?_
  rw [f_Mod_rain] at h
  refine X.aload_0 (pc := 0) (by decide +kernel) ?_
  refine X.iconst (pc := 1) (i := 0) (v := 0) ic_0 (by decide +kernel) ?_
  refine X.putI (pc := 2) (k := 0) fw_Mod_3 (by decide +kernel) rfl rfl hS ?_
  refine X.nameMI (fun I1 hI1 => ?_)
  have h := lt_at hI1 h
  refine X.aload_0 (pc := 5) (by decide +kernel) ?_
  obtain ⟨x2, I3, hv4, h⟩ := bnd2_some h
  refine X.callVi (pc := 6) (nc := 0) (ns := 0) (c_Mod_clearsTracks hE (dle hd (Nat.le_of_ble_eq_true rfl)) hS hv4) cv_Mod_144 (by decide +kernel) hS ⟨by decide, rfl⟩ (ddd hd (Nat.le_of_ble_eq_true rfl)) rfl (Nat.le_of_ble_eq_true rfl) rfl rfl ?_
  have j0 := Option.some.inj h
  obtain ⟨i0, j1⟩ := Prod.mk.inj j0
  subst i0
  subst j1
  exact X.ireturn (pc := 9) (by decide +kernel) ⟨_, rfl, rfl⟩ ⟨rfl, rfl, rfl, rfl, rfl, rfl⟩
set_option maxRecDepth 100000 in
noncomputable def l_Mod_followed_14 (S : MS) (R : MR) (v0 : Nat) : Nat → MI → Int32 → Int64 → Int32 → Option (Int32 × Int32 × MI)
  | 0, _, _, _, _ => none
  | f + 1, I, v2, v3, v5 =>
    bnd1 (R v0 15) fun b3 =>
    asrt ((S b3).1 = 20) <|
    asrt (vp_in v5 (S b3).2) <|
    ifb ((I b3 (Int32.toNatClampNeg v5)) < 0)
      (some (v2, v5, I))
      (ifb ((I v0 38) = 0)
        (asrt (vp_in v5 (S b3).2) <|
        lt (I b3 (Int32.toNatClampNeg v5)) fun (x9 : Int32) =>
        bnd1 (ifb ((lg_cmp ((lsr v3 x9) &&& 1) 1) = 0)
            (some 1)
            (some 0)) fun (y11 : Int32) =>
        asrt (y11 = 0 ∨ y11 = 1) <|
        lt (wI I v0 38 y11) fun (I15 : MI) =>
        lt (v3 ||| (lsl 1 x9)) fun (x16 : Int64) =>
        l_Mod_followed_14 S R v0 f I15 (v2 + 1) x16 x9)
        (some (v2, v5, I)))
set_option maxRecDepth 100000 in
set_option maxHeartbeats 4000000 in
theorem xl_Mod_followed_14 {E : Env} (hE : OKE E) {tg : Bool} {d : Nat} (hd : 0 ≤ d) {S : MS} {L : ML} {R : MR} {n : Nat} {v0 : Nat} {K : KT} :
    ∀ {f : Nat} {I : MI} {v2 : Int32} {v3 : Int64} {v5 : Int32} {o2 : Int32} {o5 : Int32} {I' : MI}, (S v0).1 = 12 → l_Mod_followed_14 S R v0 f I v2 v3 v5 = some (o2, o5, I') → X E y_Mod_followed b_Mod_followed 6 (some .int) tg d 0 0 73 [some (.ref (e_b E + v0)), none, some (.int o2), none, none, some (.int o5)] [] S I' L R n K → X E y_Mod_followed b_Mod_followed 6 (some .int) tg d 0 0 14 [some (.ref (e_b E + v0)), none, some (.int v2), some (.long v3), none, some (.int v5)] [] S I L R n K := by
  intro f
  induction f with
  | zero =>
    intro I v2 v3 v5 o2 o5 I' hS h hk
    rw [l_Mod_followed_14] at h
    cases h
  | succ f ih =>
    intro I v2 v3 v5 o2 o5 I' hS h hk
    rw [l_Mod_followed_14] at h
    refine X.aload_0 (pc := 14) (by decide +kernel) ?_
    obtain ⟨b3, hb3, h⟩ := bnd1_some h
    refine X.getR (pc := 15) (k := 15) fw_Mod_56 (by decide +kernel) (fun _ => rfl) hS hb3 ?_
    refine X.iload_5 (pc := 18) (by decide +kernel) ?_
    obtain ⟨hc5, h⟩ := asrt_some h
    obtain ⟨hi4, h⟩ := asrt_some h
    refine X.iaload (pc := 20) (by decide +kernel) hc5 hi4 ?_
    rcases ifb_some h with ⟨hq6, h⟩ | ⟨hq6, h⟩
    · refine X.if_lt_t (pc := 21) (off := 52) (tgt := 73) hq6 rfl (by decide +kernel) ?_
      have j0 := Option.some.inj h
      obtain ⟨i0, j1⟩ := Prod.mk.inj j0
      obtain ⟨i1, j2⟩ := Prod.mk.inj j1
      subst i0
      subst i1
      subst j2
      refine X.fgt (o' := [some (.ref (e_b E + v0)), none, some (.int v2), none, none, some (.int v5)]) ⟨rfl, ⟨rfl, ⟨rfl, trivial⟩⟩⟩ ?_
      exact hk
    · refine X.if_lt_f (pc := 21) (off := 52) (tgt := 73) hq6 rfl (by decide +kernel) ?_
      refine X.aload_0 (pc := 24) (by decide +kernel) ?_
      refine X.getI (pc := 25) (k := 38) fw_Mod_366 (by decide +kernel) (fun _ => rfl) hS ?_
      rcases ifb_some h with ⟨hq7, h⟩ | ⟨hq7, h⟩
      · refine X.if_ne_f (pc := 28) (off := 45) (tgt := 73) hq7 rfl (by decide +kernel) ?_
        refine X.aload_0 (pc := 31) (by decide +kernel) ?_
        refine X.getR (pc := 32) (k := 15) fw_Mod_56 (by decide +kernel) (fun _ => rfl) hS hb3 ?_
        refine X.iload_5 (pc := 35) (by decide +kernel) ?_
        obtain ⟨hi8, h⟩ := asrt_some h
        refine X.iaload (pc := 37) (by decide +kernel) hc5 hi8 ?_
        refine X.nameI (fun x9 hx9 => ?_)
        have h := lt_at hx9 h
        refine X.istore_5 (pc := 38) (by decide +kernel) (by decide) rfl ?_
        refine X.iinc_2 (pc := 40) (z := 1) (v := 1) ic_1 (by decide +kernel) (by decide) rfl ?_
        refine X.aload_0 (pc := 43) (by decide +kernel) ?_
        refine X.lload_3 (pc := 44) (by decide +kernel) ?_
        refine X.iload_5 (pc := 45) (by decide +kernel) ?_
        refine X.lshr (pc := 47) (by decide +kernel) ?_
        refine X.lconst (pc := 48) (i := 1) (v := 1) rfl (by decide +kernel) ?_
        refine X.land (pc := 49) (by decide +kernel) ?_
        refine X.lconst (pc := 50) (i := 1) (v := 1) rfl (by decide +kernel) ?_
        refine X.lcmp (pc := 51) (by decide +kernel) ?_
        obtain ⟨y11, hr12, h⟩ := bnd1_some h
        have hj13 : X E y_Mod_followed b_Mod_followed 6 (some .int) tg d 0 0 60 [some (.ref (e_b E + v0)), none, some (.int (v2 + 1)), some (.long v3), none, some (.int x9)] [.int y11, .ref (e_b E + v0)] S I L R n K := by
          obtain ⟨hb14, h⟩ := asrt_some h
          refine X.putZ (pc := 60) (k := 38) fw_Mod_366 (by decide +kernel) rfl rfl hS hb14 ?_
          refine X.nameMI (fun I15 hI15 => ?_)
          have h := lt_at hI15 h
          refine X.lload_3 (pc := 63) (by decide +kernel) ?_
          refine X.lconst (pc := 64) (i := 1) (v := 1) rfl (by decide +kernel) ?_
          refine X.iload_5 (pc := 65) (by decide +kernel) ?_
          refine X.lshl (pc := 67) (by decide +kernel) ?_
          refine X.lor (pc := 68) (by decide +kernel) ?_
          refine X.nameL (fun x16 hx16 => ?_)
          have h := lt_at hx16 h
          refine X.lstore_3 (pc := 69) (by decide +kernel) (by decide) rfl ?_
          refine X.goto (pc := 70) (off := (-56)) (tgt := 14) (by decide +kernel) rfl ?_
          exact ih hS h hk
        have h := hr12
        rcases ifb_some h with ⟨hq10, h⟩ | ⟨hq10, h⟩
        · refine X.if_ne_f (pc := 52) (off := 7) (tgt := 59) hq10 rfl (by decide +kernel) ?_
          refine X.iconst (pc := 55) (i := 1) (v := 1) ic_1 (by decide +kernel) ?_
          refine X.goto (pc := 56) (off := 4) (tgt := 60) (by decide +kernel) rfl ?_
          have j0 := Option.some.inj h
          subst j0
          exact hj13
        · refine X.if_ne_t (pc := 52) (off := 7) (tgt := 59) hq10 rfl (by decide +kernel) ?_
          refine X.iconst (pc := 59) (i := 0) (v := 0) ic_0 (by decide +kernel) ?_
          have j0 := Option.some.inj h
          subst j0
          exact hj13
      · refine X.if_ne_t (pc := 28) (off := 45) (tgt := 73) hq7 rfl (by decide +kernel) ?_
        have j0 := Option.some.inj h
        obtain ⟨i0, j1⟩ := Prod.mk.inj j0
        obtain ⟨i1, j2⟩ := Prod.mk.inj j1
        subst i0
        subst i1
        subst j2
        refine X.fgt (o' := [some (.ref (e_b E + v0)), none, some (.int v2), none, none, some (.int v5)]) ⟨rfl, ⟨rfl, ⟨rfl, trivial⟩⟩⟩ ?_
        exact hk
set_option maxRecDepth 100000 in
noncomputable def f_Mod_followed (g : Nat) (S : MS) (R : MR) (I : MI) (t : Nat) (p1 : Int32) : Option (Int32 × MI) :=
  lt (lsl 1 p1) fun (x1 : Int64) =>
  lt (wI I t 38 0) fun (I2 : MI) =>
  bnd3 (l_Mod_followed_14 S R t g I2 0 x1 p1) fun x17 x18 I19 =>
  lt (wI I19 t 37 x17) fun (I21 : MI) =>
  some (x18, I21)
set_option maxRecDepth 100000 in
set_option maxHeartbeats 4000000 in
theorem c_Mod_followed {E : Env} (hE : OKE E) {tg : Bool} {d : Nat} (hd : 0 ≤ d) {g : Nat} {S : MS} {I : MI} {L : ML} {R : MR} {n : Nat} {t : Nat} {p1 : Int32} {v : Int32} {I' : MI} (hS : (S t).1 = 12) (h : f_Mod_followed g S R I t p1 = some (v, I')) : C E y_Mod_followed b_Mod_followed 6 (some .int) tg d 0 0 [.ref (e_b E + t), .int p1] S I L R n (Kq (some (.int v)) S I' L R n) := by
  refine C.of (o := [some (.ref (e_b E + t)), some (.int p1), none, none, none, none]) (by decide) rfl (Nat.le_of_ble_eq_true rfl) ?_
  rw [f_Mod_followed] at h
  refine X.iconst (pc := 0) (i := 0) (v := 0) ic_0 (by decide +kernel) ?_
  refine X.istore_2 (pc := 1) (by decide +kernel) (by decide) rfl ?_
  refine X.lconst (pc := 2) (i := 1) (v := 1) rfl (by decide +kernel) ?_
  refine X.iload_1 (pc := 3) (by decide +kernel) ?_
  refine X.lshl (pc := 4) (by decide +kernel) ?_
  refine X.nameL (fun x1 hx1 => ?_)
  have h := lt_at hx1 h
  refine X.lstore_3 (pc := 5) (by decide +kernel) (by decide) rfl ?_
  refine X.iload_1 (pc := 6) (by decide +kernel) ?_
  refine X.istore_5 (pc := 7) (by decide +kernel) (by decide) rfl ?_
  refine X.aload_0 (pc := 9) (by decide +kernel) ?_
  refine X.iconst (pc := 10) (i := 0) (v := 0) ic_0 (by decide +kernel) ?_
  refine X.putZ (pc := 11) (k := 38) fw_Mod_366 (by decide +kernel) rfl rfl hS (Or.inl rfl) ?_
  refine X.nameMI (fun I2 hI2 => ?_)
  have h := lt_at hI2 h
  obtain ⟨x17, x18, I19, hv20, h⟩ := bnd3_some h
  refine X.fgt (o' := [some (.ref (e_b E + t)), none, some (.int 0), some (.long x1), none, some (.int p1)]) ⟨rfl, ⟨rfl, ⟨rfl, ⟨rfl, trivial⟩⟩⟩⟩ ?_
  refine xl_Mod_followed_14 hE hd hS hv20 ?_
  refine X.aload_0 (pc := 73) (by decide +kernel) ?_
  refine X.iload_2 (pc := 74) (by decide +kernel) ?_
  refine X.putI (pc := 75) (k := 37) fw_Mod_370 (by decide +kernel) rfl rfl hS ?_
  refine X.nameMI (fun I21 hI21 => ?_)
  have h := lt_at hI21 h
  refine X.iload_5 (pc := 78) (by decide +kernel) ?_
  have j0 := Option.some.inj h
  obtain ⟨i0, j1⟩ := Prod.mk.inj j0
  subst i0
  subst j1
  exact X.ireturn (pc := 80) (by decide +kernel) ⟨_, rfl, rfl⟩ ⟨rfl, rfl, rfl, rfl, rfl, rfl⟩
set_option maxRecDepth 100000 in
noncomputable def f_Mod_follow (g : Nat) (S : MS) (R : MR) (I : MI) (L : ML) (t : Nat) (p1 : Int32) : Option (Int32 × MI × ML) :=
  lt (wI I t 0 0) fun (I1 : MI) =>
  bnd1 (f_Mod_isCell S I1 t p1) fun x2 =>
  ifb (x2 = 0)
    (some ((-1), I1, L))
    (bnd2 (f_Mod_followed g S R I1 t p1) fun x5 I6 =>
    lt (wI I6 t 1 0) fun (I8 : MI) =>
    bnd2 (f_Mod_enters S R I8 L t (Int32.toInt64 (I8 t 37))) fun I9 L10 =>
    bnd1 (ifb ((I9 t 38) = 0)
        (bnd1 (R t 5) fun b16 =>
        asrt ((S b16).1 = 20) <|
        asrt (vp_in x5 (S b16).2) <|
        bnd1 (f_Mod_endOf (I9 b16 (Int32.toNatClampNeg x5))) fun x19 =>
        some (Int32.toInt64 x19))
        (some 3)) fun (y13 : Int64) =>
    bnd2 (f_Mod_enters S R I9 L10 t y13) fun I21 L22 =>
    some (x5, I21, L22))
set_option maxRecDepth 100000 in
set_option maxHeartbeats 4000000 in
theorem c_Mod_follow {E : Env} (hE : OKE E) {tg : Bool} {d : Nat} (hd : 2 ≤ d) {g : Nat} {S : MS} {I : MI} {L : ML} {R : MR} {n : Nat} {t : Nat} {p1 : Int32} {v : Int32} {I' : MI} {L' : ML} (hS : (S t).1 = 12) (h : f_Mod_follow g S R I L t p1 = some (v, I', L')) : C E y_Mod_follow b_Mod_follow 3 (some .int) tg d 0 0 [.ref (e_b E + t), .int p1] S I L R n (Kq (some (.int v)) S I' L' R n) := by
  refine C.of (o := [some (.ref (e_b E + t)), some (.int p1), none]) (by decide) rfl (Nat.le_of_ble_eq_true rfl) ?_
  rw [f_Mod_follow] at h
  refine X.aload_0 (pc := 0) (by decide +kernel) ?_
  refine X.iconst (pc := 1) (i := 0) (v := 0) ic_0 (by decide +kernel) ?_
  refine X.putI (pc := 2) (k := 0) fw_Mod_3 (by decide +kernel) rfl rfl hS ?_
  refine X.nameMI (fun I1 hI1 => ?_)
  have h := lt_at hI1 h
  refine X.aload_0 (pc := 5) (by decide +kernel) ?_
  refine X.iload_1 (pc := 6) (by decide +kernel) ?_
  obtain ⟨x2, hv3, h⟩ := bnd1_some h
  refine X.callVi (pc := 7) (nc := 0) (ns := 0) (c_Mod_isCell hE (dle hd (Nat.le_of_ble_eq_true rfl)) hS hv3) cv_Mod_236 (by decide +kernel) hS ⟨by decide, rfl⟩ (ddd hd (Nat.le_of_ble_eq_true rfl)) rfl (Nat.le_of_ble_eq_true rfl) rfl rfl ?_
  rcases ifb_some h with ⟨hq4, h⟩ | ⟨hq4, h⟩
  · refine X.if_ne_f (pc := 10) (off := 5) (tgt := 15) hq4 rfl (by decide +kernel) ?_
    refine X.iconst (pc := 13) (i := (-1)) (v := (-1)) ic_m1 (by decide +kernel) ?_
    have j0 := Option.some.inj h
    obtain ⟨i0, j1⟩ := Prod.mk.inj j0
    obtain ⟨i1, j2⟩ := Prod.mk.inj j1
    subst i0
    subst i1
    subst j2
    exact X.ireturn (pc := 14) (by decide +kernel) ⟨_, rfl, rfl⟩ ⟨rfl, rfl, rfl, rfl, rfl, rfl⟩
  · refine X.if_ne_t (pc := 10) (off := 5) (tgt := 15) hq4 rfl (by decide +kernel) ?_
    refine X.aload_0 (pc := 15) (by decide +kernel) ?_
    refine X.iload_1 (pc := 16) (by decide +kernel) ?_
    obtain ⟨x5, I6, hv7, h⟩ := bnd2_some h
    refine X.callVi (pc := 17) (nc := 0) (ns := 0) (c_Mod_followed hE (dle hd (Nat.le_of_ble_eq_true rfl)) hS hv7) cv_Mod_373 (by decide +kernel) hS ⟨by decide, rfl⟩ (ddd hd (Nat.le_of_ble_eq_true rfl)) rfl (Nat.le_of_ble_eq_true rfl) rfl rfl ?_
    refine X.istore_2 (pc := 20) (by decide +kernel) (by decide) rfl ?_
    refine X.aload_0 (pc := 21) (by decide +kernel) ?_
    refine X.iconst (pc := 22) (i := 0) (v := 0) ic_0 (by decide +kernel) ?_
    refine X.putI (pc := 23) (k := 1) fw_Mod_21 (by decide +kernel) rfl rfl hS ?_
    refine X.nameMI (fun I8 hI8 => ?_)
    have h := lt_at hI8 h
    refine X.aload_0 (pc := 26) (by decide +kernel) ?_
    refine X.aload_0 (pc := 27) (by decide +kernel) ?_
    refine X.getI (pc := 28) (k := 37) fw_Mod_370 (by decide +kernel) (fun _ => rfl) hS ?_
    refine X.i2l (pc := 31) (by decide +kernel) ?_
    obtain ⟨I9, L10, hv11, h⟩ := bnd2_some h
    refine X.callVv (pc := 32) (nc := 0) (ns := 0) (c_Mod_enters hE (dle hd (Nat.le_of_ble_eq_true rfl)) hS hv11) cv_Mod_24 (by decide +kernel) hS ⟨by decide, rfl⟩ (ddd hd (Nat.le_of_ble_eq_true rfl)) rfl (Nat.le_of_ble_eq_true rfl) rfl rfl ?_
    refine X.aload_0 (pc := 35) (by decide +kernel) ?_
    refine X.aload_0 (pc := 36) (by decide +kernel) ?_
    refine X.getI (pc := 37) (k := 38) fw_Mod_366 (by decide +kernel) (fun _ => rfl) hS ?_
    obtain ⟨y13, hr14, h⟩ := bnd1_some h
    have hj15 : X E y_Mod_follow b_Mod_follow 3 (some .int) tg d 0 0 59 [none, none, some (.int x5)] [.long y13, .ref (e_b E + t)] S I9 L10 R n (Kq (some (.int v)) S I' L' R n) := by
      obtain ⟨I21, L22, hv23, h⟩ := bnd2_some h
      refine X.callVv (pc := 59) (nc := 0) (ns := 0) (c_Mod_enters hE (dle hd (Nat.le_of_ble_eq_true rfl)) hS hv23) cv_Mod_24 (by decide +kernel) hS ⟨by decide, rfl⟩ (ddd hd (Nat.le_of_ble_eq_true rfl)) rfl (Nat.le_of_ble_eq_true rfl) rfl rfl ?_
      refine X.iload_2 (pc := 62) (by decide +kernel) ?_
      have j0 := Option.some.inj h
      obtain ⟨i0, j1⟩ := Prod.mk.inj j0
      obtain ⟨i1, j2⟩ := Prod.mk.inj j1
      subst i0
      subst i1
      subst j2
      exact X.ireturn (pc := 63) (by decide +kernel) ⟨_, rfl, rfl⟩ ⟨rfl, rfl, rfl, rfl, rfl, rfl⟩
    have h := hr14
    rcases ifb_some h with ⟨hq12, h⟩ | ⟨hq12, h⟩
    · refine X.if_eq_t (pc := 40) (off := 9) (tgt := 49) hq12 rfl (by decide +kernel) ?_
      refine X.aload_0 (pc := 49) (by decide +kernel) ?_
      obtain ⟨b16, hb16, h⟩ := bnd1_some h
      refine X.getR (pc := 50) (k := 5) fw_Mod_40 (by decide +kernel) (fun _ => rfl) hS hb16 ?_
      refine X.iload_2 (pc := 53) (by decide +kernel) ?_
      obtain ⟨hc18, h⟩ := asrt_some h
      obtain ⟨hi17, h⟩ := asrt_some h
      refine X.iaload (pc := 54) (by decide +kernel) hc18 hi17 ?_
      obtain ⟨x19, hv20, h⟩ := bnd1_some h
      refine X.callSi (pc := 55) (nc := 0) (ns := 0) (c_Mod_endOf hE (dle hd (Nat.le_of_ble_eq_true rfl)) hv20) cv_Mod_281 (by decide +kernel) (ddd hd (Nat.le_of_ble_eq_true rfl)) rfl (Nat.le_of_ble_eq_true rfl) rfl rfl ?_
      refine X.i2l (pc := 58) (by decide +kernel) ?_
      have j0 := Option.some.inj h
      subst j0
      refine X.fgt (o' := [none, none, some (.int x5)]) ⟨rfl, trivial⟩ ?_
      exact hj15
    · refine X.if_eq_f (pc := 40) (off := 9) (tgt := 49) hq12 rfl (by decide +kernel) ?_
      refine X.ldc2 (pc := 43) (x := 239) (v := 3) ld_Mod_239 (by decide +kernel) ?_
      refine X.goto (pc := 46) (off := 13) (tgt := 59) (by decide +kernel) rfl ?_
      have j0 := Option.some.inj h
      subst j0
      refine X.fgt (o' := [none, none, some (.int x5)]) ⟨rfl, trivial⟩ ?_
      exact hj15
set_option maxRecDepth 100000 in
noncomputable def l_Mod_warned_70 (S : MS) (R : MR) (I : MI) (v0 : Nat) (v1 : Int32) (v2 : Int32) (v3 : Int32) (v4 : Int32) : Nat → Int32 → Int32 → Option Int32
  | 0, _, _ => none
  | f + 1, v5, v6 =>
    ifb (4 ≤ v6)
      (some v5)
      (bnd1 (ifb (v5 = 0)
          (bnd1 (R v0 25) fun b32 =>
          lt ((4 * v3) + v6) fun (x33 : Int32) =>
          asrt ((S b32).1 = 20) <|
          asrt (vp_in x33 (S b32).2) <|
          ifb (1000000 ≤ (I b32 (Int32.toNatClampNeg x33)))
            (some 0)
            (some 1))
          (some 1)) fun (y29 : Int32) =>
      l_Mod_warned_70 S R I v0 v1 v2 v3 v4 f y29 (v6 + 1))
set_option maxRecDepth 100000 in
set_option maxHeartbeats 4000000 in
theorem xl_Mod_warned_70 {E : Env} (hE : OKE E) {tg : Bool} {d : Nat} (hd : 4 ≤ d) {S : MS} {I : MI} {L : ML} {R : MR} {n : Nat} {v0 : Nat} {v1 : Int32} {v2 : Int32} {v3 : Int32} {v4 : Int32} {K : KT} :
    ∀ {f : Nat}  {v5 : Int32} {v6 : Int32} {o5 : Int32}, (S v0).1 = 12 → l_Mod_warned_70 S R I v0 v1 v2 v3 v4 f v5 v6 = some o5 → X E y_Mod_warned b_Mod_warned 7 (some .int) tg d 0 0 111 [some (.ref (e_b E + v0)), some (.int v1), some (.int v2), some (.int v3), some (.int v4), some (.int o5), none] [] S I L R n K → X E y_Mod_warned b_Mod_warned 7 (some .int) tg d 0 0 70 [some (.ref (e_b E + v0)), some (.int v1), some (.int v2), some (.int v3), some (.int v4), some (.int v5), some (.int v6)] [] S I L R n K := by
  intro f
  induction f with
  | zero =>
    intro v5 v6 o5 hS h hk
    rw [l_Mod_warned_70] at h
    cases h
  | succ f ih =>
    intro v5 v6 o5 hS h hk
    rw [l_Mod_warned_70] at h
    refine X.iload_6 (pc := 70) (by decide +kernel) ?_
    refine X.iconst (pc := 72) (i := 4) (v := 4) ic_4 (by decide +kernel) ?_
    rcases ifb_some h with ⟨hq27, h⟩ | ⟨hq27, h⟩
    · refine X.icmp_ge_t (pc := 73) (off := 38) (tgt := 111) hq27 rfl (by decide +kernel) ?_
      have j0 := Option.some.inj h
      subst j0
      refine X.fgt (o' := [some (.ref (e_b E + v0)), some (.int v1), some (.int v2), some (.int v3), some (.int v4), some (.int v5), none]) ⟨rfl, ⟨rfl, ⟨rfl, ⟨rfl, ⟨rfl, ⟨rfl, trivial⟩⟩⟩⟩⟩⟩ ?_
      exact hk
    · refine X.icmp_ge_f (pc := 73) (off := 38) (tgt := 111) hq27 rfl (by decide +kernel) ?_
      refine X.iload_5 (pc := 76) (by decide +kernel) ?_
      obtain ⟨y29, hr30, h⟩ := bnd1_some h
      have hj31 : X E y_Mod_warned b_Mod_warned 7 (some .int) tg d 0 0 103 [some (.ref (e_b E + v0)), some (.int v1), some (.int v2), some (.int v3), some (.int v4), none, some (.int v6)] [.int y29] S I L R n K := by
        refine X.istore_5 (pc := 103) (by decide +kernel) (by decide) rfl ?_
        refine X.iinc_6 (pc := 105) (z := 1) (v := 1) ic_1 (by decide +kernel) (by decide) rfl ?_
        refine X.goto (pc := 108) (off := (-38)) (tgt := 70) (by decide +kernel) rfl ?_
        exact ih hS h hk
      have h := hr30
      rcases ifb_some h with ⟨hq28, h⟩ | ⟨hq28, h⟩
      · refine X.if_ne_f (pc := 78) (off := 20) (tgt := 98) hq28 rfl (by decide +kernel) ?_
        refine X.aload_0 (pc := 81) (by decide +kernel) ?_
        obtain ⟨b32, hb32, h⟩ := bnd1_some h
        refine X.getR (pc := 82) (k := 25) fw_Mod_74 (by decide +kernel) (fun _ => rfl) hS hb32 ?_
        refine X.iconst (pc := 85) (i := 4) (v := 4) ic_4 (by decide +kernel) ?_
        refine X.iload_3 (pc := 86) (by decide +kernel) ?_
        refine X.imul (pc := 87) (by decide +kernel) ?_
        refine X.iload_6 (pc := 88) (by decide +kernel) ?_
        refine X.iadd (pc := 90) (by decide +kernel) ?_
        refine X.nameI (fun x33 hx33 => ?_)
        have h := lt_at hx33 h
        obtain ⟨hc35, h⟩ := asrt_some h
        obtain ⟨hi34, h⟩ := asrt_some h
        refine X.iaload (pc := 91) (by decide +kernel) hc35 hi34 ?_
        refine X.ldcw (pc := 92) (x := 284) (v := 1000000) ld_Mod_284 (by decide +kernel) ?_
        rcases ifb_some h with ⟨hq36, h⟩ | ⟨hq36, h⟩
        · refine X.icmp_ge_t (pc := 95) (off := 7) (tgt := 102) hq36 rfl (by decide +kernel) ?_
          refine X.iconst (pc := 102) (i := 0) (v := 0) ic_0 (by decide +kernel) ?_
          have j0 := Option.some.inj h
          subst j0
          refine X.fgt (o' := [some (.ref (e_b E + v0)), some (.int v1), some (.int v2), some (.int v3), some (.int v4), none, some (.int v6)]) ⟨rfl, ⟨rfl, ⟨rfl, ⟨rfl, ⟨rfl, ⟨rfl, trivial⟩⟩⟩⟩⟩⟩ ?_
          exact hj31
        · refine X.icmp_ge_f (pc := 95) (off := 7) (tgt := 102) hq36 rfl (by decide +kernel) ?_
          refine X.iconst (pc := 98) (i := 1) (v := 1) ic_1 (by decide +kernel) ?_
          refine X.goto (pc := 99) (off := 4) (tgt := 103) (by decide +kernel) rfl ?_
          have j0 := Option.some.inj h
          subst j0
          refine X.fgt (o' := [some (.ref (e_b E + v0)), some (.int v1), some (.int v2), some (.int v3), some (.int v4), none, some (.int v6)]) ⟨rfl, ⟨rfl, ⟨rfl, ⟨rfl, ⟨rfl, ⟨rfl, trivial⟩⟩⟩⟩⟩⟩ ?_
          exact hj31
      · refine X.if_ne_t (pc := 78) (off := 20) (tgt := 98) hq28 rfl (by decide +kernel) ?_
        refine X.iconst (pc := 98) (i := 1) (v := 1) ic_1 (by decide +kernel) ?_
        refine X.goto (pc := 99) (off := 4) (tgt := 103) (by decide +kernel) rfl ?_
        have j0 := Option.some.inj h
        subst j0
        refine X.fgt (o' := [some (.ref (e_b E + v0)), some (.int v1), some (.int v2), some (.int v3), some (.int v4), none, some (.int v6)]) ⟨rfl, ⟨rfl, ⟨rfl, ⟨rfl, ⟨rfl, ⟨rfl, trivial⟩⟩⟩⟩⟩⟩ ?_
        exact hj31
set_option maxRecDepth 100000 in
noncomputable def l_Mod_warned_16 (g : Nat) (S : MS) (R : MR) (v0 : Nat) : Nat → MI → Int32 → Int32 → Int32 → Option (Int32 × Int32 × MI)
  | 0, _, _, _, _ => none
  | f + 1, I, v1, v2, v3 =>
    bnd1 (f_Mod_cells S I v0) fun x4 =>
    ifb (x4 ≤ v3)
      (some (v1, v2, I))
      (bnd1 (R v0 15) fun b7 =>
      asrt ((S b7).1 = 20) <|
      asrt (vp_in v3 (S b7).2) <|
      bnd3 (ifb (0 ≤ (I b7 (Int32.toNatClampNeg v3)))
          (bnd1 (R v0 5) fun b16 =>
          bnd2 (f_Mod_followed g S R I v0 v3) fun x17 I18 =>
          asrt ((S b16).1 = 20) <|
          asrt (vp_in x17 (S b16).2) <|
          bnd1 (ifb ((I18 b16 (Int32.toNatClampNeg x17)) = 1)
              (some 1)
              (ifb ((I18 v0 38) = 0)
                (some 0)
                (some 1))) fun (y23 : Int32) =>
          bnd1 (l_Mod_warned_70 S R I18 v0 v1 v2 v3 y23 g 0 0) fun x37 =>
          ifb (y23 = 0)
            (some (v1, v2, I18))
            (ifb (x37 = 0)
              (some (v1, v2, I18))
              (bnd1 (ifb (v2 = 0)
                  (some v3)
                  (some v1)) fun (y42 : Int32) =>
              some (y42, v2 + 1, I18))))
          (some (v1, v2, I))) fun (z11 : Int32) (z12 : Int32) (I13 : MI) =>
      l_Mod_warned_16 g S R v0 f I13 z11 z12 (v3 + 1))
set_option maxRecDepth 100000 in
set_option maxHeartbeats 4000000 in
theorem xl_Mod_warned_16 {E : Env} (hE : OKE E) {tg : Bool} {d : Nat} (hd : 4 ≤ d) {g : Nat} {S : MS} {L : ML} {R : MR} {n : Nat} {v0 : Nat} {K : KT} :
    ∀ {f : Nat} {I : MI} {v1 : Int32} {v2 : Int32} {v3 : Int32} {o1 : Int32} {o2 : Int32} {I' : MI}, (S v0).1 = 12 → l_Mod_warned_16 g S R v0 f I v1 v2 v3 = some (o1, o2, I') → X E y_Mod_warned b_Mod_warned 7 (some .int) tg d 0 0 140 [some (.ref (e_b E + v0)), some (.int o1), some (.int o2), none, none, none, none] [] S I' L R n K → X E y_Mod_warned b_Mod_warned 7 (some .int) tg d 0 0 16 [some (.ref (e_b E + v0)), some (.int v1), some (.int v2), some (.int v3), none, none, none] [] S I L R n K := by
  intro f
  induction f with
  | zero =>
    intro I v1 v2 v3 o1 o2 I' hS h hk
    rw [l_Mod_warned_16] at h
    cases h
  | succ f ih =>
    intro I v1 v2 v3 o1 o2 I' hS h hk
    rw [l_Mod_warned_16] at h
    refine X.iload_3 (pc := 16) (by decide +kernel) ?_
    refine X.aload_0 (pc := 17) (by decide +kernel) ?_
    obtain ⟨x4, hv5, h⟩ := bnd1_some h
    refine X.callVi (pc := 18) (nc := 0) (ns := 0) (c_Mod_cells hE (dle hd (Nat.le_of_ble_eq_true rfl)) hS hv5) cv_Mod_148 (by decide +kernel) hS ⟨by decide, rfl⟩ (ddd hd (Nat.le_of_ble_eq_true rfl)) rfl (Nat.le_of_ble_eq_true rfl) rfl rfl ?_
    rcases ifb_some h with ⟨hq6, h⟩ | ⟨hq6, h⟩
    · refine X.icmp_ge_t (pc := 21) (off := 119) (tgt := 140) hq6 rfl (by decide +kernel) ?_
      have j0 := Option.some.inj h
      obtain ⟨i0, j1⟩ := Prod.mk.inj j0
      obtain ⟨i1, j2⟩ := Prod.mk.inj j1
      subst i0
      subst i1
      subst j2
      refine X.fgt (o' := [some (.ref (e_b E + v0)), some (.int v1), some (.int v2), none, none, none, none]) ⟨rfl, ⟨rfl, ⟨rfl, trivial⟩⟩⟩ ?_
      exact hk
    · refine X.icmp_ge_f (pc := 21) (off := 119) (tgt := 140) hq6 rfl (by decide +kernel) ?_
      refine X.aload_0 (pc := 24) (by decide +kernel) ?_
      obtain ⟨b7, hb7, h⟩ := bnd1_some h
      refine X.getR (pc := 25) (k := 15) fw_Mod_56 (by decide +kernel) (fun _ => rfl) hS hb7 ?_
      refine X.iload_3 (pc := 28) (by decide +kernel) ?_
      obtain ⟨hc9, h⟩ := asrt_some h
      obtain ⟨hi8, h⟩ := asrt_some h
      refine X.iaload (pc := 29) (by decide +kernel) hc9 hi8 ?_
      obtain ⟨z11, z12, I13, hr14, h⟩ := bnd3_some h
      have hj15 : X E y_Mod_warned b_Mod_warned 7 (some .int) tg d 0 0 134 [some (.ref (e_b E + v0)), some (.int z11), some (.int z12), some (.int v3), none, none, none] [] S I13 L R n K := by
        refine X.iinc_3 (pc := 134) (z := 1) (v := 1) ic_1 (by decide +kernel) (by decide) rfl ?_
        refine X.goto (pc := 137) (off := (-121)) (tgt := 16) (by decide +kernel) rfl ?_
        exact ih hS h hk
      have h := hr14
      rcases ifb_some h with ⟨hq10, h⟩ | ⟨hq10, h⟩
      · refine X.if_ge_t (pc := 30) (off := 6) (tgt := 36) hq10 rfl (by decide +kernel) ?_
        refine X.aload_0 (pc := 36) (by decide +kernel) ?_
        obtain ⟨b16, hb16, h⟩ := bnd1_some h
        refine X.getR (pc := 37) (k := 5) fw_Mod_40 (by decide +kernel) (fun _ => rfl) hS hb16 ?_
        refine X.aload_0 (pc := 40) (by decide +kernel) ?_
        refine X.iload_3 (pc := 41) (by decide +kernel) ?_
        obtain ⟨x17, I18, hv19, h⟩ := bnd2_some h
        refine X.callVi (pc := 42) (nc := 0) (ns := 0) (c_Mod_followed hE (dle hd (Nat.le_of_ble_eq_true rfl)) hS hv19) cv_Mod_373 (by decide +kernel) hS ⟨by decide, rfl⟩ (ddd hd (Nat.le_of_ble_eq_true rfl)) rfl (Nat.le_of_ble_eq_true rfl) rfl rfl ?_
        obtain ⟨hc21, h⟩ := asrt_some h
        obtain ⟨hi20, h⟩ := asrt_some h
        refine X.iaload (pc := 45) (by decide +kernel) hc21 hi20 ?_
        refine X.iconst (pc := 46) (i := 1) (v := 1) ic_1 (by decide +kernel) ?_
        obtain ⟨y23, hr24, h⟩ := bnd1_some h
        have hj25 : X E y_Mod_warned b_Mod_warned 7 (some .int) tg d 0 0 62 [some (.ref (e_b E + v0)), some (.int v1), some (.int v2), some (.int v3), none, none, none] [.int y23] S I18 L R n K := by
          refine X.istore_4 (pc := 62) (by decide +kernel) (by decide) rfl ?_
          refine X.iconst (pc := 64) (i := 0) (v := 0) ic_0 (by decide +kernel) ?_
          refine X.istore_5 (pc := 65) (by decide +kernel) (by decide) rfl ?_
          refine X.iconst (pc := 67) (i := 0) (v := 0) ic_0 (by decide +kernel) ?_
          refine X.istore_6 (pc := 68) (by decide +kernel) (by decide) rfl ?_
          obtain ⟨x37, hv38, h⟩ := bnd1_some h
          refine xl_Mod_warned_70 hE hd hS hv38 ?_
          refine X.iload_4 (pc := 111) (by decide +kernel) ?_
          rcases ifb_some h with ⟨hq39, h⟩ | ⟨hq39, h⟩
          · refine X.if_eq_t (pc := 113) (off := 21) (tgt := 134) hq39 rfl (by decide +kernel) ?_
            have j0 := Option.some.inj h
            obtain ⟨i0, j1⟩ := Prod.mk.inj j0
            obtain ⟨i1, j2⟩ := Prod.mk.inj j1
            subst i0
            subst i1
            subst j2
            refine X.fgt (o' := [some (.ref (e_b E + v0)), some (.int v1), some (.int v2), some (.int v3), none, none, none]) ⟨rfl, ⟨rfl, ⟨rfl, ⟨rfl, trivial⟩⟩⟩⟩ ?_
            exact hj15
          · refine X.if_eq_f (pc := 113) (off := 21) (tgt := 134) hq39 rfl (by decide +kernel) ?_
            refine X.iload_5 (pc := 116) (by decide +kernel) ?_
            rcases ifb_some h with ⟨hq40, h⟩ | ⟨hq40, h⟩
            · refine X.if_eq_t (pc := 118) (off := 16) (tgt := 134) hq40 rfl (by decide +kernel) ?_
              have j0 := Option.some.inj h
              obtain ⟨i0, j1⟩ := Prod.mk.inj j0
              obtain ⟨i1, j2⟩ := Prod.mk.inj j1
              subst i0
              subst i1
              subst j2
              refine X.fgt (o' := [some (.ref (e_b E + v0)), some (.int v1), some (.int v2), some (.int v3), none, none, none]) ⟨rfl, ⟨rfl, ⟨rfl, ⟨rfl, trivial⟩⟩⟩⟩ ?_
              exact hj15
            · refine X.if_eq_f (pc := 118) (off := 16) (tgt := 134) hq40 rfl (by decide +kernel) ?_
              refine X.iload_2 (pc := 121) (by decide +kernel) ?_
              obtain ⟨y42, hr43, h⟩ := bnd1_some h
              have hj44 : X E y_Mod_warned b_Mod_warned 7 (some .int) tg d 0 0 130 [some (.ref (e_b E + v0)), none, some (.int v2), some (.int v3), none, none, none] [.int y42] S I18 L R n K := by
                refine X.istore_1 (pc := 130) (by decide +kernel) (by decide) rfl ?_
                refine X.iinc_2 (pc := 131) (z := 1) (v := 1) ic_1 (by decide +kernel) (by decide) rfl ?_
                have j0 := Option.some.inj h
                obtain ⟨i0, j1⟩ := Prod.mk.inj j0
                obtain ⟨i1, j2⟩ := Prod.mk.inj j1
                subst i0
                subst i1
                subst j2
                exact hj15
              have h := hr43
              rcases ifb_some h with ⟨hq41, h⟩ | ⟨hq41, h⟩
              · refine X.if_ne_f (pc := 122) (off := 7) (tgt := 129) hq41 rfl (by decide +kernel) ?_
                refine X.iload_3 (pc := 125) (by decide +kernel) ?_
                refine X.goto (pc := 126) (off := 4) (tgt := 130) (by decide +kernel) rfl ?_
                have j0 := Option.some.inj h
                subst j0
                refine X.fgt (o' := [some (.ref (e_b E + v0)), none, some (.int v2), some (.int v3), none, none, none]) ⟨rfl, ⟨rfl, ⟨rfl, trivial⟩⟩⟩ ?_
                exact hj44
              · refine X.if_ne_t (pc := 122) (off := 7) (tgt := 129) hq41 rfl (by decide +kernel) ?_
                refine X.iload_1 (pc := 129) (by decide +kernel) ?_
                have j0 := Option.some.inj h
                subst j0
                refine X.fgt (o' := [some (.ref (e_b E + v0)), none, some (.int v2), some (.int v3), none, none, none]) ⟨rfl, ⟨rfl, ⟨rfl, trivial⟩⟩⟩ ?_
                exact hj44
        have h := hr24
        rcases ifb_some h with ⟨hq22, h⟩ | ⟨hq22, h⟩
        · refine X.icmp_eq_t (pc := 47) (off := 10) (tgt := 57) hq22 rfl (by decide +kernel) ?_
          refine X.iconst (pc := 57) (i := 1) (v := 1) ic_1 (by decide +kernel) ?_
          refine X.goto (pc := 58) (off := 4) (tgt := 62) (by decide +kernel) rfl ?_
          have j0 := Option.some.inj h
          subst j0
          exact hj25
        · refine X.icmp_eq_f (pc := 47) (off := 10) (tgt := 57) hq22 rfl (by decide +kernel) ?_
          refine X.aload_0 (pc := 50) (by decide +kernel) ?_
          refine X.getI (pc := 51) (k := 38) fw_Mod_366 (by decide +kernel) (fun _ => rfl) hS ?_
          rcases ifb_some h with ⟨hq26, h⟩ | ⟨hq26, h⟩
          · refine X.if_eq_t (pc := 54) (off := 7) (tgt := 61) hq26 rfl (by decide +kernel) ?_
            refine X.iconst (pc := 61) (i := 0) (v := 0) ic_0 (by decide +kernel) ?_
            have j0 := Option.some.inj h
            subst j0
            exact hj25
          · refine X.if_eq_f (pc := 54) (off := 7) (tgt := 61) hq26 rfl (by decide +kernel) ?_
            refine X.iconst (pc := 57) (i := 1) (v := 1) ic_1 (by decide +kernel) ?_
            refine X.goto (pc := 58) (off := 4) (tgt := 62) (by decide +kernel) rfl ?_
            have j0 := Option.some.inj h
            subst j0
            exact hj25
      · refine X.if_ge_f (pc := 30) (off := 6) (tgt := 36) hq10 rfl (by decide +kernel) ?_
        refine X.goto (pc := 33) (off := 101) (tgt := 134) (by decide +kernel) rfl ?_
        have j0 := Option.some.inj h
        obtain ⟨i0, j1⟩ := Prod.mk.inj j0
        obtain ⟨i1, j2⟩ := Prod.mk.inj j1
        subst i0
        subst i1
        subst j2
        exact hj15
set_option maxRecDepth 100000 in
noncomputable def f_Mod_warned (g : Nat) (S : MS) (R : MR) (I : MI) (L : ML) (t : Nat) : Option (Int32 × MI × ML) :=
  lt (wI I t 0 0) fun (I1 : MI) =>
  bnd1 (f_Mod_measures g S R I1 t) fun I2 =>
  bnd3 (l_Mod_warned_16 g S R t g I2 (-2) 0 0) fun x45 x46 I47 =>
  ifb (x46 = 0)
    (some ((-2), I47, L))
    (lt (wI I47 t 1 0) fun (I50 : MI) =>
    bnd2 (f_Mod_enters S R I50 L t (Int32.toInt64 x46)) fun I51 L52 =>
    some (x45, I51, L52))
set_option maxRecDepth 100000 in
set_option maxHeartbeats 4000000 in
theorem c_Mod_warned {E : Env} (hE : OKE E) {tg : Bool} {d : Nat} (hd : 4 ≤ d) {g : Nat} {S : MS} {I : MI} {L : ML} {R : MR} {n : Nat} {t : Nat} {v : Int32} {I' : MI} {L' : ML} (hS : (S t).1 = 12) (h : f_Mod_warned g S R I L t = some (v, I', L')) : C E y_Mod_warned b_Mod_warned 7 (some .int) tg d 0 0 [.ref (e_b E + t)] S I L R n (Kq (some (.int v)) S I' L' R n) := by
  refine C.of (o := [some (.ref (e_b E + t)), none, none, none, none, none, none]) (by decide) rfl (Nat.le_of_ble_eq_true rfl) ?_
  rw [f_Mod_warned] at h
  refine X.aload_0 (pc := 0) (by decide +kernel) ?_
  refine X.iconst (pc := 1) (i := 0) (v := 0) ic_0 (by decide +kernel) ?_
  refine X.putI (pc := 2) (k := 0) fw_Mod_3 (by decide +kernel) rfl rfl hS ?_
  refine X.nameMI (fun I1 hI1 => ?_)
  have h := lt_at hI1 h
  refine X.aload_0 (pc := 5) (by decide +kernel) ?_
  obtain ⟨I2, hv3, h⟩ := bnd1_some h
  refine X.callVv (pc := 6) (nc := 0) (ns := 0) (c_Mod_measures hE (dle hd (Nat.le_of_ble_eq_true rfl)) hS hv3) cv_Mod_289 (by decide +kernel) hS ⟨by decide, rfl⟩ (ddd hd (Nat.le_of_ble_eq_true rfl)) rfl (Nat.le_of_ble_eq_true rfl) rfl rfl ?_
  refine X.bipush (pc := 9) (i := (-2)) (v := (-2)) bp_m2 (by decide +kernel) ?_
  refine X.istore_1 (pc := 11) (by decide +kernel) (by decide) rfl ?_
  refine X.iconst (pc := 12) (i := 0) (v := 0) ic_0 (by decide +kernel) ?_
  refine X.istore_2 (pc := 13) (by decide +kernel) (by decide) rfl ?_
  refine X.iconst (pc := 14) (i := 0) (v := 0) ic_0 (by decide +kernel) ?_
  refine X.istore_3 (pc := 15) (by decide +kernel) (by decide) rfl ?_
  obtain ⟨x45, x46, I47, hv48, h⟩ := bnd3_some h
  refine xl_Mod_warned_16 hE hd hS hv48 ?_
  refine X.iload_2 (pc := 140) (by decide +kernel) ?_
  rcases ifb_some h with ⟨hq49, h⟩ | ⟨hq49, h⟩
  · refine X.if_ne_f (pc := 141) (off := 6) (tgt := 147) hq49 rfl (by decide +kernel) ?_
    refine X.bipush (pc := 144) (i := (-2)) (v := (-2)) bp_m2 (by decide +kernel) ?_
    have j0 := Option.some.inj h
    obtain ⟨i0, j1⟩ := Prod.mk.inj j0
    obtain ⟨i1, j2⟩ := Prod.mk.inj j1
    subst i0
    subst i1
    subst j2
    exact X.ireturn (pc := 146) (by decide +kernel) ⟨_, rfl, rfl⟩ ⟨rfl, rfl, rfl, rfl, rfl, rfl⟩
  · refine X.if_ne_t (pc := 141) (off := 6) (tgt := 147) hq49 rfl (by decide +kernel) ?_
    refine X.aload_0 (pc := 147) (by decide +kernel) ?_
    refine X.iconst (pc := 148) (i := 0) (v := 0) ic_0 (by decide +kernel) ?_
    refine X.putI (pc := 149) (k := 1) fw_Mod_21 (by decide +kernel) rfl rfl hS ?_
    refine X.nameMI (fun I50 hI50 => ?_)
    have h := lt_at hI50 h
    refine X.aload_0 (pc := 152) (by decide +kernel) ?_
    refine X.iload_2 (pc := 153) (by decide +kernel) ?_
    refine X.i2l (pc := 154) (by decide +kernel) ?_
    obtain ⟨I51, L52, hv53, h⟩ := bnd2_some h
    refine X.callVv (pc := 155) (nc := 0) (ns := 0) (c_Mod_enters hE (dle hd (Nat.le_of_ble_eq_true rfl)) hS hv53) cv_Mod_24 (by decide +kernel) hS ⟨by decide, rfl⟩ (ddd hd (Nat.le_of_ble_eq_true rfl)) rfl (Nat.le_of_ble_eq_true rfl) rfl rfl ?_
    refine X.iload_1 (pc := 158) (by decide +kernel) ?_
    have j0 := Option.some.inj h
    obtain ⟨i0, j1⟩ := Prod.mk.inj j0
    obtain ⟨i1, j2⟩ := Prod.mk.inj j1
    subst i0
    subst i1
    subst j2
    exact X.ireturn (pc := 159) (by decide +kernel) ⟨_, rfl, rfl⟩ ⟨rfl, rfl, rfl, rfl, rfl, rfl⟩
set_option maxRecDepth 100000 in
noncomputable def f_Mod_boundOf (p1 : Int32) (p2 : Int32) : Option Int32 :=
  bnd1 (ifb (p2 = 1)
      (bnd1 (f_JInt_bitCount p1) fun x5 =>
      some x5)
      (bnd1 (f_JInt_bitCount ((p1 ||| (ius p1 1)) &&& 1431655765)) fun x7 =>
      some x7)) fun (y2 : Int32) =>
  some y2
set_option maxRecDepth 100000 in
set_option maxHeartbeats 4000000 in
theorem c_Mod_boundOf {E : Env} (hE : OKE E) {tg : Bool} {d : Nat} (hd : 1 ≤ d) {S : MS} {I : MI} {L : ML} {R : MR} {n : Nat} {p1 : Int32} {p2 : Int32} {v : Int32} (h : f_Mod_boundOf p1 p2 = some v) : C E y_Mod_boundOf b_Mod_boundOf 2 (some .int) tg d 0 0 [.int p1, .int p2] S I L R n (Kq (some (.int v)) S I L R n) := by
  refine C.of (o := [some (.int p1), some (.int p2)]) (by decide) rfl (Nat.le_of_ble_eq_true rfl) ?_
  rw [f_Mod_boundOf] at h
  refine X.iload_1 (pc := 0) (by decide +kernel) ?_
  refine X.iconst (pc := 1) (i := 1) (v := 1) ic_1 (by decide +kernel) ?_
  obtain ⟨y2, hr3, h⟩ := bnd1_some h
  have hj4 : X E y_Mod_boundOf b_Mod_boundOf 2 (some .int) tg d 0 0 24 [none, none] [.int y2] S I L R n (Kq (some (.int v)) S I L R n) := by
    have j0 := Option.some.inj h
    subst j0
    exact X.ireturn (pc := 24) (by decide +kernel) ⟨_, rfl, rfl⟩ ⟨rfl, rfl, rfl, rfl, rfl, rfl⟩
  have h := hr3
  rcases ifb_some h with ⟨hq1, h⟩ | ⟨hq1, h⟩
  · refine X.icmp_ne_f (pc := 2) (off := 10) (tgt := 12) hq1 rfl (by decide +kernel) ?_
    refine X.iload_0 (pc := 5) (by decide +kernel) ?_
    obtain ⟨x5, hv6, h⟩ := bnd1_some h
    refine X.callSi (pc := 6) (nc := 0) (ns := 0) (c_JInt_bitCount hE (dle hd (Nat.le_of_ble_eq_true rfl)) hv6) cv_Mod_376 (by decide +kernel) (ddd hd (Nat.le_of_ble_eq_true rfl)) rfl (Nat.le_of_ble_eq_true rfl) rfl rfl ?_
    refine X.goto (pc := 9) (off := 15) (tgt := 24) (by decide +kernel) rfl ?_
    have j0 := Option.some.inj h
    subst j0
    refine X.fgt (o' := [none, none]) trivial ?_
    exact hj4
  · refine X.icmp_ne_t (pc := 2) (off := 10) (tgt := 12) hq1 rfl (by decide +kernel) ?_
    refine X.iload_0 (pc := 12) (by decide +kernel) ?_
    refine X.iload_0 (pc := 13) (by decide +kernel) ?_
    refine X.iconst (pc := 14) (i := 1) (v := 1) ic_1 (by decide +kernel) ?_
    refine X.iushr (pc := 15) (by decide +kernel) ?_
    refine X.ior (pc := 16) (by decide +kernel) ?_
    refine X.ldcw (pc := 17) (x := 381) (v := 1431655765) ld_Mod_381 (by decide +kernel) ?_
    refine X.iand (pc := 20) (by decide +kernel) ?_
    obtain ⟨x7, hv8, h⟩ := bnd1_some h
    refine X.callSi (pc := 21) (nc := 0) (ns := 0) (c_JInt_bitCount hE (dle hd (Nat.le_of_ble_eq_true rfl)) hv8) cv_Mod_376 (by decide +kernel) (ddd hd (Nat.le_of_ble_eq_true rfl)) rfl (Nat.le_of_ble_eq_true rfl) rfl rfl ?_
    have j0 := Option.some.inj h
    subst j0
    refine X.fgt (o' := [none, none]) trivial ?_
    exact hj4
set_option maxRecDepth 100000 in
noncomputable def f_JInt_numberOfTrailingZeros (p1 : Int32) : Option Int32 :=
  lt ((p1 ^^^ (-1)) &&& (p1 - 1)) fun (x1 : Int32) =>
  ifb (0 < x1)
    (bnd2 (ifb (x1 ≤ 65536)
        (some (x1, 1))
        (lt (ius x1 16) fun (x8 : Int32) =>
        some (x8, 1 + 16))) fun (z4 : Int32) (z5 : Int32) =>
    bnd2 (ifb (z4 ≤ 256)
        (some (z4, z5))
        (lt (ius z4 8) fun (x14 : Int32) =>
        some (x14, z5 + 8))) fun (z10 : Int32) (z11 : Int32) =>
    bnd2 (ifb (z10 ≤ 16)
        (some (z10, z11))
        (lt (ius z10 4) fun (x20 : Int32) =>
        some (x20, z11 + 4))) fun (z16 : Int32) (z17 : Int32) =>
    bnd2 (ifb (z16 ≤ 4)
        (some (z16, z17))
        (lt (ius z16 2) fun (x26 : Int32) =>
        some (x26, z17 + 2))) fun (z22 : Int32) (z23 : Int32) =>
    lt (z23 + (ius z22 1)) fun (x27 : Int32) =>
    some x27)
    (lt (x1 &&& 32) fun (x28 : Int32) =>
    some x28)
set_option maxRecDepth 100000 in
set_option maxHeartbeats 4000000 in
theorem c_JInt_numberOfTrailingZeros {E : Env} (hE : OKE E) {tg : Bool} {d : Nat} (hd : 0 ≤ d) {S : MS} {I : MI} {L : ML} {R : MR} {n : Nat} {p1 : Int32} {v : Int32} (h : f_JInt_numberOfTrailingZeros p1 = some v) : C E y_JInt_numberOfTrailingZeros b_JInt_numberOfTrailingZeros 2 (some .int) tg d 0 0 [.int p1] S I L R n (Kq (some (.int v)) S I L R n) := by
  refine C.of (o := [some (.int p1), none]) (by decide) rfl (Nat.le_of_ble_eq_true rfl) ?_
  rw [f_JInt_numberOfTrailingZeros] at h
  refine X.iload_0 (pc := 0) (by decide +kernel) ?_
  refine X.iconst (pc := 1) (i := (-1)) (v := (-1)) ic_m1 (by decide +kernel) ?_
  refine X.ixor (pc := 2) (by decide +kernel) ?_
  refine X.iload_0 (pc := 3) (by decide +kernel) ?_
  refine X.iconst (pc := 4) (i := 1) (v := 1) ic_1 (by decide +kernel) ?_
  refine X.isub (pc := 5) (by decide +kernel) ?_
  refine X.iand (pc := 6) (by decide +kernel) ?_
  refine X.nameI (fun x1 hx1 => ?_)
  have h := lt_at hx1 h
  refine X.istore_0 (pc := 7) (by decide +kernel) (by decide) ?_
  refine X.iload_0 (pc := 8) (by decide +kernel) ?_
  rcases ifb_some h with ⟨hq2, h⟩ | ⟨hq2, h⟩
  · refine X.if_gt_t (pc := 9) (off := 8) (tgt := 17) hq2 rfl (by decide +kernel) ?_
    refine X.iconst (pc := 17) (i := 1) (v := 1) ic_1 (by decide +kernel) ?_
    refine X.istore_1 (pc := 18) (by decide +kernel) (by decide) rfl ?_
    refine X.iload_0 (pc := 19) (by decide +kernel) ?_
    refine X.ldcw (pc := 20) (x := 264) (v := 65536) ld_JInt_264 (by decide +kernel) ?_
    obtain ⟨z4, z5, hr6, h⟩ := bnd2_some h
    have hj7 : X E y_JInt_numberOfTrailingZeros b_JInt_numberOfTrailingZeros 2 (some .int) tg d 0 0 34 [some (.int z4), some (.int z5)] [] S I L R n (Kq (some (.int v)) S I L R n) := by
      refine X.iload_0 (pc := 34) (by decide +kernel) ?_
      refine X.sipush (pc := 35) (i := 256) (v := 256) sp_256 (by decide +kernel) ?_
      obtain ⟨z10, z11, hr12, h⟩ := bnd2_some h
      have hj13 : X E y_JInt_numberOfTrailingZeros b_JInt_numberOfTrailingZeros 2 (some .int) tg d 0 0 49 [some (.int z10), some (.int z11)] [] S I L R n (Kq (some (.int v)) S I L R n) := by
        refine X.iload_0 (pc := 49) (by decide +kernel) ?_
        refine X.bipush (pc := 50) (i := 16) (v := 16) bp_16 (by decide +kernel) ?_
        obtain ⟨z16, z17, hr18, h⟩ := bnd2_some h
        have hj19 : X E y_JInt_numberOfTrailingZeros b_JInt_numberOfTrailingZeros 2 (some .int) tg d 0 0 62 [some (.int z16), some (.int z17)] [] S I L R n (Kq (some (.int v)) S I L R n) := by
          refine X.iload_0 (pc := 62) (by decide +kernel) ?_
          refine X.iconst (pc := 63) (i := 4) (v := 4) ic_4 (by decide +kernel) ?_
          obtain ⟨z22, z23, hr24, h⟩ := bnd2_some h
          have hj25 : X E y_JInt_numberOfTrailingZeros b_JInt_numberOfTrailingZeros 2 (some .int) tg d 0 0 74 [some (.int z22), some (.int z23)] [] S I L R n (Kq (some (.int v)) S I L R n) := by
            refine X.iload_1 (pc := 74) (by decide +kernel) ?_
            refine X.iload_0 (pc := 75) (by decide +kernel) ?_
            refine X.iconst (pc := 76) (i := 1) (v := 1) ic_1 (by decide +kernel) ?_
            refine X.iushr (pc := 77) (by decide +kernel) ?_
            refine X.iadd (pc := 78) (by decide +kernel) ?_
            refine X.nameI (fun x27 hx27 => ?_)
            have h := lt_at hx27 h
            have j0 := Option.some.inj h
            subst j0
            exact X.ireturn (pc := 79) (by decide +kernel) ⟨_, rfl, rfl⟩ ⟨rfl, rfl, rfl, rfl, rfl, rfl⟩
          have h := hr24
          rcases ifb_some h with ⟨hq21, h⟩ | ⟨hq21, h⟩
          · refine X.icmp_le_t (pc := 64) (off := 10) (tgt := 74) hq21 rfl (by decide +kernel) ?_
            have j0 := Option.some.inj h
            obtain ⟨i0, j1⟩ := Prod.mk.inj j0
            subst i0
            subst j1
            exact hj25
          · refine X.icmp_le_f (pc := 64) (off := 10) (tgt := 74) hq21 rfl (by decide +kernel) ?_
            refine X.iinc_1 (pc := 67) (z := 2) (v := 2) ic_2 (by decide +kernel) (by decide) rfl ?_
            refine X.iload_0 (pc := 70) (by decide +kernel) ?_
            refine X.iconst (pc := 71) (i := 2) (v := 2) ic_2 (by decide +kernel) ?_
            refine X.iushr (pc := 72) (by decide +kernel) ?_
            refine X.nameI (fun x26 hx26 => ?_)
            have h := lt_at hx26 h
            refine X.istore_0 (pc := 73) (by decide +kernel) (by decide) ?_
            have j0 := Option.some.inj h
            obtain ⟨i0, j1⟩ := Prod.mk.inj j0
            subst i0
            subst j1
            exact hj25
        have h := hr18
        rcases ifb_some h with ⟨hq15, h⟩ | ⟨hq15, h⟩
        · refine X.icmp_le_t (pc := 52) (off := 10) (tgt := 62) hq15 rfl (by decide +kernel) ?_
          have j0 := Option.some.inj h
          obtain ⟨i0, j1⟩ := Prod.mk.inj j0
          subst i0
          subst j1
          exact hj19
        · refine X.icmp_le_f (pc := 52) (off := 10) (tgt := 62) hq15 rfl (by decide +kernel) ?_
          refine X.iinc_1 (pc := 55) (z := 4) (v := 4) ic_4 (by decide +kernel) (by decide) rfl ?_
          refine X.iload_0 (pc := 58) (by decide +kernel) ?_
          refine X.iconst (pc := 59) (i := 4) (v := 4) ic_4 (by decide +kernel) ?_
          refine X.iushr (pc := 60) (by decide +kernel) ?_
          refine X.nameI (fun x20 hx20 => ?_)
          have h := lt_at hx20 h
          refine X.istore_0 (pc := 61) (by decide +kernel) (by decide) ?_
          have j0 := Option.some.inj h
          obtain ⟨i0, j1⟩ := Prod.mk.inj j0
          subst i0
          subst j1
          exact hj19
      have h := hr12
      rcases ifb_some h with ⟨hq9, h⟩ | ⟨hq9, h⟩
      · refine X.icmp_le_t (pc := 38) (off := 11) (tgt := 49) hq9 rfl (by decide +kernel) ?_
        have j0 := Option.some.inj h
        obtain ⟨i0, j1⟩ := Prod.mk.inj j0
        subst i0
        subst j1
        exact hj13
      · refine X.icmp_le_f (pc := 38) (off := 11) (tgt := 49) hq9 rfl (by decide +kernel) ?_
        refine X.iinc_1 (pc := 41) (z := 8) (v := 8) ic_8 (by decide +kernel) (by decide) rfl ?_
        refine X.iload_0 (pc := 44) (by decide +kernel) ?_
        refine X.bipush (pc := 45) (i := 8) (v := 8) bp_8 (by decide +kernel) ?_
        refine X.iushr (pc := 47) (by decide +kernel) ?_
        refine X.nameI (fun x14 hx14 => ?_)
        have h := lt_at hx14 h
        refine X.istore_0 (pc := 48) (by decide +kernel) (by decide) ?_
        have j0 := Option.some.inj h
        obtain ⟨i0, j1⟩ := Prod.mk.inj j0
        subst i0
        subst j1
        exact hj13
    have h := hr6
    rcases ifb_some h with ⟨hq3, h⟩ | ⟨hq3, h⟩
    · refine X.icmp_le_t (pc := 23) (off := 11) (tgt := 34) hq3 rfl (by decide +kernel) ?_
      have j0 := Option.some.inj h
      obtain ⟨i0, j1⟩ := Prod.mk.inj j0
      subst i0
      subst j1
      exact hj7
    · refine X.icmp_le_f (pc := 23) (off := 11) (tgt := 34) hq3 rfl (by decide +kernel) ?_
      refine X.iinc_1 (pc := 26) (z := 16) (v := 16) ic_16 (by decide +kernel) (by decide) rfl ?_
      refine X.iload_0 (pc := 29) (by decide +kernel) ?_
      refine X.bipush (pc := 30) (i := 16) (v := 16) bp_16 (by decide +kernel) ?_
      refine X.iushr (pc := 32) (by decide +kernel) ?_
      refine X.nameI (fun x8 hx8 => ?_)
      have h := lt_at hx8 h
      refine X.istore_0 (pc := 33) (by decide +kernel) (by decide) ?_
      have j0 := Option.some.inj h
      obtain ⟨i0, j1⟩ := Prod.mk.inj j0
      subst i0
      subst j1
      exact hj7
  · refine X.if_gt_f (pc := 9) (off := 8) (tgt := 17) hq2 rfl (by decide +kernel) ?_
    refine X.iload_0 (pc := 12) (by decide +kernel) ?_
    refine X.bipush (pc := 13) (i := 32) (v := 32) bp_32 (by decide +kernel) ?_
    refine X.iand (pc := 15) (by decide +kernel) ?_
    refine X.nameI (fun x28 hx28 => ?_)
    have h := lt_at hx28 h
    have j0 := Option.some.inj h
    subst j0
    exact X.ireturn (pc := 16) (by decide +kernel) ⟨_, rfl, rfl⟩ ⟨rfl, rfl, rfl, rfl, rfl, rfl⟩
set_option maxRecDepth 100000 in
noncomputable def f_Mod_has (p1 : Int32) (p2 : Int32) : Option Int32 :=
  bnd1 (ifb (((isr p1 p2) &&& 1) = 1)
      (some 1)
      (some 0)) fun (y2 : Int32) =>
  asrt (y2 = 0 ∨ y2 = 1) <|
  some y2
set_option maxRecDepth 100000 in
set_option maxHeartbeats 4000000 in
theorem c_Mod_has {E : Env} (hE : OKE E) {tg : Bool} {d : Nat} (hd : 0 ≤ d) {S : MS} {I : MI} {L : ML} {R : MR} {n : Nat} {p1 : Int32} {p2 : Int32} {v : Int32} (h : f_Mod_has p1 p2 = some v) : C E y_Mod_has b_Mod_has 2 (some .boolean) tg d 0 0 [.int p1, .int p2] S I L R n (Kq (some (.int v)) S I L R n) := by
  refine C.of (o := [some (.int p1), some (.int p2)]) (by decide) rfl (Nat.le_of_ble_eq_true rfl) ?_
  rw [f_Mod_has] at h
  refine X.iload_0 (pc := 0) (by decide +kernel) ?_
  refine X.iload_1 (pc := 1) (by decide +kernel) ?_
  refine X.ishr (pc := 2) (by decide +kernel) ?_
  refine X.iconst (pc := 3) (i := 1) (v := 1) ic_1 (by decide +kernel) ?_
  refine X.iand (pc := 4) (by decide +kernel) ?_
  refine X.iconst (pc := 5) (i := 1) (v := 1) ic_1 (by decide +kernel) ?_
  obtain ⟨y2, hr3, h⟩ := bnd1_some h
  have hj4 : X E y_Mod_has b_Mod_has 2 (some .boolean) tg d 0 0 14 [none, none] [.int y2] S I L R n (Kq (some (.int v)) S I L R n) := by
    obtain ⟨hb5, h⟩ := asrt_some h
    have j0 := Option.some.inj h
    subst j0
    exact X.ireturn (pc := 14) (by decide +kernel) ⟨_, rfl, nz01 hb5⟩ ⟨rfl, rfl, rfl, rfl, rfl, rfl⟩
  have h := hr3
  rcases ifb_some h with ⟨hq1, h⟩ | ⟨hq1, h⟩
  · refine X.icmp_ne_f (pc := 6) (off := 7) (tgt := 13) hq1 rfl (by decide +kernel) ?_
    refine X.iconst (pc := 9) (i := 1) (v := 1) ic_1 (by decide +kernel) ?_
    refine X.goto (pc := 10) (off := 4) (tgt := 14) (by decide +kernel) rfl ?_
    have j0 := Option.some.inj h
    subst j0
    refine X.fgt (o' := [none, none]) trivial ?_
    exact hj4
  · refine X.icmp_ne_t (pc := 6) (off := 7) (tgt := 13) hq1 rfl (by decide +kernel) ?_
    refine X.iconst (pc := 13) (i := 0) (v := 0) ic_0 (by decide +kernel) ?_
    have j0 := Option.some.inj h
    subst j0
    refine X.fgt (o' := [none, none]) trivial ?_
    exact hj4
set_option maxRecDepth 100000 in
noncomputable def l_Mod_chooses_16 (S : MS) (R : MR) (v0 : Nat) (v1 : Int32) (v2 : Int32) (v3 : Int32) : Nat → MI → Int32 → Option MI
  | 0, _, _ => none
  | f + 1, I, v4 =>
    ifb (v2 ≤ v4)
      (some I)
      (bnd1 (R v0 40) fun b7 =>
      bnd1 (R v0 39) fun b8 =>
      asrt ((S b8).1 = 20) <|
      asrt (vp_in v4 (S b8).2) <|
      lt (I b8 (Int32.toNatClampNeg v4)) fun (x11 : Int32) =>
      asrt ((S b7).1 = 20) <|
      asrt (vp_in v4 (S b7).2) <|
      lt (wI I b7 (Int32.toNatClampNeg v4) x11) fun (I14 : MI) =>
      l_Mod_chooses_16 S R v0 v1 v2 v3 f I14 (v4 + 1))
set_option maxRecDepth 100000 in
set_option maxHeartbeats 4000000 in
theorem xl_Mod_chooses_16 {E : Env} (hE : OKE E) {tg : Bool} {d : Nat} {rd : Nat} (hd : rd + 2 ≤ d) {S : MS} {L : ML} {R : MR} {n : Nat} {v0 : Nat} {v1 : Int32} {v2 : Int32} {v3 : Int32} {K : KT} :
    ∀ {f : Nat} {I : MI} {v4 : Int32} {I' : MI}, (S v0).1 = 12 → l_Mod_chooses_16 S R v0 v1 v2 v3 f I v4 = some I' → X E y_Mod_chooses b_Mod_chooses 8 none tg d 0 0 42 [some (.ref (e_b E + v0)), some (.int v1), some (.int v2), some (.int v3), none, none, none, none] [] S I' L R n K → X E y_Mod_chooses b_Mod_chooses 8 none tg d 0 0 16 [some (.ref (e_b E + v0)), some (.int v1), some (.int v2), some (.int v3), some (.int v4), none, none, none] [] S I L R n K := by
  intro f
  induction f with
  | zero =>
    intro I v4 I' hS h hk
    rw [l_Mod_chooses_16] at h
    cases h
  | succ f ih =>
    intro I v4 I' hS h hk
    rw [l_Mod_chooses_16] at h
    refine X.iload_4 (pc := 16) (by decide +kernel) ?_
    refine X.iload_2 (pc := 18) (by decide +kernel) ?_
    rcases ifb_some h with ⟨hq6, h⟩ | ⟨hq6, h⟩
    · refine X.icmp_ge_t (pc := 19) (off := 23) (tgt := 42) hq6 rfl (by decide +kernel) ?_
      have j0 := Option.some.inj h
      subst j0
      refine X.fgt (o' := [some (.ref (e_b E + v0)), some (.int v1), some (.int v2), some (.int v3), none, none, none, none]) ⟨rfl, ⟨rfl, ⟨rfl, ⟨rfl, trivial⟩⟩⟩⟩ ?_
      exact hk
    · refine X.icmp_ge_f (pc := 19) (off := 23) (tgt := 42) hq6 rfl (by decide +kernel) ?_
      refine X.aload_0 (pc := 22) (by decide +kernel) ?_
      obtain ⟨b7, hb7, h⟩ := bnd1_some h
      refine X.getR (pc := 23) (k := 40) fw_Mod_114 (by decide +kernel) (fun _ => rfl) hS hb7 ?_
      refine X.iload_4 (pc := 26) (by decide +kernel) ?_
      refine X.aload_0 (pc := 28) (by decide +kernel) ?_
      obtain ⟨b8, hb8, h⟩ := bnd1_some h
      refine X.getR (pc := 29) (k := 39) fw_Mod_111 (by decide +kernel) (fun _ => rfl) hS hb8 ?_
      refine X.iload_4 (pc := 32) (by decide +kernel) ?_
      obtain ⟨hc10, h⟩ := asrt_some h
      obtain ⟨hi9, h⟩ := asrt_some h
      refine X.iaload (pc := 34) (by decide +kernel) hc10 hi9 ?_
      refine X.nameI (fun x11 hx11 => ?_)
      have h := lt_at hx11 h
      obtain ⟨hc12, h⟩ := asrt_some h
      obtain ⟨hi13, h⟩ := asrt_some h
      refine X.iastore (pc := 35) (by decide +kernel) hc12 hi13 ?_
      refine X.nameMI (fun I14 hI14 => ?_)
      have h := lt_at hI14 h
      refine X.iinc_4 (pc := 36) (z := 1) (v := 1) ic_1 (by decide +kernel) (by decide) rfl ?_
      refine X.goto (pc := 39) (off := (-23)) (tgt := 16) (by decide +kernel) rfl ?_
      exact ih hS h hk
set_option maxRecDepth 100000 in
noncomputable def l_Mod_chooses_86 (v0 : Nat) (v2 : Int32) (v3 : Int32) (v4 : Int32) (v5 : Int32) : Nat → Int32 → Int32 → Option Int32
  | 0, _, _ => none
  | f + 1, v6, v7 =>
    ifb (32 ≤ v7)
      (some v6)
      (bnd1 (f_Mod_has v5 v7) fun x26 =>
      bnd1 (ifb (x26 = 0)
          (some 0)
          (bnd1 (f_JInt_bitCount (v7 ^^^ v4)) fun x32 =>
          ifb (x32 < v3)
            (some 0)
            (some (isl 1 v7)))) fun (y29 : Int32) =>
      lt (v6 ||| y29) fun (x35 : Int32) =>
      l_Mod_chooses_86 v0 v2 v3 v4 v5 f x35 (v7 + 1))
set_option maxRecDepth 100000 in
set_option maxHeartbeats 4000000 in
theorem xl_Mod_chooses_86 {E : Env} (hE : OKE E) {tg : Bool} {d : Nat} {rd : Nat} (hd : rd + 2 ≤ d) {S : MS} {I : MI} {L : ML} {R : MR} {n : Nat} {v0 : Nat} {v2 : Int32} {v3 : Int32} {v4 : Int32} {v5 : Int32} {K : KT} :
    ∀ {f : Nat}  {v6 : Int32} {v7 : Int32} {o6 : Int32}, (S v0).1 = 12 → l_Mod_chooses_86 v0 v2 v3 v4 v5 f v6 v7 = some o6 → X E y_Mod_chooses b_Mod_chooses 8 none tg d 0 0 134 [some (.ref (e_b E + v0)), none, some (.int v2), some (.int v3), some (.int v4), some (.int v5), some (.int o6), none] [] S I L R n K → X E y_Mod_chooses b_Mod_chooses 8 none tg d 0 0 86 [some (.ref (e_b E + v0)), none, some (.int v2), some (.int v3), some (.int v4), some (.int v5), some (.int v6), some (.int v7)] [] S I L R n K := by
  intro f
  induction f with
  | zero =>
    intro v6 v7 o6 hS h hk
    rw [l_Mod_chooses_86] at h
    cases h
  | succ f ih =>
    intro v6 v7 o6 hS h hk
    rw [l_Mod_chooses_86] at h
    refine X.iload_7 (pc := 86) (by decide +kernel) ?_
    refine X.bipush (pc := 88) (i := 32) (v := 32) bp_32 (by decide +kernel) ?_
    rcases ifb_some h with ⟨hq25, h⟩ | ⟨hq25, h⟩
    · refine X.icmp_ge_t (pc := 90) (off := 44) (tgt := 134) hq25 rfl (by decide +kernel) ?_
      have j0 := Option.some.inj h
      subst j0
      refine X.fgt (o' := [some (.ref (e_b E + v0)), none, some (.int v2), some (.int v3), some (.int v4), some (.int v5), some (.int v6), none]) ⟨rfl, ⟨rfl, ⟨rfl, ⟨rfl, ⟨rfl, ⟨rfl, trivial⟩⟩⟩⟩⟩⟩ ?_
      exact hk
    · refine X.icmp_ge_f (pc := 90) (off := 44) (tgt := 134) hq25 rfl (by decide +kernel) ?_
      refine X.iload_6 (pc := 93) (by decide +kernel) ?_
      refine X.iload_5 (pc := 95) (by decide +kernel) ?_
      refine X.iload_7 (pc := 97) (by decide +kernel) ?_
      obtain ⟨x26, hv27, h⟩ := bnd1_some h
      refine X.callSi (pc := 99) (nc := 0) (ns := 0) (c_Mod_has hE (dle hd (by omega)) hv27) cv_Mod_391 (by decide +kernel) (ddd hd (by omega)) rfl (Nat.le_of_ble_eq_true rfl) rfl rfl ?_
      obtain ⟨y29, hr30, h⟩ := bnd1_some h
      have hj31 : X E y_Mod_chooses b_Mod_chooses 8 none tg d 0 0 125 [some (.ref (e_b E + v0)), none, some (.int v2), some (.int v3), some (.int v4), some (.int v5), none, some (.int v7)] [.int y29, .int v6] S I L R n K := by
        refine X.ior (pc := 125) (by decide +kernel) ?_
        refine X.nameI (fun x35 hx35 => ?_)
        have h := lt_at hx35 h
        refine X.istore_6 (pc := 126) (by decide +kernel) (by decide) rfl ?_
        refine X.iinc_7 (pc := 128) (z := 1) (v := 1) ic_1 (by decide +kernel) (by decide) rfl ?_
        refine X.goto (pc := 131) (off := (-45)) (tgt := 86) (by decide +kernel) rfl ?_
        exact ih hS h hk
      have h := hr30
      rcases ifb_some h with ⟨hq28, h⟩ | ⟨hq28, h⟩
      · refine X.if_eq_t (pc := 102) (off := 22) (tgt := 124) hq28 rfl (by decide +kernel) ?_
        refine X.iconst (pc := 124) (i := 0) (v := 0) ic_0 (by decide +kernel) ?_
        have j0 := Option.some.inj h
        subst j0
        refine X.fgt (o' := [some (.ref (e_b E + v0)), none, some (.int v2), some (.int v3), some (.int v4), some (.int v5), none, some (.int v7)]) ⟨rfl, ⟨rfl, ⟨rfl, ⟨rfl, ⟨rfl, ⟨rfl, trivial⟩⟩⟩⟩⟩⟩ ?_
        exact hj31
      · refine X.if_eq_f (pc := 102) (off := 22) (tgt := 124) hq28 rfl (by decide +kernel) ?_
        refine X.iload_7 (pc := 105) (by decide +kernel) ?_
        refine X.iload_4 (pc := 107) (by decide +kernel) ?_
        refine X.ixor (pc := 109) (by decide +kernel) ?_
        obtain ⟨x32, hv33, h⟩ := bnd1_some h
        refine X.callSi (pc := 110) (nc := 0) (ns := 0) (c_JInt_bitCount hE (dle hd (by omega)) hv33) cv_Mod_376 (by decide +kernel) (ddd hd (by omega)) rfl (Nat.le_of_ble_eq_true rfl) rfl rfl ?_
        refine X.iload_3 (pc := 113) (by decide +kernel) ?_
        rcases ifb_some h with ⟨hq34, h⟩ | ⟨hq34, h⟩
        · refine X.icmp_lt_t (pc := 114) (off := 10) (tgt := 124) hq34 rfl (by decide +kernel) ?_
          refine X.iconst (pc := 124) (i := 0) (v := 0) ic_0 (by decide +kernel) ?_
          have j0 := Option.some.inj h
          subst j0
          refine X.fgt (o' := [some (.ref (e_b E + v0)), none, some (.int v2), some (.int v3), some (.int v4), some (.int v5), none, some (.int v7)]) ⟨rfl, ⟨rfl, ⟨rfl, ⟨rfl, ⟨rfl, ⟨rfl, trivial⟩⟩⟩⟩⟩⟩ ?_
          exact hj31
        · refine X.icmp_lt_f (pc := 114) (off := 10) (tgt := 124) hq34 rfl (by decide +kernel) ?_
          refine X.iconst (pc := 117) (i := 1) (v := 1) ic_1 (by decide +kernel) ?_
          refine X.iload_7 (pc := 118) (by decide +kernel) ?_
          refine X.ishl (pc := 120) (by decide +kernel) ?_
          refine X.goto (pc := 121) (off := 4) (tgt := 125) (by decide +kernel) rfl ?_
          have j0 := Option.some.inj h
          subst j0
          refine X.fgt (o' := [some (.ref (e_b E + v0)), none, some (.int v2), some (.int v3), some (.int v4), some (.int v5), none, some (.int v7)]) ⟨rfl, ⟨rfl, ⟨rfl, ⟨rfl, ⟨rfl, ⟨rfl, trivial⟩⟩⟩⟩⟩⟩ ?_
          exact hj31
set_option maxRecDepth 100000 in
noncomputable def f_Mod_chooses (g : Nat) : Nat → MS → MR → MI → Nat → Int32 → Int32 → Int32 → Option MI
  | 0, _, _, _, _, _, _, _ => none
  | rd + 1, S, R, I, t, p1, p2, p3 =>
    bnd1 (ifb (p2 ≤ (I t 41))
        (some I)
        (lt (wI I t 41 p2) fun (I5 : MI) =>
        bnd1 (l_Mod_chooses_16 S R t p1 p2 p3 g I5 0) fun I15 =>
        some I15)) fun (I2 : MI) =>
    ifb (p1 = 0)
      (some I2)
      (bnd1 (f_Mod_boundOf p1 p3) fun x18 =>
      ifb ((I2 t 41) < (p2 + x18))
        (bnd1 (f_JInt_numberOfTrailingZeros p1) fun x21 =>
        lt (p1 &&& ((isl 1 x21) ^^^ (-1))) fun (x23 : Int32) =>
        lt (x21 + 1) fun (x24 : Int32) =>
        bnd1 (l_Mod_chooses_86 t p2 p3 x21 x23 g 0 x24) fun x36 =>
        bnd1 (R t 39) fun b38 =>
        asrt ((S b38).1 = 20) <|
        asrt (vp_in p2 (S b38).2) <|
        lt (wI I2 b38 (Int32.toNatClampNeg p2) x21) fun (I41 : MI) =>
        bnd1 ((f_Mod_chooses g rd) S R I41 t x36 (p2 + 1) p3) fun I42 =>
        bnd1 ((f_Mod_chooses g rd) S R I42 t x23 p2 p3) fun I44 =>
        some I44)
        (some I2))
set_option maxRecDepth 100000 in
set_option maxHeartbeats 4000000 in
theorem c_Mod_chooses {E : Env} (hE : OKE E) {tg : Bool} : ∀ {rd : Nat} {d : Nat} (hd : rd + 2 ≤ d) {g : Nat} {S : MS} {I : MI} {L : ML} {R : MR} {n : Nat} {t : Nat} {p1 : Int32} {p2 : Int32} {p3 : Int32} {I' : MI} (hS : (S t).1 = 12), f_Mod_chooses g rd S R I t p1 p2 p3 = some I' → C E y_Mod_chooses b_Mod_chooses 8 none tg d 0 0 [.ref (e_b E + t), .int p1, .int p2, .int p3] S I L R n (Kq none S I' L R n) := by
  intro rd
  induction rd with
  | zero =>
    intro d hd g S I L R n t p1 p2 p3 I' hS h
    rw [f_Mod_chooses] at h
    cases h
  | succ rd ihr =>
    intro d hd g S I L R n t p1 p2 p3 I' hS h
    refine C.of (o := [some (.ref (e_b E + t)), some (.int p1), some (.int p2), some (.int p3), none, none, none, none]) (by decide) rfl (Nat.le_of_ble_eq_true rfl) ?_
    rw [f_Mod_chooses] at h
    have hself : ∀ (S : MS) (I : MI) (L : ML) (R : MR) (n : Nat) (t : Nat) (q0 : Int32) (q1 : Int32) (q2 : Int32) (I' : MI), f_Mod_chooses g rd S R I t q0 q1 q2 = some I' → (S t).1 = 12 → C E y_Mod_chooses b_Mod_chooses 8 none tg (d - 1) 0 0 [.ref (e_b E + t), .int q0, .int q1, .int q2] S I L R n (Kq none S I' L R n) := fun _ _ _ _ _ _ _ _ _ _ h1 h2 => ihr (by omega) h2 h1
    refine X.iload_2 (pc := 0) (by decide +kernel) ?_
    refine X.aload_0 (pc := 1) (by decide +kernel) ?_
    refine X.getI (pc := 2) (k := 41) fw_Mod_382 (by decide +kernel) (fun _ => rfl) hS ?_
    obtain ⟨I2, hr3, h⟩ := bnd1_some h
    have hj4 : X E y_Mod_chooses b_Mod_chooses 8 none tg d 0 0 42 [some (.ref (e_b E + t)), some (.int p1), some (.int p2), some (.int p3), none, none, none, none] [] S I2 L R n (Kq none S I' L R n) := by
      refine X.iload_1 (pc := 42) (by decide +kernel) ?_
      rcases ifb_some h with ⟨hq17, h⟩ | ⟨hq17, h⟩
      · refine X.if_eq_t (pc := 43) (off := 17) (tgt := 60) hq17 rfl (by decide +kernel) ?_
        have j0 := Option.some.inj h
        subst j0
        exact X.vreturn (pc := 60) (by decide +kernel) rfl ⟨rfl, rfl, rfl, rfl, rfl, rfl⟩
      · refine X.if_eq_f (pc := 43) (off := 17) (tgt := 60) hq17 rfl (by decide +kernel) ?_
        refine X.iload_2 (pc := 46) (by decide +kernel) ?_
        refine X.iload_1 (pc := 47) (by decide +kernel) ?_
        refine X.iload_3 (pc := 48) (by decide +kernel) ?_
        obtain ⟨x18, hv19, h⟩ := bnd1_some h
        refine X.callSi (pc := 49) (nc := 0) (ns := 0) (c_Mod_boundOf hE (dle hd (by omega)) hv19) cv_Mod_385 (by decide +kernel) (ddd hd (by omega)) rfl (Nat.le_of_ble_eq_true rfl) rfl rfl ?_
        refine X.iadd (pc := 52) (by decide +kernel) ?_
        refine X.aload_0 (pc := 53) (by decide +kernel) ?_
        refine X.getI (pc := 54) (k := 41) fw_Mod_382 (by decide +kernel) (fun _ => rfl) hS ?_
        rcases ifb_some h with ⟨hq20, h⟩ | ⟨hq20, h⟩
        · refine X.icmp_gt_t (pc := 57) (off := 4) (tgt := 61) hq20 rfl (by decide +kernel) ?_
          refine X.iload_1 (pc := 61) (by decide +kernel) ?_
          obtain ⟨x21, hv22, h⟩ := bnd1_some h
          refine X.callSi (pc := 62) (nc := 0) (ns := 0) (c_JInt_numberOfTrailingZeros hE (dle hd (by omega)) hv22) cv_Mod_388 (by decide +kernel) (ddd hd (by omega)) rfl (Nat.le_of_ble_eq_true rfl) rfl rfl ?_
          refine X.istore_4 (pc := 65) (by decide +kernel) (by decide) rfl ?_
          refine X.iload_1 (pc := 67) (by decide +kernel) ?_
          refine X.iconst (pc := 68) (i := 1) (v := 1) ic_1 (by decide +kernel) ?_
          refine X.iload_4 (pc := 69) (by decide +kernel) ?_
          refine X.ishl (pc := 71) (by decide +kernel) ?_
          refine X.iconst (pc := 72) (i := (-1)) (v := (-1)) ic_m1 (by decide +kernel) ?_
          refine X.ixor (pc := 73) (by decide +kernel) ?_
          refine X.iand (pc := 74) (by decide +kernel) ?_
          refine X.nameI (fun x23 hx23 => ?_)
          have h := lt_at hx23 h
          refine X.istore_5 (pc := 75) (by decide +kernel) (by decide) rfl ?_
          refine X.iconst (pc := 77) (i := 0) (v := 0) ic_0 (by decide +kernel) ?_
          refine X.istore_6 (pc := 78) (by decide +kernel) (by decide) rfl ?_
          refine X.iload_4 (pc := 80) (by decide +kernel) ?_
          refine X.iconst (pc := 82) (i := 1) (v := 1) ic_1 (by decide +kernel) ?_
          refine X.iadd (pc := 83) (by decide +kernel) ?_
          refine X.nameI (fun x24 hx24 => ?_)
          have h := lt_at hx24 h
          refine X.istore_7 (pc := 84) (by decide +kernel) (by decide) rfl ?_
          obtain ⟨x36, hv37, h⟩ := bnd1_some h
          refine X.fgt (o' := [some (.ref (e_b E + t)), none, some (.int p2), some (.int p3), some (.int x21), some (.int x23), some (.int 0), some (.int x24)]) ⟨rfl, ⟨rfl, ⟨rfl, ⟨rfl, ⟨rfl, ⟨rfl, ⟨rfl, trivial⟩⟩⟩⟩⟩⟩⟩ ?_
          refine xl_Mod_chooses_86 hE hd hS hv37 ?_
          refine X.aload_0 (pc := 134) (by decide +kernel) ?_
          obtain ⟨b38, hb38, h⟩ := bnd1_some h
          refine X.getR (pc := 135) (k := 39) fw_Mod_111 (by decide +kernel) (fun _ => rfl) hS hb38 ?_
          refine X.iload_2 (pc := 138) (by decide +kernel) ?_
          refine X.iload_4 (pc := 139) (by decide +kernel) ?_
          obtain ⟨hc39, h⟩ := asrt_some h
          obtain ⟨hi40, h⟩ := asrt_some h
          refine X.iastore (pc := 141) (by decide +kernel) hc39 hi40 ?_
          refine X.nameMI (fun I41 hI41 => ?_)
          have h := lt_at hI41 h
          refine X.aload_0 (pc := 142) (by decide +kernel) ?_
          refine X.iload_6 (pc := 143) (by decide +kernel) ?_
          refine X.iload_2 (pc := 145) (by decide +kernel) ?_
          refine X.iconst (pc := 146) (i := 1) (v := 1) ic_1 (by decide +kernel) ?_
          refine X.iadd (pc := 147) (by decide +kernel) ?_
          refine X.iload_3 (pc := 148) (by decide +kernel) ?_
          obtain ⟨I42, hv43, h⟩ := bnd1_some h
          refine X.callVv (pc := 149) (nc := 0) (ns := 0) (hself _ _ _ _ _ _ _ _ _ _  hv43 hS) cv_Mod_395 (by decide +kernel) hS ⟨by decide, rfl⟩ (ddd hd (by omega)) rfl (Nat.le_of_ble_eq_true rfl) rfl rfl ?_
          refine X.aload_0 (pc := 152) (by decide +kernel) ?_
          refine X.iload_5 (pc := 153) (by decide +kernel) ?_
          refine X.iload_2 (pc := 155) (by decide +kernel) ?_
          refine X.iload_3 (pc := 156) (by decide +kernel) ?_
          obtain ⟨I44, hv45, h⟩ := bnd1_some h
          refine X.callVv (pc := 157) (nc := 0) (ns := 0) (hself _ _ _ _ _ _ _ _ _ _  hv45 hS) cv_Mod_395 (by decide +kernel) hS ⟨by decide, rfl⟩ (ddd hd (by omega)) rfl (Nat.le_of_ble_eq_true rfl) rfl rfl ?_
          have j0 := Option.some.inj h
          subst j0
          exact X.vreturn (pc := 160) (by decide +kernel) rfl ⟨rfl, rfl, rfl, rfl, rfl, rfl⟩
        · refine X.icmp_gt_f (pc := 57) (off := 4) (tgt := 61) hq20 rfl (by decide +kernel) ?_
          have j0 := Option.some.inj h
          subst j0
          exact X.vreturn (pc := 60) (by decide +kernel) rfl ⟨rfl, rfl, rfl, rfl, rfl, rfl⟩
    have h := hr3
    rcases ifb_some h with ⟨hq1, h⟩ | ⟨hq1, h⟩
    · refine X.icmp_le_t (pc := 5) (off := 37) (tgt := 42) hq1 rfl (by decide +kernel) ?_
      have j0 := Option.some.inj h
      subst j0
      exact hj4
    · refine X.icmp_le_f (pc := 5) (off := 37) (tgt := 42) hq1 rfl (by decide +kernel) ?_
      refine X.aload_0 (pc := 8) (by decide +kernel) ?_
      refine X.iload_2 (pc := 9) (by decide +kernel) ?_
      refine X.putI (pc := 10) (k := 41) fw_Mod_382 (by decide +kernel) rfl rfl hS ?_
      refine X.nameMI (fun I5 hI5 => ?_)
      have h := lt_at hI5 h
      refine X.iconst (pc := 13) (i := 0) (v := 0) ic_0 (by decide +kernel) ?_
      refine X.istore_4 (pc := 14) (by decide +kernel) (by decide) rfl ?_
      obtain ⟨I15, hv16, h⟩ := bnd1_some h
      refine xl_Mod_chooses_16 hE hd hS hv16 ?_
      have j0 := Option.some.inj h
      subst j0
      exact hj4
set_option maxRecDepth 100000 in
noncomputable def l_Mod_codes_64 (S : MS) (R : MR) (v0 : Nat) : Nat → MI → ML → Int32 → Option (MI × ML)
  | 0, _, _, _ => none
  | f + 1, I, L, v3 =>
    ifb ((I v0 41) ≤ v3)
      (some (I, L))
      (ifb (16 ≤ v3)
        (some (I, L))
        (bnd1 (R v0 40) fun b18 =>
        asrt ((S b18).1 = 20) <|
        asrt (vp_in v3 (S b18).2) <|
        bnd2 (f_Mod_enters S R I L v0 (Int32.toInt64 (I b18 (Int32.toNatClampNeg v3)))) fun I21 L22 =>
        l_Mod_codes_64 S R v0 f I21 L22 (v3 + 1)))
set_option maxRecDepth 100000 in
set_option maxHeartbeats 4000000 in
theorem xl_Mod_codes_64 {E : Env} (hE : OKE E) {tg : Bool} {d : Nat} (hd : 43 ≤ d) {S : MS} {R : MR} {n : Nat} {v0 : Nat} {K : KT} :
    ∀ {f : Nat} {I : MI} {L : ML} {v3 : Int32} {I' : MI} {L' : ML}, (S v0).1 = 12 → l_Mod_codes_64 S R v0 f I L v3 = some (I', L') → X E y_Mod_codes b_Mod_codes 4 (some .int) tg d 0 0 95 [some (.ref (e_b E + v0)), none, none, none] [] S I' L' R n K → X E y_Mod_codes b_Mod_codes 4 (some .int) tg d 0 0 64 [some (.ref (e_b E + v0)), none, none, some (.int v3)] [] S I L R n K := by
  intro f
  induction f with
  | zero =>
    intro I L v3 I' L' hS h hk
    rw [l_Mod_codes_64] at h
    cases h
  | succ f ih =>
    intro I L v3 I' L' hS h hk
    rw [l_Mod_codes_64] at h
    refine X.iload_3 (pc := 64) (by decide +kernel) ?_
    refine X.aload_0 (pc := 65) (by decide +kernel) ?_
    refine X.getI (pc := 66) (k := 41) fw_Mod_382 (by decide +kernel) (fun _ => rfl) hS ?_
    rcases ifb_some h with ⟨hq16, h⟩ | ⟨hq16, h⟩
    · refine X.icmp_ge_t (pc := 69) (off := 26) (tgt := 95) hq16 rfl (by decide +kernel) ?_
      have j0 := Option.some.inj h
      obtain ⟨i0, j1⟩ := Prod.mk.inj j0
      subst i0
      subst j1
      refine X.fgt (o' := [some (.ref (e_b E + v0)), none, none, none]) ⟨rfl, trivial⟩ ?_
      exact hk
    · refine X.icmp_ge_f (pc := 69) (off := 26) (tgt := 95) hq16 rfl (by decide +kernel) ?_
      refine X.iload_3 (pc := 72) (by decide +kernel) ?_
      refine X.bipush (pc := 73) (i := 16) (v := 16) bp_16 (by decide +kernel) ?_
      rcases ifb_some h with ⟨hq17, h⟩ | ⟨hq17, h⟩
      · refine X.icmp_ge_t (pc := 75) (off := 20) (tgt := 95) hq17 rfl (by decide +kernel) ?_
        have j0 := Option.some.inj h
        obtain ⟨i0, j1⟩ := Prod.mk.inj j0
        subst i0
        subst j1
        refine X.fgt (o' := [some (.ref (e_b E + v0)), none, none, none]) ⟨rfl, trivial⟩ ?_
        exact hk
      · refine X.icmp_ge_f (pc := 75) (off := 20) (tgt := 95) hq17 rfl (by decide +kernel) ?_
        refine X.aload_0 (pc := 78) (by decide +kernel) ?_
        refine X.aload_0 (pc := 79) (by decide +kernel) ?_
        obtain ⟨b18, hb18, h⟩ := bnd1_some h
        refine X.getR (pc := 80) (k := 40) fw_Mod_114 (by decide +kernel) (fun _ => rfl) hS hb18 ?_
        refine X.iload_3 (pc := 83) (by decide +kernel) ?_
        obtain ⟨hc20, h⟩ := asrt_some h
        obtain ⟨hi19, h⟩ := asrt_some h
        refine X.iaload (pc := 84) (by decide +kernel) hc20 hi19 ?_
        refine X.i2l (pc := 85) (by decide +kernel) ?_
        obtain ⟨I21, L22, hv23, h⟩ := bnd2_some h
        refine X.callVv (pc := 86) (nc := 0) (ns := 0) (c_Mod_enters hE (dle hd (Nat.le_of_ble_eq_true rfl)) hS hv23) cv_Mod_24 (by decide +kernel) hS ⟨by decide, rfl⟩ (ddd hd (Nat.le_of_ble_eq_true rfl)) rfl (Nat.le_of_ble_eq_true rfl) rfl rfl ?_
        refine X.iinc_3 (pc := 89) (z := 1) (v := 1) ic_1 (by decide +kernel) (by decide) rfl ?_
        refine X.goto (pc := 92) (off := (-28)) (tgt := 64) (by decide +kernel) rfl ?_
        exact ih hS h hk
set_option maxRecDepth 100000 in
noncomputable def f_Mod_codes (g : Nat) (S : MS) (R : MR) (I : MI) (L : ML) (t : Nat) (p1 : Int32) (p2 : Int32) : Option (Int32 × MI × ML) :=
  lt (wI I t 0 0) fun (I1 : MI) =>
  bnd1 (f_Mod_in (Int32.toInt64 p1) 1 5) fun x2 =>
  ifb (x2 = 0)
    (some ((-1), I1, L))
    (bnd1 (f_Mod_in (Int32.toInt64 p2) 1 (Int32.toInt64 p1)) fun x5 =>
    ifb (x5 = 0)
      (some ((-1), I1, L))
      (lt (wI I1 t 41 0) fun (I8 : MI) =>
      bnd1 (ifb (p1 = 5)
          (some (-1))
          (some ((isl 1 (isl 1 p1)) - 1))) fun (y10 : Int32) =>
      bnd1 (f_Mod_chooses g 40 S R I8 t y10 0 p2) fun I13 =>
      lt (wI I13 t 1 0) fun (I15 : MI) =>
      bnd2 (l_Mod_codes_64 S R t g I15 L 0) fun I24 L25 =>
      lt (I24 t 41) fun (x27 : Int32) =>
      some (x27, I24, L25)))
set_option maxRecDepth 100000 in
set_option maxHeartbeats 4000000 in
theorem c_Mod_codes {E : Env} (hE : OKE E) {tg : Bool} {d : Nat} (hd : 43 ≤ d) {g : Nat} {S : MS} {I : MI} {L : ML} {R : MR} {n : Nat} {t : Nat} {p1 : Int32} {p2 : Int32} {v : Int32} {I' : MI} {L' : ML} (hS : (S t).1 = 12) (h : f_Mod_codes g S R I L t p1 p2 = some (v, I', L')) : C E y_Mod_codes b_Mod_codes 4 (some .int) tg d 0 0 [.ref (e_b E + t), .int p1, .int p2] S I L R n (Kq (some (.int v)) S I' L' R n) := by
  refine C.of (o := [some (.ref (e_b E + t)), some (.int p1), some (.int p2), none]) (by decide) rfl (Nat.le_of_ble_eq_true rfl) ?_
  rw [f_Mod_codes] at h
  refine X.aload_0 (pc := 0) (by decide +kernel) ?_
  refine X.iconst (pc := 1) (i := 0) (v := 0) ic_0 (by decide +kernel) ?_
  refine X.putI (pc := 2) (k := 0) fw_Mod_3 (by decide +kernel) rfl rfl hS ?_
  refine X.nameMI (fun I1 hI1 => ?_)
  have h := lt_at hI1 h
  refine X.iload_1 (pc := 5) (by decide +kernel) ?_
  refine X.i2l (pc := 6) (by decide +kernel) ?_
  refine X.lconst (pc := 7) (i := 1) (v := 1) rfl (by decide +kernel) ?_
  refine X.ldc2 (pc := 8) (x := 358) (v := 5) ld_Mod_358 (by decide +kernel) ?_
  obtain ⟨x2, hv3, h⟩ := bnd1_some h
  refine X.callSi (pc := 11) (nc := 0) (ns := 0) (c_Mod_in hE (dle hd (Nat.le_of_ble_eq_true rfl)) hv3) cv_Mod_151 (by decide +kernel) (ddd hd (Nat.le_of_ble_eq_true rfl)) rfl (Nat.le_of_ble_eq_true rfl) rfl rfl ?_
  rcases ifb_some h with ⟨hq4, h⟩ | ⟨hq4, h⟩
  · refine X.if_eq_t (pc := 14) (off := 14) (tgt := 28) hq4 rfl (by decide +kernel) ?_
    refine X.iconst (pc := 28) (i := (-1)) (v := (-1)) ic_m1 (by decide +kernel) ?_
    have j0 := Option.some.inj h
    obtain ⟨i0, j1⟩ := Prod.mk.inj j0
    obtain ⟨i1, j2⟩ := Prod.mk.inj j1
    subst i0
    subst i1
    subst j2
    exact X.ireturn (pc := 29) (by decide +kernel) ⟨_, rfl, rfl⟩ ⟨rfl, rfl, rfl, rfl, rfl, rfl⟩
  · refine X.if_eq_f (pc := 14) (off := 14) (tgt := 28) hq4 rfl (by decide +kernel) ?_
    refine X.iload_2 (pc := 17) (by decide +kernel) ?_
    refine X.i2l (pc := 18) (by decide +kernel) ?_
    refine X.lconst (pc := 19) (i := 1) (v := 1) rfl (by decide +kernel) ?_
    refine X.iload_1 (pc := 20) (by decide +kernel) ?_
    refine X.i2l (pc := 21) (by decide +kernel) ?_
    obtain ⟨x5, hv6, h⟩ := bnd1_some h
    refine X.callSi (pc := 22) (nc := 0) (ns := 0) (c_Mod_in hE (dle hd (Nat.le_of_ble_eq_true rfl)) hv6) cv_Mod_151 (by decide +kernel) (ddd hd (Nat.le_of_ble_eq_true rfl)) rfl (Nat.le_of_ble_eq_true rfl) rfl rfl ?_
    rcases ifb_some h with ⟨hq7, h⟩ | ⟨hq7, h⟩
    · refine X.if_ne_f (pc := 25) (off := 5) (tgt := 30) hq7 rfl (by decide +kernel) ?_
      refine X.iconst (pc := 28) (i := (-1)) (v := (-1)) ic_m1 (by decide +kernel) ?_
      have j0 := Option.some.inj h
      obtain ⟨i0, j1⟩ := Prod.mk.inj j0
      obtain ⟨i1, j2⟩ := Prod.mk.inj j1
      subst i0
      subst i1
      subst j2
      exact X.ireturn (pc := 29) (by decide +kernel) ⟨_, rfl, rfl⟩ ⟨rfl, rfl, rfl, rfl, rfl, rfl⟩
    · refine X.if_ne_t (pc := 25) (off := 5) (tgt := 30) hq7 rfl (by decide +kernel) ?_
      refine X.aload_0 (pc := 30) (by decide +kernel) ?_
      refine X.iconst (pc := 31) (i := 0) (v := 0) ic_0 (by decide +kernel) ?_
      refine X.putI (pc := 32) (k := 41) fw_Mod_382 (by decide +kernel) rfl rfl hS ?_
      refine X.nameMI (fun I8 hI8 => ?_)
      have h := lt_at hI8 h
      refine X.aload_0 (pc := 35) (by decide +kernel) ?_
      refine X.iload_1 (pc := 36) (by decide +kernel) ?_
      refine X.iconst (pc := 37) (i := 5) (v := 5) ic_5 (by decide +kernel) ?_
      obtain ⟨y10, hr11, h⟩ := bnd1_some h
      have hj12 : X E y_Mod_codes b_Mod_codes 4 (some .int) tg d 0 0 52 [some (.ref (e_b E + t)), none, some (.int p2), none] [.int y10, .ref (e_b E + t)] S I8 L R n (Kq (some (.int v)) S I' L' R n) := by
        refine X.iconst (pc := 52) (i := 0) (v := 0) ic_0 (by decide +kernel) ?_
        refine X.iload_2 (pc := 53) (by decide +kernel) ?_
        obtain ⟨I13, hv14, h⟩ := bnd1_some h
        refine X.callVv (pc := 54) (nc := 0) (ns := 0) (c_Mod_chooses hE (dle hd (Nat.le_of_ble_eq_true rfl)) hS hv14) cv_Mod_395 (by decide +kernel) hS ⟨by decide, rfl⟩ (ddd hd (Nat.le_of_ble_eq_true rfl)) rfl (Nat.le_of_ble_eq_true rfl) rfl rfl ?_
        refine X.aload_0 (pc := 57) (by decide +kernel) ?_
        refine X.iconst (pc := 58) (i := 0) (v := 0) ic_0 (by decide +kernel) ?_
        refine X.putI (pc := 59) (k := 1) fw_Mod_21 (by decide +kernel) rfl rfl hS ?_
        refine X.nameMI (fun I15 hI15 => ?_)
        have h := lt_at hI15 h
        refine X.iconst (pc := 62) (i := 0) (v := 0) ic_0 (by decide +kernel) ?_
        refine X.istore_3 (pc := 63) (by decide +kernel) (by decide) rfl ?_
        obtain ⟨I24, L25, hv26, h⟩ := bnd2_some h
        refine X.fgt (o' := [some (.ref (e_b E + t)), none, none, some (.int 0)]) ⟨rfl, ⟨rfl, trivial⟩⟩ ?_
        refine xl_Mod_codes_64 hE hd hS hv26 ?_
        refine X.aload_0 (pc := 95) (by decide +kernel) ?_
        refine X.getI (pc := 96) (k := 41) fw_Mod_382 (by decide +kernel) (fun _ => rfl) hS ?_
        refine X.nameI (fun x27 hx27 => ?_)
        have h := lt_at hx27 h
        have j0 := Option.some.inj h
        obtain ⟨i0, j1⟩ := Prod.mk.inj j0
        obtain ⟨i1, j2⟩ := Prod.mk.inj j1
        subst i0
        subst i1
        subst j2
        exact X.ireturn (pc := 99) (by decide +kernel) ⟨_, rfl, rfl⟩ ⟨rfl, rfl, rfl, rfl, rfl, rfl⟩
      have h := hr11
      rcases ifb_some h with ⟨hq9, h⟩ | ⟨hq9, h⟩
      · refine X.icmp_ne_f (pc := 38) (off := 7) (tgt := 45) hq9 rfl (by decide +kernel) ?_
        refine X.iconst (pc := 41) (i := (-1)) (v := (-1)) ic_m1 (by decide +kernel) ?_
        refine X.goto (pc := 42) (off := 10) (tgt := 52) (by decide +kernel) rfl ?_
        have j0 := Option.some.inj h
        subst j0
        refine X.fgt (o' := [some (.ref (e_b E + t)), none, some (.int p2), none]) ⟨rfl, ⟨rfl, trivial⟩⟩ ?_
        exact hj12
      · refine X.icmp_ne_t (pc := 38) (off := 7) (tgt := 45) hq9 rfl (by decide +kernel) ?_
        refine X.iconst (pc := 45) (i := 1) (v := 1) ic_1 (by decide +kernel) ?_
        refine X.iconst (pc := 46) (i := 1) (v := 1) ic_1 (by decide +kernel) ?_
        refine X.iload_1 (pc := 47) (by decide +kernel) ?_
        refine X.ishl (pc := 48) (by decide +kernel) ?_
        refine X.ishl (pc := 49) (by decide +kernel) ?_
        refine X.iconst (pc := 50) (i := 1) (v := 1) ic_1 (by decide +kernel) ?_
        refine X.isub (pc := 51) (by decide +kernel) ?_
        have j0 := Option.some.inj h
        subst j0
        refine X.fgt (o' := [some (.ref (e_b E + t)), none, some (.int p2), none]) ⟨rfl, ⟨rfl, trivial⟩⟩ ?_
        exact hj12
set_option maxRecDepth 100000 in
noncomputable def l_Mod_meant_85 (v2 : Int32) (v3 : Int32) (v4 : Int32) (v5 : Int32) : Nat → Int32 → Int32 → Option Int32
  | 0, _, _ => none
  | f + 1, v7, v8 =>
    ifb (v5 ≤ v8)
      (some v7)
      (bnd1 (f_Mod_has v4 v8) fun x19 =>
      bnd1 (ifb (x19 = 0)
          (some 0)
          (ifb (((v8 ^^^ v2) &&& (v3 ^^^ (-1))) = 0)
            (some (isl 1 v8))
            (some 0))) fun (y22 : Int32) =>
      lt (v7 ||| y22) fun (x26 : Int32) =>
      l_Mod_meant_85 v2 v3 v4 v5 f x26 (v8 + 1))
set_option maxRecDepth 100000 in
set_option maxHeartbeats 4000000 in
theorem xl_Mod_meant_85 {E : Env} (hE : OKE E) {tg : Bool} {d : Nat} (hd : 1 ≤ d) {S : MS} {I : MI} {L : ML} {R : MR} {n : Nat} {v2 : Int32} {v3 : Int32} {v4 : Int32} {v5 : Int32} {K : KT} :
    ∀ {f : Nat}  {v7 : Int32} {v8 : Int32} {o7 : Int32}, l_Mod_meant_85 v2 v3 v4 v5 f v7 v8 = some o7 → X E y_Mod_meant b_Mod_meant 9 (some .int) tg d 0 0 132 [none, none, none, none, none, none, none, some (.int o7), none] [] S I L R n K → X E y_Mod_meant b_Mod_meant 9 (some .int) tg d 0 0 85 [none, none, some (.int v2), some (.int v3), some (.int v4), some (.int v5), none, some (.int v7), some (.int v8)] [] S I L R n K := by
  intro f
  induction f with
  | zero =>
    intro v7 v8 o7 h hk
    rw [l_Mod_meant_85] at h
    cases h
  | succ f ih =>
    intro v7 v8 o7 h hk
    rw [l_Mod_meant_85] at h
    refine X.iload_8 (pc := 85) (by decide +kernel) ?_
    refine X.iload_5 (pc := 87) (by decide +kernel) ?_
    rcases ifb_some h with ⟨hq18, h⟩ | ⟨hq18, h⟩
    · refine X.icmp_ge_t (pc := 89) (off := 43) (tgt := 132) hq18 rfl (by decide +kernel) ?_
      have j0 := Option.some.inj h
      subst j0
      refine X.fgt (o' := [none, none, none, none, none, none, none, some (.int v7), none]) ⟨rfl, trivial⟩ ?_
      exact hk
    · refine X.icmp_ge_f (pc := 89) (off := 43) (tgt := 132) hq18 rfl (by decide +kernel) ?_
      refine X.iload_7 (pc := 92) (by decide +kernel) ?_
      refine X.iload_4 (pc := 94) (by decide +kernel) ?_
      refine X.iload_8 (pc := 96) (by decide +kernel) ?_
      obtain ⟨x19, hv20, h⟩ := bnd1_some h
      refine X.callSi (pc := 98) (nc := 0) (ns := 0) (c_Mod_has hE (dle hd (Nat.le_of_ble_eq_true rfl)) hv20) cv_Mod_391 (by decide +kernel) (ddd hd (Nat.le_of_ble_eq_true rfl)) rfl (Nat.le_of_ble_eq_true rfl) rfl rfl ?_
      obtain ⟨y22, hr23, h⟩ := bnd1_some h
      have hj24 : X E y_Mod_meant b_Mod_meant 9 (some .int) tg d 0 0 123 [none, none, some (.int v2), some (.int v3), some (.int v4), some (.int v5), none, none, some (.int v8)] [.int y22, .int v7] S I L R n K := by
        refine X.ior (pc := 123) (by decide +kernel) ?_
        refine X.nameI (fun x26 hx26 => ?_)
        have h := lt_at hx26 h
        refine X.istore_7 (pc := 124) (by decide +kernel) (by decide) rfl ?_
        refine X.iinc_8 (pc := 126) (z := 1) (v := 1) ic_1 (by decide +kernel) (by decide) rfl ?_
        refine X.goto (pc := 129) (off := (-44)) (tgt := 85) (by decide +kernel) rfl ?_
        exact ih h hk
      have h := hr23
      rcases ifb_some h with ⟨hq21, h⟩ | ⟨hq21, h⟩
      · refine X.if_eq_t (pc := 101) (off := 21) (tgt := 122) hq21 rfl (by decide +kernel) ?_
        refine X.iconst (pc := 122) (i := 0) (v := 0) ic_0 (by decide +kernel) ?_
        have j0 := Option.some.inj h
        subst j0
        refine X.fgt (o' := [none, none, some (.int v2), some (.int v3), some (.int v4), some (.int v5), none, none, some (.int v8)]) ⟨rfl, ⟨rfl, ⟨rfl, ⟨rfl, ⟨rfl, trivial⟩⟩⟩⟩⟩ ?_
        exact hj24
      · refine X.if_eq_f (pc := 101) (off := 21) (tgt := 122) hq21 rfl (by decide +kernel) ?_
        refine X.iload_8 (pc := 104) (by decide +kernel) ?_
        refine X.iload_2 (pc := 106) (by decide +kernel) ?_
        refine X.ixor (pc := 107) (by decide +kernel) ?_
        refine X.iload_3 (pc := 108) (by decide +kernel) ?_
        refine X.iconst (pc := 109) (i := (-1)) (v := (-1)) ic_m1 (by decide +kernel) ?_
        refine X.ixor (pc := 110) (by decide +kernel) ?_
        refine X.iand (pc := 111) (by decide +kernel) ?_
        rcases ifb_some h with ⟨hq25, h⟩ | ⟨hq25, h⟩
        · refine X.if_ne_f (pc := 112) (off := 10) (tgt := 122) hq25 rfl (by decide +kernel) ?_
          refine X.iconst (pc := 115) (i := 1) (v := 1) ic_1 (by decide +kernel) ?_
          refine X.iload_8 (pc := 116) (by decide +kernel) ?_
          refine X.ishl (pc := 118) (by decide +kernel) ?_
          refine X.goto (pc := 119) (off := 4) (tgt := 123) (by decide +kernel) rfl ?_
          have j0 := Option.some.inj h
          subst j0
          refine X.fgt (o' := [none, none, some (.int v2), some (.int v3), some (.int v4), some (.int v5), none, none, some (.int v8)]) ⟨rfl, ⟨rfl, ⟨rfl, ⟨rfl, ⟨rfl, trivial⟩⟩⟩⟩⟩ ?_
          exact hj24
        · refine X.if_ne_t (pc := 112) (off := 10) (tgt := 122) hq25 rfl (by decide +kernel) ?_
          refine X.iconst (pc := 122) (i := 0) (v := 0) ic_0 (by decide +kernel) ?_
          have j0 := Option.some.inj h
          subst j0
          refine X.fgt (o' := [none, none, some (.int v2), some (.int v3), some (.int v4), some (.int v5), none, none, some (.int v8)]) ⟨rfl, ⟨rfl, ⟨rfl, ⟨rfl, ⟨rfl, trivial⟩⟩⟩⟩⟩ ?_
          exact hj24
set_option maxRecDepth 100000 in
noncomputable def f_Mod_meant (g : Nat) (S : MS) (I : MI) (t : Nat) (p1 : Int32) (p2 : Int32) (p3 : Int32) (p4 : Int32) : Option (Int32 × MI) :=
  lt (wI I t 0 0) fun (I1 : MI) =>
  bnd1 (f_Mod_in (Int32.toInt64 p1) 1 5) fun x2 =>
  ifb (x2 = 0)
    (some ((-1), I1))
    (lt (isl 1 p1) fun (x5 : Int32) =>
    bnd1 (ifb (p1 = 5)
        (some 1)
        (ifb ((ius p4 x5) = 0)
          (some 1)
          (some 0))) fun (y7 : Int32) =>
    bnd1 (f_Mod_in (Int32.toInt64 p2) 0 (Int32.toInt64 (x5 - 1))) fun x11 =>
    ifb (x11 = 0)
      (some ((-1), I1))
      (bnd1 (f_Mod_in (Int32.toInt64 p3) 0 (Int32.toInt64 (x5 - 1))) fun x14 =>
      ifb (x14 = 0)
        (some ((-1), I1))
        (ifb (y7 = 0)
          (some ((-1), I1))
          (bnd1 (l_Mod_meant_85 p2 p3 p4 x5 g 0 0) fun x27 =>
          some (x27, I1)))))
set_option maxRecDepth 100000 in
set_option maxHeartbeats 4000000 in
theorem c_Mod_meant {E : Env} (hE : OKE E) {tg : Bool} {d : Nat} (hd : 1 ≤ d) {g : Nat} {S : MS} {I : MI} {L : ML} {R : MR} {n : Nat} {t : Nat} {p1 : Int32} {p2 : Int32} {p3 : Int32} {p4 : Int32} {v : Int32} {I' : MI} (hS : (S t).1 = 12) (h : f_Mod_meant g S I t p1 p2 p3 p4 = some (v, I')) : C E y_Mod_meant b_Mod_meant 9 (some .int) tg d 0 0 [.ref (e_b E + t), .int p1, .int p2, .int p3, .int p4] S I L R n (Kq (some (.int v)) S I' L R n) := by
  refine C.of (o := [some (.ref (e_b E + t)), some (.int p1), some (.int p2), some (.int p3), some (.int p4), none, none, none, none]) (by decide) rfl (Nat.le_of_ble_eq_true rfl) ?_
  rw [f_Mod_meant] at h
  refine X.aload_0 (pc := 0) (by decide +kernel) ?_
  refine X.iconst (pc := 1) (i := 0) (v := 0) ic_0 (by decide +kernel) ?_
  refine X.putI (pc := 2) (k := 0) fw_Mod_3 (by decide +kernel) rfl rfl hS ?_
  refine X.nameMI (fun I1 hI1 => ?_)
  have h := lt_at hI1 h
  refine X.iload_1 (pc := 5) (by decide +kernel) ?_
  refine X.i2l (pc := 6) (by decide +kernel) ?_
  refine X.lconst (pc := 7) (i := 1) (v := 1) rfl (by decide +kernel) ?_
  refine X.ldc2 (pc := 8) (x := 358) (v := 5) ld_Mod_358 (by decide +kernel) ?_
  obtain ⟨x2, hv3, h⟩ := bnd1_some h
  refine X.callSi (pc := 11) (nc := 0) (ns := 0) (c_Mod_in hE (dle hd (Nat.le_of_ble_eq_true rfl)) hv3) cv_Mod_151 (by decide +kernel) (ddd hd (Nat.le_of_ble_eq_true rfl)) rfl (Nat.le_of_ble_eq_true rfl) rfl rfl ?_
  rcases ifb_some h with ⟨hq4, h⟩ | ⟨hq4, h⟩
  · refine X.if_ne_f (pc := 14) (off := 5) (tgt := 19) hq4 rfl (by decide +kernel) ?_
    refine X.iconst (pc := 17) (i := (-1)) (v := (-1)) ic_m1 (by decide +kernel) ?_
    have j0 := Option.some.inj h
    obtain ⟨i0, j1⟩ := Prod.mk.inj j0
    subst i0
    subst j1
    exact X.ireturn (pc := 18) (by decide +kernel) ⟨_, rfl, rfl⟩ ⟨rfl, rfl, rfl, rfl, rfl, rfl⟩
  · refine X.if_ne_t (pc := 14) (off := 5) (tgt := 19) hq4 rfl (by decide +kernel) ?_
    refine X.iconst (pc := 19) (i := 1) (v := 1) ic_1 (by decide +kernel) ?_
    refine X.iload_1 (pc := 20) (by decide +kernel) ?_
    refine X.ishl (pc := 21) (by decide +kernel) ?_
    refine X.nameI (fun x5 hx5 => ?_)
    have h := lt_at hx5 h
    refine X.istore_5 (pc := 22) (by decide +kernel) (by decide) rfl ?_
    refine X.iload_1 (pc := 24) (by decide +kernel) ?_
    refine X.iconst (pc := 25) (i := 5) (v := 5) ic_5 (by decide +kernel) ?_
    obtain ⟨y7, hr8, h⟩ := bnd1_some h
    have hj9 : X E y_Mod_meant b_Mod_meant 9 (some .int) tg d 0 0 42 [none, none, some (.int p2), some (.int p3), some (.int p4), some (.int x5), none, none, none] [.int y7] S I1 L R n (Kq (some (.int v)) S I' L R n) := by
      refine X.istore_6 (pc := 42) (by decide +kernel) (by decide) rfl ?_
      refine X.iload_2 (pc := 44) (by decide +kernel) ?_
      refine X.i2l (pc := 45) (by decide +kernel) ?_
      refine X.lconst (pc := 46) (i := 0) (v := 0) rfl (by decide +kernel) ?_
      refine X.iload_5 (pc := 47) (by decide +kernel) ?_
      refine X.iconst (pc := 49) (i := 1) (v := 1) ic_1 (by decide +kernel) ?_
      refine X.isub (pc := 50) (by decide +kernel) ?_
      refine X.i2l (pc := 51) (by decide +kernel) ?_
      obtain ⟨x11, hv12, h⟩ := bnd1_some h
      refine X.callSi (pc := 52) (nc := 0) (ns := 0) (c_Mod_in hE (dle hd (Nat.le_of_ble_eq_true rfl)) hv12) cv_Mod_151 (by decide +kernel) (ddd hd (Nat.le_of_ble_eq_true rfl)) rfl (Nat.le_of_ble_eq_true rfl) rfl rfl ?_
      rcases ifb_some h with ⟨hq13, h⟩ | ⟨hq13, h⟩
      · refine X.if_eq_t (pc := 55) (off := 22) (tgt := 77) hq13 rfl (by decide +kernel) ?_
        refine X.iconst (pc := 77) (i := (-1)) (v := (-1)) ic_m1 (by decide +kernel) ?_
        have j0 := Option.some.inj h
        obtain ⟨i0, j1⟩ := Prod.mk.inj j0
        subst i0
        subst j1
        exact X.ireturn (pc := 78) (by decide +kernel) ⟨_, rfl, rfl⟩ ⟨rfl, rfl, rfl, rfl, rfl, rfl⟩
      · refine X.if_eq_f (pc := 55) (off := 22) (tgt := 77) hq13 rfl (by decide +kernel) ?_
        refine X.iload_3 (pc := 58) (by decide +kernel) ?_
        refine X.i2l (pc := 59) (by decide +kernel) ?_
        refine X.lconst (pc := 60) (i := 0) (v := 0) rfl (by decide +kernel) ?_
        refine X.iload_5 (pc := 61) (by decide +kernel) ?_
        refine X.iconst (pc := 63) (i := 1) (v := 1) ic_1 (by decide +kernel) ?_
        refine X.isub (pc := 64) (by decide +kernel) ?_
        refine X.i2l (pc := 65) (by decide +kernel) ?_
        obtain ⟨x14, hv15, h⟩ := bnd1_some h
        refine X.callSi (pc := 66) (nc := 0) (ns := 0) (c_Mod_in hE (dle hd (Nat.le_of_ble_eq_true rfl)) hv15) cv_Mod_151 (by decide +kernel) (ddd hd (Nat.le_of_ble_eq_true rfl)) rfl (Nat.le_of_ble_eq_true rfl) rfl rfl ?_
        rcases ifb_some h with ⟨hq16, h⟩ | ⟨hq16, h⟩
        · refine X.if_eq_t (pc := 69) (off := 8) (tgt := 77) hq16 rfl (by decide +kernel) ?_
          refine X.iconst (pc := 77) (i := (-1)) (v := (-1)) ic_m1 (by decide +kernel) ?_
          have j0 := Option.some.inj h
          obtain ⟨i0, j1⟩ := Prod.mk.inj j0
          subst i0
          subst j1
          exact X.ireturn (pc := 78) (by decide +kernel) ⟨_, rfl, rfl⟩ ⟨rfl, rfl, rfl, rfl, rfl, rfl⟩
        · refine X.if_eq_f (pc := 69) (off := 8) (tgt := 77) hq16 rfl (by decide +kernel) ?_
          refine X.iload_6 (pc := 72) (by decide +kernel) ?_
          rcases ifb_some h with ⟨hq17, h⟩ | ⟨hq17, h⟩
          · refine X.if_ne_f (pc := 74) (off := 5) (tgt := 79) hq17 rfl (by decide +kernel) ?_
            refine X.iconst (pc := 77) (i := (-1)) (v := (-1)) ic_m1 (by decide +kernel) ?_
            have j0 := Option.some.inj h
            obtain ⟨i0, j1⟩ := Prod.mk.inj j0
            subst i0
            subst j1
            exact X.ireturn (pc := 78) (by decide +kernel) ⟨_, rfl, rfl⟩ ⟨rfl, rfl, rfl, rfl, rfl, rfl⟩
          · refine X.if_ne_t (pc := 74) (off := 5) (tgt := 79) hq17 rfl (by decide +kernel) ?_
            refine X.iconst (pc := 79) (i := 0) (v := 0) ic_0 (by decide +kernel) ?_
            refine X.istore_7 (pc := 80) (by decide +kernel) (by decide) rfl ?_
            refine X.iconst (pc := 82) (i := 0) (v := 0) ic_0 (by decide +kernel) ?_
            refine X.istore_8 (pc := 83) (by decide +kernel) (by decide) rfl ?_
            obtain ⟨x27, hv28, h⟩ := bnd1_some h
            refine X.fgt (o' := [none, none, some (.int p2), some (.int p3), some (.int p4), some (.int x5), none, some (.int 0), some (.int 0)]) ⟨rfl, ⟨rfl, ⟨rfl, ⟨rfl, ⟨rfl, ⟨rfl, trivial⟩⟩⟩⟩⟩⟩ ?_
            refine xl_Mod_meant_85 hE hd hv28 ?_
            refine X.iload_7 (pc := 132) (by decide +kernel) ?_
            have j0 := Option.some.inj h
            obtain ⟨i0, j1⟩ := Prod.mk.inj j0
            subst i0
            subst j1
            exact X.ireturn (pc := 134) (by decide +kernel) ⟨_, rfl, rfl⟩ ⟨rfl, rfl, rfl, rfl, rfl, rfl⟩
    have h := hr8
    rcases ifb_some h with ⟨hq6, h⟩ | ⟨hq6, h⟩
    · refine X.icmp_eq_t (pc := 26) (off := 11) (tgt := 37) hq6 rfl (by decide +kernel) ?_
      refine X.iconst (pc := 37) (i := 1) (v := 1) ic_1 (by decide +kernel) ?_
      refine X.goto (pc := 38) (off := 4) (tgt := 42) (by decide +kernel) rfl ?_
      have j0 := Option.some.inj h
      subst j0
      refine X.fgt (o' := [none, none, some (.int p2), some (.int p3), some (.int p4), some (.int x5), none, none, none]) ⟨rfl, ⟨rfl, ⟨rfl, ⟨rfl, trivial⟩⟩⟩⟩ ?_
      exact hj9
    · refine X.icmp_eq_f (pc := 26) (off := 11) (tgt := 37) hq6 rfl (by decide +kernel) ?_
      refine X.iload_4 (pc := 29) (by decide +kernel) ?_
      refine X.iload_5 (pc := 31) (by decide +kernel) ?_
      refine X.iushr (pc := 33) (by decide +kernel) ?_
      rcases ifb_some h with ⟨hq10, h⟩ | ⟨hq10, h⟩
      · refine X.if_ne_f (pc := 34) (off := 7) (tgt := 41) hq10 rfl (by decide +kernel) ?_
        refine X.iconst (pc := 37) (i := 1) (v := 1) ic_1 (by decide +kernel) ?_
        refine X.goto (pc := 38) (off := 4) (tgt := 42) (by decide +kernel) rfl ?_
        have j0 := Option.some.inj h
        subst j0
        refine X.fgt (o' := [none, none, some (.int p2), some (.int p3), some (.int p4), some (.int x5), none, none, none]) ⟨rfl, ⟨rfl, ⟨rfl, ⟨rfl, trivial⟩⟩⟩⟩ ?_
        exact hj9
      · refine X.if_ne_t (pc := 34) (off := 7) (tgt := 41) hq10 rfl (by decide +kernel) ?_
        refine X.iconst (pc := 41) (i := 0) (v := 0) ic_0 (by decide +kernel) ?_
        have j0 := Option.some.inj h
        subst j0
        refine X.fgt (o' := [none, none, some (.int p2), some (.int p3), some (.int p4), some (.int x5), none, none, none]) ⟨rfl, ⟨rfl, ⟨rfl, ⟨rfl, trivial⟩⟩⟩⟩ ?_
        exact hj9
set_option maxRecDepth 100000 in
noncomputable def f_JMath_abs_I (p1 : Int32) : Option Int32 :=
  bnd1 (ifb (0 ≤ p1)
      (some p1)
      (some (-p1))) fun (y2 : Int32) =>
  some y2
set_option maxRecDepth 100000 in
set_option maxHeartbeats 4000000 in
theorem c_JMath_abs_I {E : Env} (hE : OKE E) {tg : Bool} {d : Nat} (hd : 0 ≤ d) {S : MS} {I : MI} {L : ML} {R : MR} {n : Nat} {p1 : Int32} {v : Int32} (h : f_JMath_abs_I p1 = some v) : C E y_JMath_abs_I b_JMath_abs_I 1 (some .int) tg d 0 0 [.int p1] S I L R n (Kq (some (.int v)) S I L R n) := by
  refine C.ofF (o := [some (.int p1)]) (by decide +kernel) rfl (Nat.le_of_ble_eq_true rfl) ?_
  rw [f_JMath_abs_I] at h
  refine X.iload_0 (pc := 0) (by decide +kernel) ?_
  obtain ⟨y2, hr3, h⟩ := bnd1_some h
  have hj4 : X E y_JMath_abs_I b_JMath_abs_I 1 (some .int) tg d 0 0 10 [none] [.int y2] S I L R n (Kq (some (.int v)) S I L R n) := by
    have j0 := Option.some.inj h
    subst j0
    exact X.ireturn (pc := 10) (by decide +kernel) ⟨_, rfl, rfl⟩ ⟨rfl, rfl, rfl, rfl, rfl, rfl⟩
  have h := hr3
  rcases ifb_some h with ⟨hq1, h⟩ | ⟨hq1, h⟩
  · refine X.if_ge_t (pc := 1) (off := 8) (tgt := 9) hq1 rfl (by decide +kernel) ?_
    refine X.iload_0 (pc := 9) (by decide +kernel) ?_
    have j0 := Option.some.inj h
    subst j0
    refine X.fgt (o' := [none]) trivial ?_
    exact hj4
  · refine X.if_ge_f (pc := 1) (off := 8) (tgt := 9) hq1 rfl (by decide +kernel) ?_
    refine X.iload_0 (pc := 4) (by decide +kernel) ?_
    refine X.ineg (pc := 5) (by decide +kernel) ?_
    refine X.goto (pc := 6) (off := 4) (tgt := 10) (by decide +kernel) rfl ?_
    have j0 := Option.some.inj h
    subst j0
    refine X.fgt (o' := [none]) trivial ?_
    exact hj4
set_option maxRecDepth 100000 in
noncomputable def f_Mod_isBeside (S : MS) (I : MI) (t : Nat) (p1 : Int32) (p2 : Int32) : Option Int32 :=
  lt (I t 3) fun (x1 : Int32) =>
  asrt (¬ x1 = 0) <|
  lt (I t 3) fun (x3 : Int32) =>
  asrt (¬ x3 = 0) <|
  bnd1 (f_JMath_abs_I ((irm p1 x1) - (irm p2 x3))) fun x5 =>
  lt (I t 3) fun (x7 : Int32) =>
  asrt (¬ x7 = 0) <|
  lt (I t 3) fun (x9 : Int32) =>
  asrt (¬ x9 = 0) <|
  bnd1 (f_JMath_abs_I ((p1 / x7) - (p2 / x9))) fun x11 =>
  bnd1 (ifb (1 < (x5 + x11))
      (some 0)
      (some 1)) fun (y14 : Int32) =>
  asrt (y14 = 0 ∨ y14 = 1) <|
  some y14
set_option maxRecDepth 100000 in
set_option maxHeartbeats 4000000 in
theorem c_Mod_isBeside {E : Env} (hE : OKE E) {tg : Bool} {d : Nat} (hd : 1 ≤ d) {S : MS} {I : MI} {L : ML} {R : MR} {n : Nat} {t : Nat} {p1 : Int32} {p2 : Int32} {v : Int32} (hS : (S t).1 = 12) (h : f_Mod_isBeside S I t p1 p2 = some v) : C E y_Mod_isBeside b_Mod_isBeside 3 (some .boolean) tg d 0 0 [.ref (e_b E + t), .int p1, .int p2] S I L R n (Kq (some (.int v)) S I L R n) := by
  refine C.of (o := [some (.ref (e_b E + t)), some (.int p1), some (.int p2)]) (by decide) rfl (Nat.le_of_ble_eq_true rfl) ?_
  rw [f_Mod_isBeside] at h
  refine X.iload_1 (pc := 0) (by decide +kernel) ?_
  refine X.aload_0 (pc := 1) (by decide +kernel) ?_
  refine X.getI (pc := 2) (k := 3) fw_Mod_34 (by decide +kernel) (fun _ => rfl) hS ?_
  refine X.nameI (fun x1 hx1 => ?_)
  have h := lt_at hx1 h
  obtain ⟨hz2, h⟩ := asrt_some h
  refine X.irem (pc := 5) hz2 (by decide +kernel) ?_
  refine X.iload_2 (pc := 6) (by decide +kernel) ?_
  refine X.aload_0 (pc := 7) (by decide +kernel) ?_
  refine X.getI (pc := 8) (k := 3) fw_Mod_34 (by decide +kernel) (fun _ => rfl) hS ?_
  refine X.nameI (fun x3 hx3 => ?_)
  have h := lt_at hx3 h
  obtain ⟨hz4, h⟩ := asrt_some h
  refine X.irem (pc := 11) hz4 (by decide +kernel) ?_
  refine X.isub (pc := 12) (by decide +kernel) ?_
  obtain ⟨x5, hv6, h⟩ := bnd1_some h
  refine X.callSi (pc := 13) (nc := 0) (ns := 0) (c_JMath_abs_I hE (dle hd (Nat.le_of_ble_eq_true rfl)) hv6) cv_Mod_399 (by decide +kernel) (ddd hd (Nat.le_of_ble_eq_true rfl)) rfl (Nat.le_of_ble_eq_true rfl) rfl rfl ?_
  refine X.iload_1 (pc := 16) (by decide +kernel) ?_
  refine X.aload_0 (pc := 17) (by decide +kernel) ?_
  refine X.getI (pc := 18) (k := 3) fw_Mod_34 (by decide +kernel) (fun _ => rfl) hS ?_
  refine X.nameI (fun x7 hx7 => ?_)
  have h := lt_at hx7 h
  obtain ⟨hz8, h⟩ := asrt_some h
  refine X.idiv (pc := 21) hz8 (by decide +kernel) ?_
  refine X.iload_2 (pc := 22) (by decide +kernel) ?_
  refine X.aload_0 (pc := 23) (by decide +kernel) ?_
  refine X.getI (pc := 24) (k := 3) fw_Mod_34 (by decide +kernel) (fun _ => rfl) hS ?_
  refine X.nameI (fun x9 hx9 => ?_)
  have h := lt_at hx9 h
  obtain ⟨hz10, h⟩ := asrt_some h
  refine X.idiv (pc := 27) hz10 (by decide +kernel) ?_
  refine X.isub (pc := 28) (by decide +kernel) ?_
  obtain ⟨x11, hv12, h⟩ := bnd1_some h
  refine X.callSi (pc := 29) (nc := 0) (ns := 0) (c_JMath_abs_I hE (dle hd (Nat.le_of_ble_eq_true rfl)) hv12) cv_Mod_399 (by decide +kernel) (ddd hd (Nat.le_of_ble_eq_true rfl)) rfl (Nat.le_of_ble_eq_true rfl) rfl rfl ?_
  refine X.iadd (pc := 32) (by decide +kernel) ?_
  refine X.iconst (pc := 33) (i := 1) (v := 1) ic_1 (by decide +kernel) ?_
  obtain ⟨y14, hr15, h⟩ := bnd1_some h
  have hj16 : X E y_Mod_isBeside b_Mod_isBeside 3 (some .boolean) tg d 0 0 42 [none, none, none] [.int y14] S I L R n (Kq (some (.int v)) S I L R n) := by
    obtain ⟨hb17, h⟩ := asrt_some h
    have j0 := Option.some.inj h
    subst j0
    exact X.ireturn (pc := 42) (by decide +kernel) ⟨_, rfl, nz01 hb17⟩ ⟨rfl, rfl, rfl, rfl, rfl, rfl⟩
  have h := hr15
  rcases ifb_some h with ⟨hq13, h⟩ | ⟨hq13, h⟩
  · refine X.icmp_gt_t (pc := 34) (off := 7) (tgt := 41) hq13 rfl (by decide +kernel) ?_
    refine X.iconst (pc := 41) (i := 0) (v := 0) ic_0 (by decide +kernel) ?_
    have j0 := Option.some.inj h
    subst j0
    refine X.fgt (o' := [none, none, none]) trivial ?_
    exact hj16
  · refine X.icmp_gt_f (pc := 34) (off := 7) (tgt := 41) hq13 rfl (by decide +kernel) ?_
    refine X.iconst (pc := 37) (i := 1) (v := 1) ic_1 (by decide +kernel) ?_
    refine X.goto (pc := 38) (off := 4) (tgt := 42) (by decide +kernel) rfl ?_
    have j0 := Option.some.inj h
    subst j0
    refine X.fgt (o' := [none, none, none]) trivial ?_
    exact hj16
set_option maxRecDepth 100000 in
noncomputable def f_Mod_print (S : MS) (R : MR) (I : MI) (t : Nat) (p1 : Int32) (p2 : Int32) : Option (Int32 × MI) :=
  lt (wI I t 0 0) fun (I1 : MI) =>
  bnd1 (f_Mod_isCell S I1 t p1) fun x2 =>
  ifb (x2 = 0)
    (some ((-1), I1))
    (ifb ((I1 t 42) = 12)
      (some ((-1), I1))
      (ifb ((I1 t 42) = 0)
        (bnd1 (f_Mod_in (Int32.toInt64 p2) 0 3) fun x7 =>
        ifb (x7 = 0)
          (some ((-1), I1))
          (ifb ((I1 t 42) ≤ 0)
            (bnd1 (ifb ((I1 t 42) = 0)
                (some p2)
                (some (I1 t 43))) fun (y12 : Int32) =>
            lt (wI I1 t 43 y12) fun (I15 : MI) =>
            bnd1 (R t 44) fun b16 =>
            asrt ((S b16).1 = 20) <|
            asrt (vp_in (I15 t 42) (S b16).2) <|
            lt (wI I15 b16 (Int32.toNatClampNeg (I15 t 42)) p1) fun (I19 : MI) =>
            lt ((I19 t 42) + 1) fun (x20 : Int32) =>
            lt (wI I19 t 42 x20) fun (I21 : MI) =>
            lt (I21 t 42) fun (x22 : Int32) =>
            some (x22, I21))
            (bnd1 (R t 44) fun b23 =>
            lt ((I1 t 42) - 1) fun (x24 : Int32) =>
            asrt ((S b23).1 = 20) <|
            asrt (vp_in x24 (S b23).2) <|
            bnd1 (f_Mod_isBeside S I1 t p1 (I1 b23 (Int32.toNatClampNeg x24))) fun x27 =>
            ifb (x27 = 0)
              (some ((-1), I1))
              (bnd1 (ifb ((I1 t 42) = 0)
                  (some p2)
                  (some (I1 t 43))) fun (y31 : Int32) =>
              lt (wI I1 t 43 y31) fun (I34 : MI) =>
              asrt (vp_in (I34 t 42) (S b23).2) <|
              lt (wI I34 b23 (Int32.toNatClampNeg (I34 t 42)) p1) fun (I36 : MI) =>
              lt ((I36 t 42) + 1) fun (x37 : Int32) =>
              lt (wI I36 t 42 x37) fun (I38 : MI) =>
              lt (I38 t 42) fun (x39 : Int32) =>
              some (x39, I38)))))
        (ifb ((I1 t 42) ≤ 0)
          (bnd1 (ifb ((I1 t 42) = 0)
              (some p2)
              (some (I1 t 43))) fun (y42 : Int32) =>
          lt (wI I1 t 43 y42) fun (I45 : MI) =>
          bnd1 (R t 44) fun b46 =>
          asrt ((S b46).1 = 20) <|
          asrt (vp_in (I45 t 42) (S b46).2) <|
          lt (wI I45 b46 (Int32.toNatClampNeg (I45 t 42)) p1) fun (I49 : MI) =>
          lt ((I49 t 42) + 1) fun (x50 : Int32) =>
          lt (wI I49 t 42 x50) fun (I51 : MI) =>
          lt (I51 t 42) fun (x52 : Int32) =>
          some (x52, I51))
          (bnd1 (R t 44) fun b53 =>
          lt ((I1 t 42) - 1) fun (x54 : Int32) =>
          asrt ((S b53).1 = 20) <|
          asrt (vp_in x54 (S b53).2) <|
          bnd1 (f_Mod_isBeside S I1 t p1 (I1 b53 (Int32.toNatClampNeg x54))) fun x57 =>
          ifb (x57 = 0)
            (some ((-1), I1))
            (bnd1 (ifb ((I1 t 42) = 0)
                (some p2)
                (some (I1 t 43))) fun (y61 : Int32) =>
            lt (wI I1 t 43 y61) fun (I64 : MI) =>
            asrt (vp_in (I64 t 42) (S b53).2) <|
            lt (wI I64 b53 (Int32.toNatClampNeg (I64 t 42)) p1) fun (I66 : MI) =>
            lt ((I66 t 42) + 1) fun (x67 : Int32) =>
            lt (wI I66 t 42 x67) fun (I68 : MI) =>
            lt (I68 t 42) fun (x69 : Int32) =>
            some (x69, I68))))))
set_option maxRecDepth 100000 in
set_option maxHeartbeats 4000000 in
theorem c_Mod_print {E : Env} (hE : OKE E) {tg : Bool} {d : Nat} (hd : 2 ≤ d) {S : MS} {I : MI} {L : ML} {R : MR} {n : Nat} {t : Nat} {p1 : Int32} {p2 : Int32} {v : Int32} {I' : MI} (hS : (S t).1 = 12) (h : f_Mod_print S R I t p1 p2 = some (v, I')) : C E y_Mod_print b_Mod_print 3 (some .int) tg d 0 0 [.ref (e_b E + t), .int p1, .int p2] S I L R n (Kq (some (.int v)) S I' L R n) := by
  refine C.of (o := [some (.ref (e_b E + t)), some (.int p1), some (.int p2)]) (by decide) rfl (Nat.le_of_ble_eq_true rfl) ?_
  rw [f_Mod_print] at h
  refine X.aload_0 (pc := 0) (by decide +kernel) ?_
  refine X.iconst (pc := 1) (i := 0) (v := 0) ic_0 (by decide +kernel) ?_
  refine X.putI (pc := 2) (k := 0) fw_Mod_3 (by decide +kernel) rfl rfl hS ?_
  refine X.nameMI (fun I1 hI1 => ?_)
  have h := lt_at hI1 h
  refine X.aload_0 (pc := 5) (by decide +kernel) ?_
  refine X.iload_1 (pc := 6) (by decide +kernel) ?_
  obtain ⟨x2, hv3, h⟩ := bnd1_some h
  refine X.callVi (pc := 7) (nc := 0) (ns := 0) (c_Mod_isCell hE (dle hd (Nat.le_of_ble_eq_true rfl)) hS hv3) cv_Mod_236 (by decide +kernel) hS ⟨by decide, rfl⟩ (ddd hd (Nat.le_of_ble_eq_true rfl)) rfl (Nat.le_of_ble_eq_true rfl) rfl rfl ?_
  rcases ifb_some h with ⟨hq4, h⟩ | ⟨hq4, h⟩
  · refine X.if_eq_t (pc := 10) (off := 12) (tgt := 22) hq4 rfl (by decide +kernel) ?_
    refine X.iconst (pc := 22) (i := (-1)) (v := (-1)) ic_m1 (by decide +kernel) ?_
    have j0 := Option.some.inj h
    obtain ⟨i0, j1⟩ := Prod.mk.inj j0
    subst i0
    subst j1
    exact X.ireturn (pc := 23) (by decide +kernel) ⟨_, rfl, rfl⟩ ⟨rfl, rfl, rfl, rfl, rfl, rfl⟩
  · refine X.if_eq_f (pc := 10) (off := 12) (tgt := 22) hq4 rfl (by decide +kernel) ?_
    refine X.aload_0 (pc := 13) (by decide +kernel) ?_
    refine X.getI (pc := 14) (k := 42) fw_Mod_198 (by decide +kernel) (fun _ => rfl) hS ?_
    refine X.bipush (pc := 17) (i := 12) (v := 12) bp_12 (by decide +kernel) ?_
    rcases ifb_some h with ⟨hq5, h⟩ | ⟨hq5, h⟩
    · refine X.icmp_ne_f (pc := 19) (off := 5) (tgt := 24) hq5 rfl (by decide +kernel) ?_
      refine X.iconst (pc := 22) (i := (-1)) (v := (-1)) ic_m1 (by decide +kernel) ?_
      have j0 := Option.some.inj h
      obtain ⟨i0, j1⟩ := Prod.mk.inj j0
      subst i0
      subst j1
      exact X.ireturn (pc := 23) (by decide +kernel) ⟨_, rfl, rfl⟩ ⟨rfl, rfl, rfl, rfl, rfl, rfl⟩
    · refine X.icmp_ne_t (pc := 19) (off := 5) (tgt := 24) hq5 rfl (by decide +kernel) ?_
      refine X.aload_0 (pc := 24) (by decide +kernel) ?_
      refine X.getI (pc := 25) (k := 42) fw_Mod_198 (by decide +kernel) (fun _ => rfl) hS ?_
      rcases ifb_some h with ⟨hq6, h⟩ | ⟨hq6, h⟩
      · refine X.if_ne_f (pc := 28) (off := 17) (tgt := 45) hq6 rfl (by decide +kernel) ?_
        refine X.iload_2 (pc := 31) (by decide +kernel) ?_
        refine X.i2l (pc := 32) (by decide +kernel) ?_
        refine X.lconst (pc := 33) (i := 0) (v := 0) rfl (by decide +kernel) ?_
        refine X.ldc2 (pc := 34) (x := 239) (v := 3) ld_Mod_239 (by decide +kernel) ?_
        obtain ⟨x7, hv8, h⟩ := bnd1_some h
        refine X.callSi (pc := 37) (nc := 0) (ns := 0) (c_Mod_in hE (dle hd (Nat.le_of_ble_eq_true rfl)) hv8) cv_Mod_151 (by decide +kernel) (ddd hd (Nat.le_of_ble_eq_true rfl)) rfl (Nat.le_of_ble_eq_true rfl) rfl rfl ?_
        rcases ifb_some h with ⟨hq9, h⟩ | ⟨hq9, h⟩
        · refine X.if_ne_f (pc := 40) (off := 5) (tgt := 45) hq9 rfl (by decide +kernel) ?_
          refine X.iconst (pc := 43) (i := (-1)) (v := (-1)) ic_m1 (by decide +kernel) ?_
          have j0 := Option.some.inj h
          obtain ⟨i0, j1⟩ := Prod.mk.inj j0
          subst i0
          subst j1
          exact X.ireturn (pc := 44) (by decide +kernel) ⟨_, rfl, rfl⟩ ⟨rfl, rfl, rfl, rfl, rfl, rfl⟩
        · refine X.if_ne_t (pc := 40) (off := 5) (tgt := 45) hq9 rfl (by decide +kernel) ?_
          refine X.aload_0 (pc := 45) (by decide +kernel) ?_
          refine X.getI (pc := 46) (k := 42) fw_Mod_198 (by decide +kernel) (fun _ => rfl) hS ?_
          rcases ifb_some h with ⟨hq10, h⟩ | ⟨hq10, h⟩
          · refine X.if_le_t (pc := 49) (off := 24) (tgt := 73) hq10 rfl (by decide +kernel) ?_
            refine X.aload_0 (pc := 73) (by decide +kernel) ?_
            refine X.aload_0 (pc := 74) (by decide +kernel) ?_
            refine X.getI (pc := 75) (k := 42) fw_Mod_198 (by decide +kernel) (fun _ => rfl) hS ?_
            obtain ⟨y12, hr13, h⟩ := bnd1_some h
            have hj14 : X E y_Mod_print b_Mod_print 3 (some .int) tg d 0 0 89 [some (.ref (e_b E + t)), some (.int p1), none] [.int y12, .ref (e_b E + t)] S I1 L R n (Kq (some (.int v)) S I' L R n) := by
              refine X.putI (pc := 89) (k := 43) fw_Mod_404 (by decide +kernel) rfl rfl hS ?_
              refine X.nameMI (fun I15 hI15 => ?_)
              have h := lt_at hI15 h
              refine X.aload_0 (pc := 92) (by decide +kernel) ?_
              obtain ⟨b16, hb16, h⟩ := bnd1_some h
              refine X.getR (pc := 93) (k := 44) fw_Mod_117 (by decide +kernel) (fun _ => rfl) hS hb16 ?_
              refine X.aload_0 (pc := 96) (by decide +kernel) ?_
              refine X.getI (pc := 97) (k := 42) fw_Mod_198 (by decide +kernel) (fun _ => rfl) hS ?_
              refine X.iload_1 (pc := 100) (by decide +kernel) ?_
              obtain ⟨hc17, h⟩ := asrt_some h
              obtain ⟨hi18, h⟩ := asrt_some h
              refine X.iastore (pc := 101) (by decide +kernel) hc17 hi18 ?_
              refine X.nameMI (fun I19 hI19 => ?_)
              have h := lt_at hI19 h
              refine X.aload_0 (pc := 102) (by decide +kernel) ?_
              refine X.dupr (pc := 103) (by decide +kernel) ?_
              refine X.getI (pc := 104) (k := 42) fw_Mod_198 (by decide +kernel) (fun _ => rfl) hS ?_
              refine X.iconst (pc := 107) (i := 1) (v := 1) ic_1 (by decide +kernel) ?_
              refine X.iadd (pc := 108) (by decide +kernel) ?_
              refine X.nameI (fun x20 hx20 => ?_)
              have h := lt_at hx20 h
              refine X.putI (pc := 109) (k := 42) fw_Mod_198 (by decide +kernel) rfl rfl hS ?_
              refine X.nameMI (fun I21 hI21 => ?_)
              have h := lt_at hI21 h
              refine X.aload_0 (pc := 112) (by decide +kernel) ?_
              refine X.getI (pc := 113) (k := 42) fw_Mod_198 (by decide +kernel) (fun _ => rfl) hS ?_
              refine X.nameI (fun x22 hx22 => ?_)
              have h := lt_at hx22 h
              have j0 := Option.some.inj h
              obtain ⟨i0, j1⟩ := Prod.mk.inj j0
              subst i0
              subst j1
              exact X.ireturn (pc := 116) (by decide +kernel) ⟨_, rfl, rfl⟩ ⟨rfl, rfl, rfl, rfl, rfl, rfl⟩
            have h := hr13
            rcases ifb_some h with ⟨hq11, h⟩ | ⟨hq11, h⟩
            · refine X.if_ne_f (pc := 78) (off := 7) (tgt := 85) hq11 rfl (by decide +kernel) ?_
              refine X.iload_2 (pc := 81) (by decide +kernel) ?_
              refine X.goto (pc := 82) (off := 7) (tgt := 89) (by decide +kernel) rfl ?_
              have j0 := Option.some.inj h
              subst j0
              refine X.fgt (o' := [some (.ref (e_b E + t)), some (.int p1), none]) ⟨rfl, ⟨rfl, trivial⟩⟩ ?_
              exact hj14
            · refine X.if_ne_t (pc := 78) (off := 7) (tgt := 85) hq11 rfl (by decide +kernel) ?_
              refine X.aload_0 (pc := 85) (by decide +kernel) ?_
              refine X.getI (pc := 86) (k := 43) fw_Mod_404 (by decide +kernel) (fun _ => rfl) hS ?_
              have j0 := Option.some.inj h
              subst j0
              refine X.fgt (o' := [some (.ref (e_b E + t)), some (.int p1), none]) ⟨rfl, ⟨rfl, trivial⟩⟩ ?_
              exact hj14
          · refine X.if_le_f (pc := 49) (off := 24) (tgt := 73) hq10 rfl (by decide +kernel) ?_
            refine X.aload_0 (pc := 52) (by decide +kernel) ?_
            refine X.iload_1 (pc := 53) (by decide +kernel) ?_
            refine X.aload_0 (pc := 54) (by decide +kernel) ?_
            obtain ⟨b23, hb23, h⟩ := bnd1_some h
            refine X.getR (pc := 55) (k := 44) fw_Mod_117 (by decide +kernel) (fun _ => rfl) hS hb23 ?_
            refine X.aload_0 (pc := 58) (by decide +kernel) ?_
            refine X.getI (pc := 59) (k := 42) fw_Mod_198 (by decide +kernel) (fun _ => rfl) hS ?_
            refine X.iconst (pc := 62) (i := 1) (v := 1) ic_1 (by decide +kernel) ?_
            refine X.isub (pc := 63) (by decide +kernel) ?_
            refine X.nameI (fun x24 hx24 => ?_)
            have h := lt_at hx24 h
            obtain ⟨hc26, h⟩ := asrt_some h
            obtain ⟨hi25, h⟩ := asrt_some h
            refine X.iaload (pc := 64) (by decide +kernel) hc26 hi25 ?_
            obtain ⟨x27, hv28, h⟩ := bnd1_some h
            refine X.callVi (pc := 65) (nc := 0) (ns := 0) (c_Mod_isBeside hE (dle hd (Nat.le_of_ble_eq_true rfl)) hS hv28) cv_Mod_401 (by decide +kernel) hS ⟨by decide, rfl⟩ (ddd hd (Nat.le_of_ble_eq_true rfl)) rfl (Nat.le_of_ble_eq_true rfl) rfl rfl ?_
            rcases ifb_some h with ⟨hq29, h⟩ | ⟨hq29, h⟩
            · refine X.if_ne_f (pc := 68) (off := 5) (tgt := 73) hq29 rfl (by decide +kernel) ?_
              refine X.iconst (pc := 71) (i := (-1)) (v := (-1)) ic_m1 (by decide +kernel) ?_
              have j0 := Option.some.inj h
              obtain ⟨i0, j1⟩ := Prod.mk.inj j0
              subst i0
              subst j1
              exact X.ireturn (pc := 72) (by decide +kernel) ⟨_, rfl, rfl⟩ ⟨rfl, rfl, rfl, rfl, rfl, rfl⟩
            · refine X.if_ne_t (pc := 68) (off := 5) (tgt := 73) hq29 rfl (by decide +kernel) ?_
              refine X.aload_0 (pc := 73) (by decide +kernel) ?_
              refine X.aload_0 (pc := 74) (by decide +kernel) ?_
              refine X.getI (pc := 75) (k := 42) fw_Mod_198 (by decide +kernel) (fun _ => rfl) hS ?_
              obtain ⟨y31, hr32, h⟩ := bnd1_some h
              have hj33 : X E y_Mod_print b_Mod_print 3 (some .int) tg d 0 0 89 [some (.ref (e_b E + t)), some (.int p1), none] [.int y31, .ref (e_b E + t)] S I1 L R n (Kq (some (.int v)) S I' L R n) := by
                refine X.putI (pc := 89) (k := 43) fw_Mod_404 (by decide +kernel) rfl rfl hS ?_
                refine X.nameMI (fun I34 hI34 => ?_)
                have h := lt_at hI34 h
                refine X.aload_0 (pc := 92) (by decide +kernel) ?_
                refine X.getR (pc := 93) (k := 44) fw_Mod_117 (by decide +kernel) (fun _ => rfl) hS hb23 ?_
                refine X.aload_0 (pc := 96) (by decide +kernel) ?_
                refine X.getI (pc := 97) (k := 42) fw_Mod_198 (by decide +kernel) (fun _ => rfl) hS ?_
                refine X.iload_1 (pc := 100) (by decide +kernel) ?_
                obtain ⟨hi35, h⟩ := asrt_some h
                refine X.iastore (pc := 101) (by decide +kernel) hc26 hi35 ?_
                refine X.nameMI (fun I36 hI36 => ?_)
                have h := lt_at hI36 h
                refine X.aload_0 (pc := 102) (by decide +kernel) ?_
                refine X.dupr (pc := 103) (by decide +kernel) ?_
                refine X.getI (pc := 104) (k := 42) fw_Mod_198 (by decide +kernel) (fun _ => rfl) hS ?_
                refine X.iconst (pc := 107) (i := 1) (v := 1) ic_1 (by decide +kernel) ?_
                refine X.iadd (pc := 108) (by decide +kernel) ?_
                refine X.nameI (fun x37 hx37 => ?_)
                have h := lt_at hx37 h
                refine X.putI (pc := 109) (k := 42) fw_Mod_198 (by decide +kernel) rfl rfl hS ?_
                refine X.nameMI (fun I38 hI38 => ?_)
                have h := lt_at hI38 h
                refine X.aload_0 (pc := 112) (by decide +kernel) ?_
                refine X.getI (pc := 113) (k := 42) fw_Mod_198 (by decide +kernel) (fun _ => rfl) hS ?_
                refine X.nameI (fun x39 hx39 => ?_)
                have h := lt_at hx39 h
                have j0 := Option.some.inj h
                obtain ⟨i0, j1⟩ := Prod.mk.inj j0
                subst i0
                subst j1
                exact X.ireturn (pc := 116) (by decide +kernel) ⟨_, rfl, rfl⟩ ⟨rfl, rfl, rfl, rfl, rfl, rfl⟩
              have h := hr32
              rcases ifb_some h with ⟨hq30, h⟩ | ⟨hq30, h⟩
              · refine X.if_ne_f (pc := 78) (off := 7) (tgt := 85) hq30 rfl (by decide +kernel) ?_
                refine X.iload_2 (pc := 81) (by decide +kernel) ?_
                refine X.goto (pc := 82) (off := 7) (tgt := 89) (by decide +kernel) rfl ?_
                have j0 := Option.some.inj h
                subst j0
                refine X.fgt (o' := [some (.ref (e_b E + t)), some (.int p1), none]) ⟨rfl, ⟨rfl, trivial⟩⟩ ?_
                exact hj33
              · refine X.if_ne_t (pc := 78) (off := 7) (tgt := 85) hq30 rfl (by decide +kernel) ?_
                refine X.aload_0 (pc := 85) (by decide +kernel) ?_
                refine X.getI (pc := 86) (k := 43) fw_Mod_404 (by decide +kernel) (fun _ => rfl) hS ?_
                have j0 := Option.some.inj h
                subst j0
                refine X.fgt (o' := [some (.ref (e_b E + t)), some (.int p1), none]) ⟨rfl, ⟨rfl, trivial⟩⟩ ?_
                exact hj33
      · refine X.if_ne_t (pc := 28) (off := 17) (tgt := 45) hq6 rfl (by decide +kernel) ?_
        refine X.aload_0 (pc := 45) (by decide +kernel) ?_
        refine X.getI (pc := 46) (k := 42) fw_Mod_198 (by decide +kernel) (fun _ => rfl) hS ?_
        rcases ifb_some h with ⟨hq40, h⟩ | ⟨hq40, h⟩
        · refine X.if_le_t (pc := 49) (off := 24) (tgt := 73) hq40 rfl (by decide +kernel) ?_
          refine X.aload_0 (pc := 73) (by decide +kernel) ?_
          refine X.aload_0 (pc := 74) (by decide +kernel) ?_
          refine X.getI (pc := 75) (k := 42) fw_Mod_198 (by decide +kernel) (fun _ => rfl) hS ?_
          obtain ⟨y42, hr43, h⟩ := bnd1_some h
          have hj44 : X E y_Mod_print b_Mod_print 3 (some .int) tg d 0 0 89 [some (.ref (e_b E + t)), some (.int p1), none] [.int y42, .ref (e_b E + t)] S I1 L R n (Kq (some (.int v)) S I' L R n) := by
            refine X.putI (pc := 89) (k := 43) fw_Mod_404 (by decide +kernel) rfl rfl hS ?_
            refine X.nameMI (fun I45 hI45 => ?_)
            have h := lt_at hI45 h
            refine X.aload_0 (pc := 92) (by decide +kernel) ?_
            obtain ⟨b46, hb46, h⟩ := bnd1_some h
            refine X.getR (pc := 93) (k := 44) fw_Mod_117 (by decide +kernel) (fun _ => rfl) hS hb46 ?_
            refine X.aload_0 (pc := 96) (by decide +kernel) ?_
            refine X.getI (pc := 97) (k := 42) fw_Mod_198 (by decide +kernel) (fun _ => rfl) hS ?_
            refine X.iload_1 (pc := 100) (by decide +kernel) ?_
            obtain ⟨hc47, h⟩ := asrt_some h
            obtain ⟨hi48, h⟩ := asrt_some h
            refine X.iastore (pc := 101) (by decide +kernel) hc47 hi48 ?_
            refine X.nameMI (fun I49 hI49 => ?_)
            have h := lt_at hI49 h
            refine X.aload_0 (pc := 102) (by decide +kernel) ?_
            refine X.dupr (pc := 103) (by decide +kernel) ?_
            refine X.getI (pc := 104) (k := 42) fw_Mod_198 (by decide +kernel) (fun _ => rfl) hS ?_
            refine X.iconst (pc := 107) (i := 1) (v := 1) ic_1 (by decide +kernel) ?_
            refine X.iadd (pc := 108) (by decide +kernel) ?_
            refine X.nameI (fun x50 hx50 => ?_)
            have h := lt_at hx50 h
            refine X.putI (pc := 109) (k := 42) fw_Mod_198 (by decide +kernel) rfl rfl hS ?_
            refine X.nameMI (fun I51 hI51 => ?_)
            have h := lt_at hI51 h
            refine X.aload_0 (pc := 112) (by decide +kernel) ?_
            refine X.getI (pc := 113) (k := 42) fw_Mod_198 (by decide +kernel) (fun _ => rfl) hS ?_
            refine X.nameI (fun x52 hx52 => ?_)
            have h := lt_at hx52 h
            have j0 := Option.some.inj h
            obtain ⟨i0, j1⟩ := Prod.mk.inj j0
            subst i0
            subst j1
            exact X.ireturn (pc := 116) (by decide +kernel) ⟨_, rfl, rfl⟩ ⟨rfl, rfl, rfl, rfl, rfl, rfl⟩
          have h := hr43
          rcases ifb_some h with ⟨hq41, h⟩ | ⟨hq41, h⟩
          · refine X.if_ne_f (pc := 78) (off := 7) (tgt := 85) hq41 rfl (by decide +kernel) ?_
            refine X.iload_2 (pc := 81) (by decide +kernel) ?_
            refine X.goto (pc := 82) (off := 7) (tgt := 89) (by decide +kernel) rfl ?_
            have j0 := Option.some.inj h
            subst j0
            refine X.fgt (o' := [some (.ref (e_b E + t)), some (.int p1), none]) ⟨rfl, ⟨rfl, trivial⟩⟩ ?_
            exact hj44
          · refine X.if_ne_t (pc := 78) (off := 7) (tgt := 85) hq41 rfl (by decide +kernel) ?_
            refine X.aload_0 (pc := 85) (by decide +kernel) ?_
            refine X.getI (pc := 86) (k := 43) fw_Mod_404 (by decide +kernel) (fun _ => rfl) hS ?_
            have j0 := Option.some.inj h
            subst j0
            refine X.fgt (o' := [some (.ref (e_b E + t)), some (.int p1), none]) ⟨rfl, ⟨rfl, trivial⟩⟩ ?_
            exact hj44
        · refine X.if_le_f (pc := 49) (off := 24) (tgt := 73) hq40 rfl (by decide +kernel) ?_
          refine X.aload_0 (pc := 52) (by decide +kernel) ?_
          refine X.iload_1 (pc := 53) (by decide +kernel) ?_
          refine X.aload_0 (pc := 54) (by decide +kernel) ?_
          obtain ⟨b53, hb53, h⟩ := bnd1_some h
          refine X.getR (pc := 55) (k := 44) fw_Mod_117 (by decide +kernel) (fun _ => rfl) hS hb53 ?_
          refine X.aload_0 (pc := 58) (by decide +kernel) ?_
          refine X.getI (pc := 59) (k := 42) fw_Mod_198 (by decide +kernel) (fun _ => rfl) hS ?_
          refine X.iconst (pc := 62) (i := 1) (v := 1) ic_1 (by decide +kernel) ?_
          refine X.isub (pc := 63) (by decide +kernel) ?_
          refine X.nameI (fun x54 hx54 => ?_)
          have h := lt_at hx54 h
          obtain ⟨hc56, h⟩ := asrt_some h
          obtain ⟨hi55, h⟩ := asrt_some h
          refine X.iaload (pc := 64) (by decide +kernel) hc56 hi55 ?_
          obtain ⟨x57, hv58, h⟩ := bnd1_some h
          refine X.callVi (pc := 65) (nc := 0) (ns := 0) (c_Mod_isBeside hE (dle hd (Nat.le_of_ble_eq_true rfl)) hS hv58) cv_Mod_401 (by decide +kernel) hS ⟨by decide, rfl⟩ (ddd hd (Nat.le_of_ble_eq_true rfl)) rfl (Nat.le_of_ble_eq_true rfl) rfl rfl ?_
          rcases ifb_some h with ⟨hq59, h⟩ | ⟨hq59, h⟩
          · refine X.if_ne_f (pc := 68) (off := 5) (tgt := 73) hq59 rfl (by decide +kernel) ?_
            refine X.iconst (pc := 71) (i := (-1)) (v := (-1)) ic_m1 (by decide +kernel) ?_
            have j0 := Option.some.inj h
            obtain ⟨i0, j1⟩ := Prod.mk.inj j0
            subst i0
            subst j1
            exact X.ireturn (pc := 72) (by decide +kernel) ⟨_, rfl, rfl⟩ ⟨rfl, rfl, rfl, rfl, rfl, rfl⟩
          · refine X.if_ne_t (pc := 68) (off := 5) (tgt := 73) hq59 rfl (by decide +kernel) ?_
            refine X.aload_0 (pc := 73) (by decide +kernel) ?_
            refine X.aload_0 (pc := 74) (by decide +kernel) ?_
            refine X.getI (pc := 75) (k := 42) fw_Mod_198 (by decide +kernel) (fun _ => rfl) hS ?_
            obtain ⟨y61, hr62, h⟩ := bnd1_some h
            have hj63 : X E y_Mod_print b_Mod_print 3 (some .int) tg d 0 0 89 [some (.ref (e_b E + t)), some (.int p1), none] [.int y61, .ref (e_b E + t)] S I1 L R n (Kq (some (.int v)) S I' L R n) := by
              refine X.putI (pc := 89) (k := 43) fw_Mod_404 (by decide +kernel) rfl rfl hS ?_
              refine X.nameMI (fun I64 hI64 => ?_)
              have h := lt_at hI64 h
              refine X.aload_0 (pc := 92) (by decide +kernel) ?_
              refine X.getR (pc := 93) (k := 44) fw_Mod_117 (by decide +kernel) (fun _ => rfl) hS hb53 ?_
              refine X.aload_0 (pc := 96) (by decide +kernel) ?_
              refine X.getI (pc := 97) (k := 42) fw_Mod_198 (by decide +kernel) (fun _ => rfl) hS ?_
              refine X.iload_1 (pc := 100) (by decide +kernel) ?_
              obtain ⟨hi65, h⟩ := asrt_some h
              refine X.iastore (pc := 101) (by decide +kernel) hc56 hi65 ?_
              refine X.nameMI (fun I66 hI66 => ?_)
              have h := lt_at hI66 h
              refine X.aload_0 (pc := 102) (by decide +kernel) ?_
              refine X.dupr (pc := 103) (by decide +kernel) ?_
              refine X.getI (pc := 104) (k := 42) fw_Mod_198 (by decide +kernel) (fun _ => rfl) hS ?_
              refine X.iconst (pc := 107) (i := 1) (v := 1) ic_1 (by decide +kernel) ?_
              refine X.iadd (pc := 108) (by decide +kernel) ?_
              refine X.nameI (fun x67 hx67 => ?_)
              have h := lt_at hx67 h
              refine X.putI (pc := 109) (k := 42) fw_Mod_198 (by decide +kernel) rfl rfl hS ?_
              refine X.nameMI (fun I68 hI68 => ?_)
              have h := lt_at hI68 h
              refine X.aload_0 (pc := 112) (by decide +kernel) ?_
              refine X.getI (pc := 113) (k := 42) fw_Mod_198 (by decide +kernel) (fun _ => rfl) hS ?_
              refine X.nameI (fun x69 hx69 => ?_)
              have h := lt_at hx69 h
              have j0 := Option.some.inj h
              obtain ⟨i0, j1⟩ := Prod.mk.inj j0
              subst i0
              subst j1
              exact X.ireturn (pc := 116) (by decide +kernel) ⟨_, rfl, rfl⟩ ⟨rfl, rfl, rfl, rfl, rfl, rfl⟩
            have h := hr62
            rcases ifb_some h with ⟨hq60, h⟩ | ⟨hq60, h⟩
            · refine X.if_ne_f (pc := 78) (off := 7) (tgt := 85) hq60 rfl (by decide +kernel) ?_
              refine X.iload_2 (pc := 81) (by decide +kernel) ?_
              refine X.goto (pc := 82) (off := 7) (tgt := 89) (by decide +kernel) rfl ?_
              have j0 := Option.some.inj h
              subst j0
              refine X.fgt (o' := [some (.ref (e_b E + t)), some (.int p1), none]) ⟨rfl, ⟨rfl, trivial⟩⟩ ?_
              exact hj63
            · refine X.if_ne_t (pc := 78) (off := 7) (tgt := 85) hq60 rfl (by decide +kernel) ?_
              refine X.aload_0 (pc := 85) (by decide +kernel) ?_
              refine X.getI (pc := 86) (k := 43) fw_Mod_404 (by decide +kernel) (fun _ => rfl) hS ?_
              have j0 := Option.some.inj h
              subst j0
              refine X.fgt (o' := [some (.ref (e_b E + t)), some (.int p1), none]) ⟨rfl, ⟨rfl, trivial⟩⟩ ?_
              exact hj63
set_option maxRecDepth 100000 in
noncomputable def f_Mod_wipe (S : MS) (I : MI) (t : Nat) : Option (Int32 × MI) :=
  lt (wI I t 0 0) fun (I1 : MI) =>
  lt (I1 t 42) fun (x2 : Int32) =>
  lt (wI I1 t 42 0) fun (I3 : MI) =>
  some (x2, I3)
set_option maxRecDepth 100000 in
set_option maxHeartbeats 4000000 in
theorem c_Mod_wipe {E : Env} (hE : OKE E) {tg : Bool} {d : Nat} (hd : 0 ≤ d) {S : MS} {I : MI} {L : ML} {R : MR} {n : Nat} {t : Nat} {v : Int32} {I' : MI} (hS : (S t).1 = 12) (h : f_Mod_wipe S I t = some (v, I')) : C E y_Mod_wipe b_Mod_wipe 2 (some .int) tg d 0 0 [.ref (e_b E + t)] S I L R n (Kq (some (.int v)) S I' L R n) := by
  refine C.of (o := [some (.ref (e_b E + t)), none]) (by decide) rfl (Nat.le_of_ble_eq_true rfl) ?_
  rw [f_Mod_wipe] at h
  refine X.aload_0 (pc := 0) (by decide +kernel) ?_
  refine X.iconst (pc := 1) (i := 0) (v := 0) ic_0 (by decide +kernel) ?_
  refine X.putI (pc := 2) (k := 0) fw_Mod_3 (by decide +kernel) rfl rfl hS ?_
  refine X.nameMI (fun I1 hI1 => ?_)
  have h := lt_at hI1 h
  refine X.aload_0 (pc := 5) (by decide +kernel) ?_
  refine X.getI (pc := 6) (k := 42) fw_Mod_198 (by decide +kernel) (fun _ => rfl) hS ?_
  refine X.nameI (fun x2 hx2 => ?_)
  have h := lt_at hx2 h
  refine X.istore_1 (pc := 9) (by decide +kernel) (by decide) rfl ?_
  refine X.aload_0 (pc := 10) (by decide +kernel) ?_
  refine X.iconst (pc := 11) (i := 0) (v := 0) ic_0 (by decide +kernel) ?_
  refine X.putI (pc := 12) (k := 42) fw_Mod_198 (by decide +kernel) rfl rfl hS ?_
  refine X.nameMI (fun I3 hI3 => ?_)
  have h := lt_at hI3 h
  refine X.iload_1 (pc := 15) (by decide +kernel) ?_
  have j0 := Option.some.inj h
  obtain ⟨i0, j1⟩ := Prod.mk.inj j0
  subst i0
  subst j1
  exact X.ireturn (pc := 16) (by decide +kernel) ⟨_, rfl, rfl⟩ ⟨rfl, rfl, rfl, rfl, rfl, rfl⟩
set_option maxRecDepth 100000 in
noncomputable def f_Mod_leads (S : MS) (R : MR) (I : MI) (t : Nat) (p1 : Int32) (p2 : Int32) (p3 : Int32) : Option Int32 :=
  bnd1 (R t 44) fun b1 =>
  asrt ((S b1).1 = 20) <|
  asrt (vp_in p1 (S b1).2) <|
  bnd1 (f_Mod_isEnd S R I t (I b1 (Int32.toNatClampNeg p1))) fun x4 =>
  bnd1 (ifb (x4 = 0)
      (asrt (vp_in p1 (S b1).2) <|
      bnd1 (f_Mod_turned p2 p3) fun x11 =>
      bnd1 (f_Mod_cellBy S R I t (I b1 (Int32.toNatClampNeg p1)) x11) fun x13 =>
      lt (p1 + 1) fun (x15 : Int32) =>
      asrt (vp_in x15 (S b1).2) <|
      ifb (x13 = (I b1 (Int32.toNatClampNeg x15)))
        (some 1)
        (some 0))
      (some 0)) fun (y7 : Int32) =>
  asrt (y7 = 0 ∨ y7 = 1) <|
  some y7
set_option maxRecDepth 100000 in
set_option maxHeartbeats 4000000 in
theorem c_Mod_leads {E : Env} (hE : OKE E) {tg : Bool} {d : Nat} (hd : 2 ≤ d) {S : MS} {I : MI} {L : ML} {R : MR} {n : Nat} {t : Nat} {p1 : Int32} {p2 : Int32} {p3 : Int32} {v : Int32} (hS : (S t).1 = 12) (h : f_Mod_leads S R I t p1 p2 p3 = some v) : C E y_Mod_leads b_Mod_leads 4 (some .boolean) tg d 0 0 [.ref (e_b E + t), .int p1, .int p2, .int p3] S I L R n (Kq (some (.int v)) S I L R n) := by
  refine C.of (o := [some (.ref (e_b E + t)), some (.int p1), some (.int p2), some (.int p3)]) (by decide) rfl (Nat.le_of_ble_eq_true rfl) ?_
  rw [f_Mod_leads] at h
  refine X.aload_0 (pc := 0) (by decide +kernel) ?_
  refine X.aload_0 (pc := 1) (by decide +kernel) ?_
  obtain ⟨b1, hb1, h⟩ := bnd1_some h
  refine X.getR (pc := 2) (k := 44) fw_Mod_117 (by decide +kernel) (fun _ => rfl) hS hb1 ?_
  refine X.iload_1 (pc := 5) (by decide +kernel) ?_
  obtain ⟨hc3, h⟩ := asrt_some h
  obtain ⟨hi2, h⟩ := asrt_some h
  refine X.iaload (pc := 6) (by decide +kernel) hc3 hi2 ?_
  obtain ⟨x4, hv5, h⟩ := bnd1_some h
  refine X.callVi (pc := 7) (nc := 0) (ns := 0) (c_Mod_isEnd hE (dle hd (Nat.le_of_ble_eq_true rfl)) hS hv5) cv_Mod_264 (by decide +kernel) hS ⟨by decide, rfl⟩ (ddd hd (Nat.le_of_ble_eq_true rfl)) rfl (Nat.le_of_ble_eq_true rfl) rfl rfl ?_
  obtain ⟨y7, hr8, h⟩ := bnd1_some h
  have hj9 : X E y_Mod_leads b_Mod_leads 4 (some .boolean) tg d 0 0 44 [none, none, none, none] [.int y7] S I L R n (Kq (some (.int v)) S I L R n) := by
    obtain ⟨hb18, h⟩ := asrt_some h
    have j0 := Option.some.inj h
    subst j0
    exact X.ireturn (pc := 44) (by decide +kernel) ⟨_, rfl, nz01 hb18⟩ ⟨rfl, rfl, rfl, rfl, rfl, rfl⟩
  have h := hr8
  rcases ifb_some h with ⟨hq6, h⟩ | ⟨hq6, h⟩
  · refine X.if_ne_f (pc := 10) (off := 33) (tgt := 43) hq6 rfl (by decide +kernel) ?_
    refine X.aload_0 (pc := 13) (by decide +kernel) ?_
    refine X.aload_0 (pc := 14) (by decide +kernel) ?_
    refine X.getR (pc := 15) (k := 44) fw_Mod_117 (by decide +kernel) (fun _ => rfl) hS hb1 ?_
    refine X.iload_1 (pc := 18) (by decide +kernel) ?_
    obtain ⟨hi10, h⟩ := asrt_some h
    refine X.iaload (pc := 19) (by decide +kernel) hc3 hi10 ?_
    refine X.iload_2 (pc := 20) (by decide +kernel) ?_
    refine X.iload_3 (pc := 21) (by decide +kernel) ?_
    obtain ⟨x11, hv12, h⟩ := bnd1_some h
    refine X.callSi (pc := 22) (nc := 0) (ns := 0) (c_Mod_turned hE (dle hd (Nat.le_of_ble_eq_true rfl)) hv12) cv_Mod_249 (by decide +kernel) (ddd hd (Nat.le_of_ble_eq_true rfl)) rfl (Nat.le_of_ble_eq_true rfl) rfl rfl ?_
    obtain ⟨x13, hv14, h⟩ := bnd1_some h
    refine X.callVi (pc := 25) (nc := 0) (ns := 0) (c_Mod_cellBy hE (dle hd (Nat.le_of_ble_eq_true rfl)) hS hv14) cv_Mod_252 (by decide +kernel) hS ⟨by decide, rfl⟩ (ddd hd (Nat.le_of_ble_eq_true rfl)) rfl (Nat.le_of_ble_eq_true rfl) rfl rfl ?_
    refine X.aload_0 (pc := 28) (by decide +kernel) ?_
    refine X.getR (pc := 29) (k := 44) fw_Mod_117 (by decide +kernel) (fun _ => rfl) hS hb1 ?_
    refine X.iload_1 (pc := 32) (by decide +kernel) ?_
    refine X.iconst (pc := 33) (i := 1) (v := 1) ic_1 (by decide +kernel) ?_
    refine X.iadd (pc := 34) (by decide +kernel) ?_
    refine X.nameI (fun x15 hx15 => ?_)
    have h := lt_at hx15 h
    obtain ⟨hi16, h⟩ := asrt_some h
    refine X.iaload (pc := 35) (by decide +kernel) hc3 hi16 ?_
    rcases ifb_some h with ⟨hq17, h⟩ | ⟨hq17, h⟩
    · refine X.icmp_ne_f (pc := 36) (off := 7) (tgt := 43) hq17 rfl (by decide +kernel) ?_
      refine X.iconst (pc := 39) (i := 1) (v := 1) ic_1 (by decide +kernel) ?_
      refine X.goto (pc := 40) (off := 4) (tgt := 44) (by decide +kernel) rfl ?_
      have j0 := Option.some.inj h
      subst j0
      refine X.fgt (o' := [none, none, none, none]) trivial ?_
      exact hj9
    · refine X.icmp_ne_t (pc := 36) (off := 7) (tgt := 43) hq17 rfl (by decide +kernel) ?_
      refine X.iconst (pc := 43) (i := 0) (v := 0) ic_0 (by decide +kernel) ?_
      have j0 := Option.some.inj h
      subst j0
      refine X.fgt (o' := [none, none, none, none]) trivial ?_
      exact hj9
  · refine X.if_ne_t (pc := 10) (off := 33) (tgt := 43) hq6 rfl (by decide +kernel) ?_
    refine X.iconst (pc := 43) (i := 0) (v := 0) ic_0 (by decide +kernel) ?_
    have j0 := Option.some.inj h
    subst j0
    refine X.fgt (o' := [none, none, none, none]) trivial ?_
    exact hj9
set_option maxRecDepth 100000 in
noncomputable def f_Mod_isLie (S : MS) (R : MR) (I : MI) (t : Nat) (p1 : Int32) (p2 : Int32) (p3 : Int32) : Option Int32 :=
  bnd1 (R t 9) fun b1 =>
  asrt ((S b1).1 = 20) <|
  asrt (vp_in p3 (S b1).2) <|
  ifb ((I b1 (Int32.toNatClampNeg p3)) ≤ 0)
    (bnd1 (R t 25) fun b5 =>
    bnd1 (R t 44) fun b6 =>
    asrt ((S b6).1 = 20) <|
    asrt (vp_in p1 (S b6).2) <|
    lt ((4 * (I b6 (Int32.toNatClampNeg p1))) + p2) fun (x9 : Int32) =>
    asrt ((S b5).1 = 20) <|
    asrt (vp_in x9 (S b5).2) <|
    lt (I b5 (Int32.toNatClampNeg x9)) fun (x12 : Int32) =>
    bnd1 (ifb (1000000 ≤ x12)
        (some 1)
        (asrt (vp_in p1 (S b6).2) <|
        bnd1 (f_Mod_farBehind S R I t (I b6 (Int32.toNatClampNeg p1)) p2 p3) fun x18 =>
        ifb (x18 = (x12 - 1))
          (some 0)
          (some 1))) fun (y14 : Int32) =>
    asrt (y14 = 0 ∨ y14 = 1) <|
    some y14)
    (some 0)
set_option maxRecDepth 100000 in
set_option maxHeartbeats 4000000 in
theorem c_Mod_isLie {E : Env} (hE : OKE E) {tg : Bool} {d : Nat} (hd : 3 ≤ d) {S : MS} {I : MI} {L : ML} {R : MR} {n : Nat} {t : Nat} {p1 : Int32} {p2 : Int32} {p3 : Int32} {v : Int32} (hS : (S t).1 = 12) (h : f_Mod_isLie S R I t p1 p2 p3 = some v) : C E y_Mod_isLie b_Mod_isLie 5 (some .boolean) tg d 0 0 [.ref (e_b E + t), .int p1, .int p2, .int p3] S I L R n (Kq (some (.int v)) S I L R n) := by
  refine C.of (o := [some (.ref (e_b E + t)), some (.int p1), some (.int p2), some (.int p3), none]) (by decide) rfl (Nat.le_of_ble_eq_true rfl) ?_
  rw [f_Mod_isLie] at h
  refine X.aload_0 (pc := 0) (by decide +kernel) ?_
  obtain ⟨b1, hb1, h⟩ := bnd1_some h
  refine X.getR (pc := 1) (k := 9) fw_Mod_44 (by decide +kernel) (fun _ => rfl) hS hb1 ?_
  refine X.iload_3 (pc := 4) (by decide +kernel) ?_
  obtain ⟨hc3, h⟩ := asrt_some h
  obtain ⟨hi2, h⟩ := asrt_some h
  refine X.iaload (pc := 5) (by decide +kernel) hc3 hi2 ?_
  rcases ifb_some h with ⟨hq4, h⟩ | ⟨hq4, h⟩
  · refine X.if_le_t (pc := 6) (off := 5) (tgt := 11) hq4 rfl (by decide +kernel) ?_
    refine X.aload_0 (pc := 11) (by decide +kernel) ?_
    obtain ⟨b5, hb5, h⟩ := bnd1_some h
    refine X.getR (pc := 12) (k := 25) fw_Mod_74 (by decide +kernel) (fun _ => rfl) hS hb5 ?_
    refine X.iconst (pc := 15) (i := 4) (v := 4) ic_4 (by decide +kernel) ?_
    refine X.aload_0 (pc := 16) (by decide +kernel) ?_
    obtain ⟨b6, hb6, h⟩ := bnd1_some h
    refine X.getR (pc := 17) (k := 44) fw_Mod_117 (by decide +kernel) (fun _ => rfl) hS hb6 ?_
    refine X.iload_1 (pc := 20) (by decide +kernel) ?_
    obtain ⟨hc8, h⟩ := asrt_some h
    obtain ⟨hi7, h⟩ := asrt_some h
    refine X.iaload (pc := 21) (by decide +kernel) hc8 hi7 ?_
    refine X.imul (pc := 22) (by decide +kernel) ?_
    refine X.iload_2 (pc := 23) (by decide +kernel) ?_
    refine X.iadd (pc := 24) (by decide +kernel) ?_
    refine X.nameI (fun x9 hx9 => ?_)
    have h := lt_at hx9 h
    obtain ⟨hc11, h⟩ := asrt_some h
    obtain ⟨hi10, h⟩ := asrt_some h
    refine X.iaload (pc := 25) (by decide +kernel) hc11 hi10 ?_
    refine X.nameI (fun x12 hx12 => ?_)
    have h := lt_at hx12 h
    refine X.istore_4 (pc := 26) (by decide +kernel) (by decide) rfl ?_
    refine X.iload_4 (pc := 28) (by decide +kernel) ?_
    refine X.ldcw (pc := 30) (x := 284) (v := 1000000) ld_Mod_284 (by decide +kernel) ?_
    obtain ⟨y14, hr15, h⟩ := bnd1_some h
    have hj16 : X E y_Mod_isLie b_Mod_isLie 5 (some .boolean) tg d 0 0 60 [none, none, none, none, none] [.int y14] S I L R n (Kq (some (.int v)) S I L R n) := by
      obtain ⟨hb21, h⟩ := asrt_some h
      have j0 := Option.some.inj h
      subst j0
      exact X.ireturn (pc := 60) (by decide +kernel) ⟨_, rfl, nz01 hb21⟩ ⟨rfl, rfl, rfl, rfl, rfl, rfl⟩
    have h := hr15
    rcases ifb_some h with ⟨hq13, h⟩ | ⟨hq13, h⟩
    · refine X.icmp_ge_t (pc := 33) (off := 22) (tgt := 55) hq13 rfl (by decide +kernel) ?_
      refine X.iconst (pc := 55) (i := 1) (v := 1) ic_1 (by decide +kernel) ?_
      refine X.goto (pc := 56) (off := 4) (tgt := 60) (by decide +kernel) rfl ?_
      have j0 := Option.some.inj h
      subst j0
      refine X.fgt (o' := [none, none, none, none, none]) trivial ?_
      exact hj16
    · refine X.icmp_ge_f (pc := 33) (off := 22) (tgt := 55) hq13 rfl (by decide +kernel) ?_
      refine X.aload_0 (pc := 36) (by decide +kernel) ?_
      refine X.aload_0 (pc := 37) (by decide +kernel) ?_
      refine X.getR (pc := 38) (k := 44) fw_Mod_117 (by decide +kernel) (fun _ => rfl) hS hb6 ?_
      refine X.iload_1 (pc := 41) (by decide +kernel) ?_
      obtain ⟨hi17, h⟩ := asrt_some h
      refine X.iaload (pc := 42) (by decide +kernel) hc8 hi17 ?_
      refine X.iload_2 (pc := 43) (by decide +kernel) ?_
      refine X.iload_3 (pc := 44) (by decide +kernel) ?_
      obtain ⟨x18, hv19, h⟩ := bnd1_some h
      refine X.callVi (pc := 45) (nc := 0) (ns := 0) (c_Mod_farBehind hE (dle hd (Nat.le_of_ble_eq_true rfl)) hS hv19) cv_Mod_285 (by decide +kernel) hS ⟨by decide, rfl⟩ (ddd hd (Nat.le_of_ble_eq_true rfl)) rfl (Nat.le_of_ble_eq_true rfl) rfl rfl ?_
      refine X.iload_4 (pc := 48) (by decide +kernel) ?_
      refine X.iconst (pc := 50) (i := 1) (v := 1) ic_1 (by decide +kernel) ?_
      refine X.isub (pc := 51) (by decide +kernel) ?_
      rcases ifb_some h with ⟨hq20, h⟩ | ⟨hq20, h⟩
      · refine X.icmp_eq_t (pc := 52) (off := 7) (tgt := 59) hq20 rfl (by decide +kernel) ?_
        refine X.iconst (pc := 59) (i := 0) (v := 0) ic_0 (by decide +kernel) ?_
        have j0 := Option.some.inj h
        subst j0
        refine X.fgt (o' := [none, none, none, none, none]) trivial ?_
        exact hj16
      · refine X.icmp_eq_f (pc := 52) (off := 7) (tgt := 59) hq20 rfl (by decide +kernel) ?_
        refine X.iconst (pc := 55) (i := 1) (v := 1) ic_1 (by decide +kernel) ?_
        refine X.goto (pc := 56) (off := 4) (tgt := 60) (by decide +kernel) rfl ?_
        have j0 := Option.some.inj h
        subst j0
        refine X.fgt (o' := [none, none, none, none, none]) trivial ?_
        exact hj16
  · refine X.if_le_f (pc := 6) (off := 5) (tgt := 11) hq4 rfl (by decide +kernel) ?_
    refine X.iconst (pc := 9) (i := 0) (v := 0) ic_0 (by decide +kernel) ?_
    have j0 := Option.some.inj h
    subst j0
    exact X.ireturn (pc := 10) (by decide +kernel) ⟨_, rfl, nz01 (Or.inl rfl)⟩ ⟨rfl, rfl, rfl, rfl, rfl, rfl⟩
set_option maxRecDepth 100000 in
noncomputable def l_Mod_looksBack_60 (S : MS) (R : MR) (I : MI) (L : ML) (v0 : Nat) (v1 : Int32) (v2 : Int32) : Nat → Int64 → Int32 → Int32 → Option (Int64 × Int32)
  | 0, _, _, _ => none
  | f + 1, v3, v5, v6 =>
    ifb (3 ≤ v6)
      (some (v3, v5))
      (ifb (((I v0 42) - 1) ≤ v1)
        (some (v3, v5))
        (bnd1 (f_Mod_leads S R I v0 v1 v2 v6) fun x16 =>
        bnd2 (ifb (x16 = 0)
            (some (v3, v5))
            (bnd1 (f_Mod_turned v2 v6) fun x23 =>
            lt ((4 * (v1 + 1)) + x23) fun (x25 : Int32) =>
            bnd1 (R v0 45) fun b26 =>
            asrt ((S b26).1 = 21) <|
            asrt (vp_in x25 (S b26).2) <|
            lt (v3 + (L b26 (Int32.toNatClampNeg x25))) fun (x29 : Int64) =>
            bnd1 (f_Mod_isLie S R I v0 v1 v2 v6) fun x30 =>
            bnd1 (f_Mod_flag x30) fun x32 =>
            bnd1 (R v0 46) fun b34 =>
            asrt ((S b34).1 = 20) <|
            asrt (vp_in x25 (S b34).2) <|
            bnd1 (f_JMath_min v5 (x32 + (I b34 (Int32.toNatClampNeg x25)))) fun x37 =>
            some (x29, x37))) fun (z19 : Int64) (z20 : Int32) =>
        l_Mod_looksBack_60 S R I L v0 v1 v2 f z19 z20 (v6 + 1)))
set_option maxRecDepth 100000 in
set_option maxHeartbeats 4000000 in
theorem xl_Mod_looksBack_60 {E : Env} (hE : OKE E) {tg : Bool} {d : Nat} (hd : 4 ≤ d) {S : MS} {I : MI} {L : ML} {R : MR} {n : Nat} {v0 : Nat} {v1 : Int32} {v2 : Int32} {K : KT} :
    ∀ {f : Nat}  {v3 : Int64} {v5 : Int32} {v6 : Int32} {o3 : Int64} {o5 : Int32}, (S v0).1 = 12 → l_Mod_looksBack_60 S R I L v0 v1 v2 f v3 v5 v6 = some (o3, o5) → X E y_Mod_looksBack b_Mod_looksBack 8 none tg d 0 0 143 [some (.ref (e_b E + v0)), some (.int v1), some (.int v2), some (.long o3), none, some (.int o5), none, none] [] S I L R n K → X E y_Mod_looksBack b_Mod_looksBack 8 none tg d 0 0 60 [some (.ref (e_b E + v0)), some (.int v1), some (.int v2), some (.long v3), none, some (.int v5), some (.int v6), none] [] S I L R n K := by
  intro f
  induction f with
  | zero =>
    intro v3 v5 v6 o3 o5 hS h hk
    rw [l_Mod_looksBack_60] at h
    cases h
  | succ f ih =>
    intro v3 v5 v6 o3 o5 hS h hk
    rw [l_Mod_looksBack_60] at h
    refine X.iload_6 (pc := 60) (by decide +kernel) ?_
    refine X.iconst (pc := 62) (i := 3) (v := 3) ic_3 (by decide +kernel) ?_
    rcases ifb_some h with ⟨hq14, h⟩ | ⟨hq14, h⟩
    · refine X.icmp_ge_t (pc := 63) (off := 80) (tgt := 143) hq14 rfl (by decide +kernel) ?_
      have j0 := Option.some.inj h
      obtain ⟨i0, j1⟩ := Prod.mk.inj j0
      subst i0
      subst j1
      refine X.fgt (o' := [some (.ref (e_b E + v0)), some (.int v1), some (.int v2), some (.long v3), none, some (.int v5), none, none]) ⟨rfl, ⟨rfl, ⟨rfl, ⟨rfl, ⟨rfl, trivial⟩⟩⟩⟩⟩ ?_
      exact hk
    · refine X.icmp_ge_f (pc := 63) (off := 80) (tgt := 143) hq14 rfl (by decide +kernel) ?_
      refine X.iload_1 (pc := 66) (by decide +kernel) ?_
      refine X.aload_0 (pc := 67) (by decide +kernel) ?_
      refine X.getI (pc := 68) (k := 42) fw_Mod_198 (by decide +kernel) (fun _ => rfl) hS ?_
      refine X.iconst (pc := 71) (i := 1) (v := 1) ic_1 (by decide +kernel) ?_
      refine X.isub (pc := 72) (by decide +kernel) ?_
      rcases ifb_some h with ⟨hq15, h⟩ | ⟨hq15, h⟩
      · refine X.icmp_ge_t (pc := 73) (off := 70) (tgt := 143) hq15 rfl (by decide +kernel) ?_
        have j0 := Option.some.inj h
        obtain ⟨i0, j1⟩ := Prod.mk.inj j0
        subst i0
        subst j1
        refine X.fgt (o' := [some (.ref (e_b E + v0)), some (.int v1), some (.int v2), some (.long v3), none, some (.int v5), none, none]) ⟨rfl, ⟨rfl, ⟨rfl, ⟨rfl, ⟨rfl, trivial⟩⟩⟩⟩⟩ ?_
        exact hk
      · refine X.icmp_ge_f (pc := 73) (off := 70) (tgt := 143) hq15 rfl (by decide +kernel) ?_
        refine X.aload_0 (pc := 76) (by decide +kernel) ?_
        refine X.iload_1 (pc := 77) (by decide +kernel) ?_
        refine X.iload_2 (pc := 78) (by decide +kernel) ?_
        refine X.iload_6 (pc := 79) (by decide +kernel) ?_
        obtain ⟨x16, hv17, h⟩ := bnd1_some h
        refine X.callVi (pc := 81) (nc := 0) (ns := 0) (c_Mod_leads hE (dle hd (Nat.le_of_ble_eq_true rfl)) hS hv17) cv_Mod_407 (by decide +kernel) hS ⟨by decide, rfl⟩ (ddd hd (Nat.le_of_ble_eq_true rfl)) rfl (Nat.le_of_ble_eq_true rfl) rfl rfl ?_
        obtain ⟨z19, z20, hr21, h⟩ := bnd2_some h
        have hj22 : X E y_Mod_looksBack b_Mod_looksBack 8 none tg d 0 0 137 [some (.ref (e_b E + v0)), some (.int v1), some (.int v2), some (.long z19), none, some (.int z20), some (.int v6), none] [] S I L R n K := by
          refine X.iinc_6 (pc := 137) (z := 1) (v := 1) ic_1 (by decide +kernel) (by decide) rfl ?_
          refine X.goto (pc := 140) (off := (-80)) (tgt := 60) (by decide +kernel) rfl ?_
          exact ih hS h hk
        have h := hr21
        rcases ifb_some h with ⟨hq18, h⟩ | ⟨hq18, h⟩
        · refine X.if_eq_t (pc := 84) (off := 53) (tgt := 137) hq18 rfl (by decide +kernel) ?_
          have j0 := Option.some.inj h
          obtain ⟨i0, j1⟩ := Prod.mk.inj j0
          subst i0
          subst j1
          exact hj22
        · refine X.if_eq_f (pc := 84) (off := 53) (tgt := 137) hq18 rfl (by decide +kernel) ?_
          refine X.iconst (pc := 87) (i := 4) (v := 4) ic_4 (by decide +kernel) ?_
          refine X.iload_1 (pc := 88) (by decide +kernel) ?_
          refine X.iconst (pc := 89) (i := 1) (v := 1) ic_1 (by decide +kernel) ?_
          refine X.iadd (pc := 90) (by decide +kernel) ?_
          refine X.imul (pc := 91) (by decide +kernel) ?_
          refine X.iload_2 (pc := 92) (by decide +kernel) ?_
          refine X.iload_6 (pc := 93) (by decide +kernel) ?_
          obtain ⟨x23, hv24, h⟩ := bnd1_some h
          refine X.callSi (pc := 95) (nc := 0) (ns := 0) (c_Mod_turned hE (dle hd (Nat.le_of_ble_eq_true rfl)) hv24) cv_Mod_249 (by decide +kernel) (ddd hd (Nat.le_of_ble_eq_true rfl)) rfl (Nat.le_of_ble_eq_true rfl) rfl rfl ?_
          refine X.iadd (pc := 98) (by decide +kernel) ?_
          refine X.nameI (fun x25 hx25 => ?_)
          have h := lt_at hx25 h
          refine X.istore_7 (pc := 99) (by decide +kernel) (by decide) rfl ?_
          refine X.lload_3 (pc := 101) (by decide +kernel) ?_
          refine X.aload_0 (pc := 102) (by decide +kernel) ?_
          obtain ⟨b26, hb26, h⟩ := bnd1_some h
          refine X.getR (pc := 103) (k := 45) fw_Mod_120 (by decide +kernel) (fun _ => rfl) hS hb26 ?_
          refine X.iload_7 (pc := 106) (by decide +kernel) ?_
          obtain ⟨hc28, h⟩ := asrt_some h
          obtain ⟨hi27, h⟩ := asrt_some h
          refine X.laload (pc := 108) (by decide +kernel) hc28 hi27 ?_
          refine X.ladd (pc := 109) (by decide +kernel) ?_
          refine X.nameL (fun x29 hx29 => ?_)
          have h := lt_at hx29 h
          refine X.lstore_3 (pc := 110) (by decide +kernel) (by decide) rfl ?_
          refine X.iload_5 (pc := 111) (by decide +kernel) ?_
          refine X.aload_0 (pc := 113) (by decide +kernel) ?_
          refine X.iload_1 (pc := 114) (by decide +kernel) ?_
          refine X.iload_2 (pc := 115) (by decide +kernel) ?_
          refine X.iload_6 (pc := 116) (by decide +kernel) ?_
          obtain ⟨x30, hv31, h⟩ := bnd1_some h
          refine X.callVi (pc := 118) (nc := 0) (ns := 0) (c_Mod_isLie hE (dle hd (Nat.le_of_ble_eq_true rfl)) hS hv31) cv_Mod_411 (by decide +kernel) hS ⟨by decide, rfl⟩ (ddd hd (Nat.le_of_ble_eq_true rfl)) rfl (Nat.le_of_ble_eq_true rfl) rfl rfl ?_
          obtain ⟨x32, hv33, h⟩ := bnd1_some h
          refine X.callSi (pc := 121) (nc := 0) (ns := 0) (c_Mod_flag hE (dle hd (Nat.le_of_ble_eq_true rfl)) hv33) cv_Mod_155 (by decide +kernel) (ddd hd (Nat.le_of_ble_eq_true rfl)) rfl (Nat.le_of_ble_eq_true rfl) rfl rfl ?_
          refine X.aload_0 (pc := 124) (by decide +kernel) ?_
          obtain ⟨b34, hb34, h⟩ := bnd1_some h
          refine X.getR (pc := 125) (k := 46) fw_Mod_123 (by decide +kernel) (fun _ => rfl) hS hb34 ?_
          refine X.iload_7 (pc := 128) (by decide +kernel) ?_
          obtain ⟨hc36, h⟩ := asrt_some h
          obtain ⟨hi35, h⟩ := asrt_some h
          refine X.iaload (pc := 130) (by decide +kernel) hc36 hi35 ?_
          refine X.iadd (pc := 131) (by decide +kernel) ?_
          obtain ⟨x37, hv38, h⟩ := bnd1_some h
          refine X.callSi (pc := 132) (nc := 0) (ns := 0) (c_JMath_min hE (dle hd (Nat.le_of_ble_eq_true rfl)) hv38) cv_Mod_165 (by decide +kernel) (ddd hd (Nat.le_of_ble_eq_true rfl)) rfl (Nat.le_of_ble_eq_true rfl) rfl rfl ?_
          refine X.istore_5 (pc := 135) (by decide +kernel) (by decide) rfl ?_
          have j0 := Option.some.inj h
          obtain ⟨i0, j1⟩ := Prod.mk.inj j0
          subst i0
          subst j1
          refine X.fgt (o' := [some (.ref (e_b E + v0)), some (.int v1), some (.int v2), some (.long x29), none, some (.int x37), some (.int v6), none]) ⟨rfl, ⟨rfl, ⟨rfl, ⟨rfl, ⟨rfl, ⟨rfl, trivial⟩⟩⟩⟩⟩⟩ ?_
          exact hj22
set_option maxRecDepth 100000 in
noncomputable def l_Mod_looksBack_17 (g : Nat) (S : MS) (R : MR) (v0 : Nat) (v1 : Int32) : Nat → MI → ML → Int32 → Option (MI × ML)
  | 0, _, _, _ => none
  | f + 1, I, L, v2 =>
    ifb (4 ≤ v2)
      (some (I, L))
      (bnd1 (ifb (v1 = ((I v0 42) - 1))
          (some 1)
          (some 0)) fun (y7 : Int64) =>
      bnd1 (ifb (v1 = ((I v0 42) - 1))
          (some 0)
          (some 1000000)) fun (y11 : Int32) =>
      bnd2 (l_Mod_looksBack_60 S R I L v0 v1 v2 g y7 y11 0) fun x39 x40 =>
      bnd1 (R v0 45) fun b42 =>
      asrt ((S b42).1 = 21) <|
      asrt (vp_in ((4 * v1) + v2) (S b42).2) <|
      lt (wL L b42 (Int32.toNatClampNeg ((4 * v1) + v2)) x39) fun (L45 : ML) =>
      bnd1 (R v0 46) fun b46 =>
      bnd1 (f_JMath_min 1000000 x40) fun x47 =>
      asrt ((S b46).1 = 20) <|
      asrt (vp_in ((4 * v1) + v2) (S b46).2) <|
      lt (wI I b46 (Int32.toNatClampNeg ((4 * v1) + v2)) x47) fun (I51 : MI) =>
      l_Mod_looksBack_17 g S R v0 v1 f I51 L45 (v2 + 1))
set_option maxRecDepth 100000 in
set_option maxHeartbeats 4000000 in
theorem xl_Mod_looksBack_17 {E : Env} (hE : OKE E) {tg : Bool} {d : Nat} (hd : 4 ≤ d) {g : Nat} {S : MS} {R : MR} {n : Nat} {v0 : Nat} {v1 : Int32} {K : KT} :
    ∀ {f : Nat} {I : MI} {L : ML} {v2 : Int32} {I' : MI} {L' : ML}, (S v0).1 = 12 → l_Mod_looksBack_17 g S R v0 v1 f I L v2 = some (I', L') → X E y_Mod_looksBack b_Mod_looksBack 8 none tg d 0 0 178 [some (.ref (e_b E + v0)), some (.int v1), none, none, none, none, none, none] [] S I' L' R n K → X E y_Mod_looksBack b_Mod_looksBack 8 none tg d 0 0 17 [some (.ref (e_b E + v0)), some (.int v1), some (.int v2), none, none, none, none, none] [] S I L R n K := by
  intro f
  induction f with
  | zero =>
    intro I L v2 I' L' hS h hk
    rw [l_Mod_looksBack_17] at h
    cases h
  | succ f ih =>
    intro I L v2 I' L' hS h hk
    rw [l_Mod_looksBack_17] at h
    refine X.iload_2 (pc := 17) (by decide +kernel) ?_
    refine X.iconst (pc := 18) (i := 4) (v := 4) ic_4 (by decide +kernel) ?_
    rcases ifb_some h with ⟨hq5, h⟩ | ⟨hq5, h⟩
    · refine X.icmp_ge_t (pc := 19) (off := 159) (tgt := 178) hq5 rfl (by decide +kernel) ?_
      have j0 := Option.some.inj h
      obtain ⟨i0, j1⟩ := Prod.mk.inj j0
      subst i0
      subst j1
      refine X.fgt (o' := [some (.ref (e_b E + v0)), some (.int v1), none, none, none, none, none, none]) ⟨rfl, ⟨rfl, trivial⟩⟩ ?_
      exact hk
    · refine X.icmp_ge_f (pc := 19) (off := 159) (tgt := 178) hq5 rfl (by decide +kernel) ?_
      refine X.iload_1 (pc := 22) (by decide +kernel) ?_
      refine X.aload_0 (pc := 23) (by decide +kernel) ?_
      refine X.getI (pc := 24) (k := 42) fw_Mod_198 (by decide +kernel) (fun _ => rfl) hS ?_
      refine X.iconst (pc := 27) (i := 1) (v := 1) ic_1 (by decide +kernel) ?_
      refine X.isub (pc := 28) (by decide +kernel) ?_
      obtain ⟨y7, hr8, h⟩ := bnd1_some h
      have hj9 : X E y_Mod_looksBack b_Mod_looksBack 8 none tg d 0 0 37 [some (.ref (e_b E + v0)), some (.int v1), some (.int v2), none, none, none, none, none] [.long y7] S I L R n K := by
        refine X.lstore_3 (pc := 37) (by decide +kernel) (by decide) rfl ?_
        refine X.iload_1 (pc := 38) (by decide +kernel) ?_
        refine X.aload_0 (pc := 39) (by decide +kernel) ?_
        refine X.getI (pc := 40) (k := 42) fw_Mod_198 (by decide +kernel) (fun _ => rfl) hS ?_
        refine X.iconst (pc := 43) (i := 1) (v := 1) ic_1 (by decide +kernel) ?_
        refine X.isub (pc := 44) (by decide +kernel) ?_
        obtain ⟨y11, hr12, h⟩ := bnd1_some h
        have hj13 : X E y_Mod_looksBack b_Mod_looksBack 8 none tg d 0 0 55 [some (.ref (e_b E + v0)), some (.int v1), some (.int v2), some (.long y7), none, none, none, none] [.int y11] S I L R n K := by
          refine X.istore_5 (pc := 55) (by decide +kernel) (by decide) rfl ?_
          refine X.iconst (pc := 57) (i := 0) (v := 0) ic_0 (by decide +kernel) ?_
          refine X.istore_6 (pc := 58) (by decide +kernel) (by decide) rfl ?_
          obtain ⟨x39, x40, hv41, h⟩ := bnd2_some h
          refine xl_Mod_looksBack_60 hE hd hS hv41 ?_
          refine X.aload_0 (pc := 143) (by decide +kernel) ?_
          obtain ⟨b42, hb42, h⟩ := bnd1_some h
          refine X.getR (pc := 144) (k := 45) fw_Mod_120 (by decide +kernel) (fun _ => rfl) hS hb42 ?_
          refine X.iconst (pc := 147) (i := 4) (v := 4) ic_4 (by decide +kernel) ?_
          refine X.iload_1 (pc := 148) (by decide +kernel) ?_
          refine X.imul (pc := 149) (by decide +kernel) ?_
          refine X.iload_2 (pc := 150) (by decide +kernel) ?_
          refine X.iadd (pc := 151) (by decide +kernel) ?_
          refine X.lload_3 (pc := 152) (by decide +kernel) ?_
          obtain ⟨hc43, h⟩ := asrt_some h
          obtain ⟨hi44, h⟩ := asrt_some h
          refine X.lastore (pc := 153) (by decide +kernel) hc43 hi44 ?_
          refine X.nameML (fun L45 hL45 => ?_)
          have h := lt_at hL45 h
          refine X.aload_0 (pc := 154) (by decide +kernel) ?_
          obtain ⟨b46, hb46, h⟩ := bnd1_some h
          refine X.getR (pc := 155) (k := 46) fw_Mod_123 (by decide +kernel) (fun _ => rfl) hS hb46 ?_
          refine X.iconst (pc := 158) (i := 4) (v := 4) ic_4 (by decide +kernel) ?_
          refine X.iload_1 (pc := 159) (by decide +kernel) ?_
          refine X.imul (pc := 160) (by decide +kernel) ?_
          refine X.iload_2 (pc := 161) (by decide +kernel) ?_
          refine X.iadd (pc := 162) (by decide +kernel) ?_
          refine X.ldcw (pc := 163) (x := 284) (v := 1000000) ld_Mod_284 (by decide +kernel) ?_
          refine X.iload_5 (pc := 166) (by decide +kernel) ?_
          obtain ⟨x47, hv48, h⟩ := bnd1_some h
          refine X.callSi (pc := 168) (nc := 0) (ns := 0) (c_JMath_min hE (dle hd (Nat.le_of_ble_eq_true rfl)) hv48) cv_Mod_165 (by decide +kernel) (ddd hd (Nat.le_of_ble_eq_true rfl)) rfl (Nat.le_of_ble_eq_true rfl) rfl rfl ?_
          obtain ⟨hc49, h⟩ := asrt_some h
          obtain ⟨hi50, h⟩ := asrt_some h
          refine X.iastore (pc := 171) (by decide +kernel) hc49 hi50 ?_
          refine X.nameMI (fun I51 hI51 => ?_)
          have h := lt_at hI51 h
          refine X.iinc_2 (pc := 172) (z := 1) (v := 1) ic_1 (by decide +kernel) (by decide) rfl ?_
          refine X.goto (pc := 175) (off := (-158)) (tgt := 17) (by decide +kernel) rfl ?_
          refine X.fgt (o' := [some (.ref (e_b E + v0)), some (.int v1), some (.int (v2 + 1)), none, none, none, none, none]) ⟨rfl, ⟨rfl, ⟨rfl, trivial⟩⟩⟩ ?_
          exact ih hS h hk
        have h := hr12
        rcases ifb_some h with ⟨hq10, h⟩ | ⟨hq10, h⟩
        · refine X.icmp_ne_f (pc := 45) (off := 7) (tgt := 52) hq10 rfl (by decide +kernel) ?_
          refine X.iconst (pc := 48) (i := 0) (v := 0) ic_0 (by decide +kernel) ?_
          refine X.goto (pc := 49) (off := 6) (tgt := 55) (by decide +kernel) rfl ?_
          have j0 := Option.some.inj h
          subst j0
          exact hj13
        · refine X.icmp_ne_t (pc := 45) (off := 7) (tgt := 52) hq10 rfl (by decide +kernel) ?_
          refine X.ldcw (pc := 52) (x := 284) (v := 1000000) ld_Mod_284 (by decide +kernel) ?_
          have j0 := Option.some.inj h
          subst j0
          exact hj13
      have h := hr8
      rcases ifb_some h with ⟨hq6, h⟩ | ⟨hq6, h⟩
      · refine X.icmp_ne_f (pc := 29) (off := 7) (tgt := 36) hq6 rfl (by decide +kernel) ?_
        refine X.lconst (pc := 32) (i := 1) (v := 1) rfl (by decide +kernel) ?_
        refine X.goto (pc := 33) (off := 4) (tgt := 37) (by decide +kernel) rfl ?_
        have j0 := Option.some.inj h
        subst j0
        exact hj9
      · refine X.icmp_ne_t (pc := 29) (off := 7) (tgt := 36) hq6 rfl (by decide +kernel) ?_
        refine X.lconst (pc := 36) (i := 0) (v := 0) rfl (by decide +kernel) ?_
        have j0 := Option.some.inj h
        subst j0
        exact hj9
set_option maxRecDepth 100000 in
noncomputable def l_Mod_looksBack_11 (g : Nat) (S : MS) (R : MR) (v0 : Nat) : Nat → MI → ML → Int32 → Option (MI × ML)
  | 0, _, _, _ => none
  | f + 1, I, L, v1 =>
    ifb (v1 < 0)
      (some (I, L))
      (bnd2 (l_Mod_looksBack_17 g S R v0 v1 g I L 0) fun I52 L53 =>
      l_Mod_looksBack_11 g S R v0 f I52 L53 (v1 + (-1)))
set_option maxRecDepth 100000 in
set_option maxHeartbeats 4000000 in
theorem xl_Mod_looksBack_11 {E : Env} (hE : OKE E) {tg : Bool} {d : Nat} (hd : 4 ≤ d) {g : Nat} {S : MS} {R : MR} {n : Nat} {v0 : Nat} {K : KT} :
    ∀ {f : Nat} {I : MI} {L : ML} {v1 : Int32} {I' : MI} {L' : ML}, (S v0).1 = 12 → l_Mod_looksBack_11 g S R v0 f I L v1 = some (I', L') → X E y_Mod_looksBack b_Mod_looksBack 8 none tg d 0 0 184 [none, none, none, none, none, none, none, none] [] S I' L' R n K → X E y_Mod_looksBack b_Mod_looksBack 8 none tg d 0 0 11 [some (.ref (e_b E + v0)), some (.int v1), none, none, none, none, none, none] [] S I L R n K := by
  intro f
  induction f with
  | zero =>
    intro I L v1 I' L' hS h hk
    rw [l_Mod_looksBack_11] at h
    cases h
  | succ f ih =>
    intro I L v1 I' L' hS h hk
    rw [l_Mod_looksBack_11] at h
    refine X.iload_1 (pc := 11) (by decide +kernel) ?_
    rcases ifb_some h with ⟨hq4, h⟩ | ⟨hq4, h⟩
    · refine X.if_lt_t (pc := 12) (off := 172) (tgt := 184) hq4 rfl (by decide +kernel) ?_
      have j0 := Option.some.inj h
      obtain ⟨i0, j1⟩ := Prod.mk.inj j0
      subst i0
      subst j1
      refine X.fgt (o' := [none, none, none, none, none, none, none, none]) trivial ?_
      exact hk
    · refine X.if_lt_f (pc := 12) (off := 172) (tgt := 184) hq4 rfl (by decide +kernel) ?_
      refine X.iconst (pc := 15) (i := 0) (v := 0) ic_0 (by decide +kernel) ?_
      refine X.istore_2 (pc := 16) (by decide +kernel) (by decide) rfl ?_
      obtain ⟨I52, L53, hv54, h⟩ := bnd2_some h
      refine xl_Mod_looksBack_17 hE hd hS hv54 ?_
      refine X.iinc_1 (pc := 178) (z := (-1)) (v := (-1)) ic_m1 (by decide +kernel) (by decide) rfl ?_
      refine X.goto (pc := 181) (off := (-170)) (tgt := 11) (by decide +kernel) rfl ?_
      exact ih hS h hk
set_option maxRecDepth 100000 in
noncomputable def f_Mod_looksBack (g : Nat) (S : MS) (R : MR) (I : MI) (L : ML) (t : Nat) : Option (MI × ML) :=
  bnd1 (f_Mod_measures g S R I t) fun I1 =>
  lt ((I1 t 42) - 1) fun (x3 : Int32) =>
  bnd2 (l_Mod_looksBack_11 g S R t g I1 L x3) fun I55 L56 =>
  some (I55, L56)
set_option maxRecDepth 100000 in
set_option maxHeartbeats 4000000 in
theorem c_Mod_looksBack {E : Env} (hE : OKE E) {tg : Bool} {d : Nat} (hd : 4 ≤ d) {g : Nat} {S : MS} {I : MI} {L : ML} {R : MR} {n : Nat} {t : Nat} {I' : MI} {L' : ML} (hS : (S t).1 = 12) (h : f_Mod_looksBack g S R I L t = some (I', L')) : C E y_Mod_looksBack b_Mod_looksBack 8 none tg d 0 0 [.ref (e_b E + t)] S I L R n (Kq none S I' L' R n) := by
  refine C.of (o := [some (.ref (e_b E + t)), none, none, none, none, none, none, none]) (by decide) rfl (Nat.le_of_ble_eq_true rfl) ?_
  rw [f_Mod_looksBack] at h
  refine X.aload_0 (pc := 0) (by decide +kernel) ?_
  obtain ⟨I1, hv2, h⟩ := bnd1_some h
  refine X.callVv (pc := 1) (nc := 0) (ns := 0) (c_Mod_measures hE (dle hd (Nat.le_of_ble_eq_true rfl)) hS hv2) cv_Mod_289 (by decide +kernel) hS ⟨by decide, rfl⟩ (ddd hd (Nat.le_of_ble_eq_true rfl)) rfl (Nat.le_of_ble_eq_true rfl) rfl rfl ?_
  refine X.aload_0 (pc := 4) (by decide +kernel) ?_
  refine X.getI (pc := 5) (k := 42) fw_Mod_198 (by decide +kernel) (fun _ => rfl) hS ?_
  refine X.iconst (pc := 8) (i := 1) (v := 1) ic_1 (by decide +kernel) ?_
  refine X.isub (pc := 9) (by decide +kernel) ?_
  refine X.nameI (fun x3 hx3 => ?_)
  have h := lt_at hx3 h
  refine X.istore_1 (pc := 10) (by decide +kernel) (by decide) rfl ?_
  obtain ⟨I55, L56, hv57, h⟩ := bnd2_some h
  refine xl_Mod_looksBack_11 hE hd hS hv57 ?_
  have j0 := Option.some.inj h
  obtain ⟨i0, j1⟩ := Prod.mk.inj j0
  subst i0
  subst j1
  exact X.vreturn (pc := 184) (by decide +kernel) rfl ⟨rfl, rfl, rfl, rfl, rfl, rfl⟩
set_option maxRecDepth 100000 in
noncomputable def l_Mod_rows_58 (S : MS) (R : MR) (I : MI) (L : ML) (v0 : Nat) (v1 : Int32) (v2 : Int32) : Nat → Int32 → Option Int32
  | 0, _ => none
  | f + 1, v3 =>
    bnd1 (f_Mod_leads S R I v0 v2 v1 v3) fun x14 =>
    ifb (x14 = 0)
      (l_Mod_rows_58 S R I L v0 v1 v2 f (v3 + 1))
      (bnd1 (R v0 45) fun b17 =>
      bnd1 (f_Mod_turned v1 v3) fun x18 =>
      lt ((4 * (v2 + 1)) + x18) fun (x20 : Int32) =>
      asrt ((S b17).1 = 21) <|
      asrt (vp_in x20 (S b17).2) <|
      ifb ((lg_cmp (L b17 (Int32.toNatClampNeg x20)) 0) = 0)
        (l_Mod_rows_58 S R I L v0 v1 v2 f (v3 + 1))
        (some v3))
set_option maxRecDepth 100000 in
set_option maxHeartbeats 4000000 in
theorem xl_Mod_rows_58 {E : Env} (hE : OKE E) {tg : Bool} {d : Nat} (hd : 5 ≤ d) {S : MS} {I : MI} {L : ML} {R : MR} {n : Nat} {v0 : Nat} {v1 : Int32} {v2 : Int32} {K : KT} :
    ∀ {f : Nat}  {v3 : Int32} {o3 : Int32}, (S v0).1 = 12 → l_Mod_rows_58 S R I L v0 v1 v2 f v3 = some o3 → X E y_Mod_rows b_Mod_rows 4 (some .long) tg d 0 0 95 [some (.ref (e_b E + v0)), some (.int v1), some (.int v2), some (.int o3)] [] S I L R n K → X E y_Mod_rows b_Mod_rows 4 (some .long) tg d 0 0 58 [some (.ref (e_b E + v0)), some (.int v1), some (.int v2), some (.int v3)] [] S I L R n K := by
  intro f
  induction f with
  | zero =>
    intro v3 o3 hS h hk
    rw [l_Mod_rows_58] at h
    cases h
  | succ f ih =>
    intro v3 o3 hS h hk
    rw [l_Mod_rows_58] at h
    refine X.aload_0 (pc := 58) (by decide +kernel) ?_
    refine X.iload_2 (pc := 59) (by decide +kernel) ?_
    refine X.iload_1 (pc := 60) (by decide +kernel) ?_
    refine X.iload_3 (pc := 61) (by decide +kernel) ?_
    obtain ⟨x14, hv15, h⟩ := bnd1_some h
    refine X.callVi (pc := 62) (nc := 0) (ns := 0) (c_Mod_leads hE (dle hd (Nat.le_of_ble_eq_true rfl)) hS hv15) cv_Mod_407 (by decide +kernel) hS ⟨by decide, rfl⟩ (ddd hd (Nat.le_of_ble_eq_true rfl)) rfl (Nat.le_of_ble_eq_true rfl) rfl rfl ?_
    rcases ifb_some h with ⟨hq16, h⟩ | ⟨hq16, h⟩
    · refine X.if_eq_t (pc := 65) (off := 24) (tgt := 89) hq16 rfl (by decide +kernel) ?_
      refine X.iinc_3 (pc := 89) (z := 1) (v := 1) ic_1 (by decide +kernel) (by decide) rfl ?_
      refine X.goto (pc := 92) (off := (-34)) (tgt := 58) (by decide +kernel) rfl ?_
      exact ih hS h hk
    · refine X.if_eq_f (pc := 65) (off := 24) (tgt := 89) hq16 rfl (by decide +kernel) ?_
      refine X.aload_0 (pc := 68) (by decide +kernel) ?_
      obtain ⟨b17, hb17, h⟩ := bnd1_some h
      refine X.getR (pc := 69) (k := 45) fw_Mod_120 (by decide +kernel) (fun _ => rfl) hS hb17 ?_
      refine X.iconst (pc := 72) (i := 4) (v := 4) ic_4 (by decide +kernel) ?_
      refine X.iload_2 (pc := 73) (by decide +kernel) ?_
      refine X.iconst (pc := 74) (i := 1) (v := 1) ic_1 (by decide +kernel) ?_
      refine X.iadd (pc := 75) (by decide +kernel) ?_
      refine X.imul (pc := 76) (by decide +kernel) ?_
      refine X.iload_1 (pc := 77) (by decide +kernel) ?_
      refine X.iload_3 (pc := 78) (by decide +kernel) ?_
      obtain ⟨x18, hv19, h⟩ := bnd1_some h
      refine X.callSi (pc := 79) (nc := 0) (ns := 0) (c_Mod_turned hE (dle hd (Nat.le_of_ble_eq_true rfl)) hv19) cv_Mod_249 (by decide +kernel) (ddd hd (Nat.le_of_ble_eq_true rfl)) rfl (Nat.le_of_ble_eq_true rfl) rfl rfl ?_
      refine X.iadd (pc := 82) (by decide +kernel) ?_
      refine X.nameI (fun x20 hx20 => ?_)
      have h := lt_at hx20 h
      obtain ⟨hc22, h⟩ := asrt_some h
      obtain ⟨hi21, h⟩ := asrt_some h
      refine X.laload (pc := 83) (by decide +kernel) hc22 hi21 ?_
      refine X.lconst (pc := 84) (i := 0) (v := 0) rfl (by decide +kernel) ?_
      refine X.lcmp (pc := 85) (by decide +kernel) ?_
      rcases ifb_some h with ⟨hq23, h⟩ | ⟨hq23, h⟩
      · refine X.if_ne_f (pc := 86) (off := 9) (tgt := 95) hq23 rfl (by decide +kernel) ?_
        refine X.iinc_3 (pc := 89) (z := 1) (v := 1) ic_1 (by decide +kernel) (by decide) rfl ?_
        refine X.goto (pc := 92) (off := (-34)) (tgt := 58) (by decide +kernel) rfl ?_
        exact ih hS h hk
      · refine X.if_ne_t (pc := 86) (off := 9) (tgt := 95) hq23 rfl (by decide +kernel) ?_
        have j0 := Option.some.inj h
        subst j0
        exact hk
set_option maxRecDepth 100000 in
noncomputable def l_Mod_rows_32 (g : Nat) (S : MS) (R : MR) (v0 : Nat) : Nat → MI → ML → Int32 → Int32 → Option (MI × ML)
  | 0, _, _, _, _ => none
  | f + 1, I, L, v1, v2 =>
    ifb (((I v0 42) - 1) ≤ v2)
      (some (I, L))
      (bnd1 (R v0 45) fun b9 =>
      lt (I v0 43) fun (x10 : Int32) =>
      asrt ((S b9).1 = 21) <|
      asrt (vp_in x10 (S b9).2) <|
      ifb ((lg_cmp (L b9 (Int32.toNatClampNeg x10)) 0) ≤ 0)
        (some (I, L))
        (bnd1 (l_Mod_rows_58 S R I L v0 v1 v2 g 0) fun x24 =>
        bnd2 (f_Mod_enters S R I L v0 (Int32.toInt64 x24)) fun I26 L27 =>
        bnd1 (f_Mod_turned v1 x24) fun x29 =>
        l_Mod_rows_32 g S R v0 f I26 L27 x29 (v2 + 1)))
set_option maxRecDepth 100000 in
set_option maxHeartbeats 4000000 in
theorem xl_Mod_rows_32 {E : Env} (hE : OKE E) {tg : Bool} {d : Nat} (hd : 5 ≤ d) {g : Nat} {S : MS} {R : MR} {n : Nat} {v0 : Nat} {K : KT} :
    ∀ {f : Nat} {I : MI} {L : ML} {v1 : Int32} {v2 : Int32} {I' : MI} {L' : ML}, (S v0).1 = 12 → l_Mod_rows_32 g S R v0 f I L v1 v2 = some (I', L') → X E y_Mod_rows b_Mod_rows 4 (some .long) tg d 0 0 113 [some (.ref (e_b E + v0)), none, none, none] [] S I' L' R n K → X E y_Mod_rows b_Mod_rows 4 (some .long) tg d 0 0 32 [some (.ref (e_b E + v0)), some (.int v1), some (.int v2), none] [] S I L R n K := by
  intro f
  induction f with
  | zero =>
    intro I L v1 v2 I' L' hS h hk
    rw [l_Mod_rows_32] at h
    cases h
  | succ f ih =>
    intro I L v1 v2 I' L' hS h hk
    rw [l_Mod_rows_32] at h
    refine X.iload_2 (pc := 32) (by decide +kernel) ?_
    refine X.aload_0 (pc := 33) (by decide +kernel) ?_
    refine X.getI (pc := 34) (k := 42) fw_Mod_198 (by decide +kernel) (fun _ => rfl) hS ?_
    refine X.iconst (pc := 37) (i := 1) (v := 1) ic_1 (by decide +kernel) ?_
    refine X.isub (pc := 38) (by decide +kernel) ?_
    rcases ifb_some h with ⟨hq8, h⟩ | ⟨hq8, h⟩
    · refine X.icmp_ge_t (pc := 39) (off := 74) (tgt := 113) hq8 rfl (by decide +kernel) ?_
      have j0 := Option.some.inj h
      obtain ⟨i0, j1⟩ := Prod.mk.inj j0
      subst i0
      subst j1
      refine X.fgt (o' := [some (.ref (e_b E + v0)), none, none, none]) ⟨rfl, trivial⟩ ?_
      exact hk
    · refine X.icmp_ge_f (pc := 39) (off := 74) (tgt := 113) hq8 rfl (by decide +kernel) ?_
      refine X.aload_0 (pc := 42) (by decide +kernel) ?_
      obtain ⟨b9, hb9, h⟩ := bnd1_some h
      refine X.getR (pc := 43) (k := 45) fw_Mod_120 (by decide +kernel) (fun _ => rfl) hS hb9 ?_
      refine X.aload_0 (pc := 46) (by decide +kernel) ?_
      refine X.getI (pc := 47) (k := 43) fw_Mod_404 (by decide +kernel) (fun _ => rfl) hS ?_
      refine X.nameI (fun x10 hx10 => ?_)
      have h := lt_at hx10 h
      obtain ⟨hc12, h⟩ := asrt_some h
      obtain ⟨hi11, h⟩ := asrt_some h
      refine X.laload (pc := 50) (by decide +kernel) hc12 hi11 ?_
      refine X.lconst (pc := 51) (i := 0) (v := 0) rfl (by decide +kernel) ?_
      refine X.lcmp (pc := 52) (by decide +kernel) ?_
      rcases ifb_some h with ⟨hq13, h⟩ | ⟨hq13, h⟩
      · refine X.if_le_t (pc := 53) (off := 60) (tgt := 113) hq13 rfl (by decide +kernel) ?_
        have j0 := Option.some.inj h
        obtain ⟨i0, j1⟩ := Prod.mk.inj j0
        subst i0
        subst j1
        refine X.fgt (o' := [some (.ref (e_b E + v0)), none, none, none]) ⟨rfl, trivial⟩ ?_
        exact hk
      · refine X.if_le_f (pc := 53) (off := 60) (tgt := 113) hq13 rfl (by decide +kernel) ?_
        refine X.iconst (pc := 56) (i := 0) (v := 0) ic_0 (by decide +kernel) ?_
        refine X.istore_3 (pc := 57) (by decide +kernel) (by decide) rfl ?_
        obtain ⟨x24, hv25, h⟩ := bnd1_some h
        refine xl_Mod_rows_58 hE hd hS hv25 ?_
        refine X.aload_0 (pc := 95) (by decide +kernel) ?_
        refine X.iload_3 (pc := 96) (by decide +kernel) ?_
        refine X.i2l (pc := 97) (by decide +kernel) ?_
        obtain ⟨I26, L27, hv28, h⟩ := bnd2_some h
        refine X.callVv (pc := 98) (nc := 0) (ns := 0) (c_Mod_enters hE (dle hd (Nat.le_of_ble_eq_true rfl)) hS hv28) cv_Mod_24 (by decide +kernel) hS ⟨by decide, rfl⟩ (ddd hd (Nat.le_of_ble_eq_true rfl)) rfl (Nat.le_of_ble_eq_true rfl) rfl rfl ?_
        refine X.iload_1 (pc := 101) (by decide +kernel) ?_
        refine X.iload_3 (pc := 102) (by decide +kernel) ?_
        obtain ⟨x29, hv30, h⟩ := bnd1_some h
        refine X.callSi (pc := 103) (nc := 0) (ns := 0) (c_Mod_turned hE (dle hd (Nat.le_of_ble_eq_true rfl)) hv30) cv_Mod_249 (by decide +kernel) (ddd hd (Nat.le_of_ble_eq_true rfl)) rfl (Nat.le_of_ble_eq_true rfl) rfl rfl ?_
        refine X.istore_1 (pc := 106) (by decide +kernel) (by decide) rfl ?_
        refine X.iinc_2 (pc := 107) (z := 1) (v := 1) ic_1 (by decide +kernel) (by decide) rfl ?_
        refine X.goto (pc := 110) (off := (-78)) (tgt := 32) (by decide +kernel) rfl ?_
        refine X.fgt (o' := [some (.ref (e_b E + v0)), some (.int x29), some (.int (v2 + 1)), none]) ⟨rfl, ⟨rfl, ⟨rfl, trivial⟩⟩⟩ ?_
        exact ih hS h hk
set_option maxRecDepth 100000 in
noncomputable def f_Mod_rows (g : Nat) (S : MS) (R : MR) (I : MI) (L : ML) (t : Nat) : Option (Int64 × MI × ML) :=
  lt (wI I t 0 0) fun (I1 : MI) =>
  ifb ((I1 t 42) = 0)
    (some ((-2), I1, L))
    (bnd2 (f_Mod_looksBack g S R I1 L t) fun I3 L4 =>
    lt (wI I3 t 1 0) fun (I6 : MI) =>
    lt (I6 t 43) fun (x7 : Int32) =>
    bnd2 (l_Mod_rows_32 g S R t g I6 L4 x7 0) fun I31 L32 =>
    bnd1 (R t 45) fun b34 =>
    lt (I31 t 43) fun (x35 : Int32) =>
    asrt ((S b34).1 = 21) <|
    asrt (vp_in x35 (S b34).2) <|
    lt (L32 b34 (Int32.toNatClampNeg x35)) fun (x38 : Int64) =>
    some (x38, I31, L32))
set_option maxRecDepth 100000 in
set_option maxHeartbeats 4000000 in
theorem c_Mod_rows {E : Env} (hE : OKE E) {tg : Bool} {d : Nat} (hd : 5 ≤ d) {g : Nat} {S : MS} {I : MI} {L : ML} {R : MR} {n : Nat} {t : Nat} {v : Int64} {I' : MI} {L' : ML} (hS : (S t).1 = 12) (h : f_Mod_rows g S R I L t = some (v, I', L')) : C E y_Mod_rows b_Mod_rows 4 (some .long) tg d 0 0 [.ref (e_b E + t)] S I L R n (Kq (some (.long v)) S I' L' R n) := by
  refine C.of (o := [some (.ref (e_b E + t)), none, none, none]) (by decide) rfl (Nat.le_of_ble_eq_true rfl) ?_
  rw [f_Mod_rows] at h
  refine X.aload_0 (pc := 0) (by decide +kernel) ?_
  refine X.iconst (pc := 1) (i := 0) (v := 0) ic_0 (by decide +kernel) ?_
  refine X.putI (pc := 2) (k := 0) fw_Mod_3 (by decide +kernel) rfl rfl hS ?_
  refine X.nameMI (fun I1 hI1 => ?_)
  have h := lt_at hI1 h
  refine X.aload_0 (pc := 5) (by decide +kernel) ?_
  refine X.getI (pc := 6) (k := 42) fw_Mod_198 (by decide +kernel) (fun _ => rfl) hS ?_
  rcases ifb_some h with ⟨hq2, h⟩ | ⟨hq2, h⟩
  · refine X.if_ne_f (pc := 9) (off := 7) (tgt := 16) hq2 rfl (by decide +kernel) ?_
    refine X.ldc2 (pc := 12) (x := 414) (v := (-2)) ld_Mod_414 (by decide +kernel) ?_
    have j0 := Option.some.inj h
    obtain ⟨i0, j1⟩ := Prod.mk.inj j0
    obtain ⟨i1, j2⟩ := Prod.mk.inj j1
    subst i0
    subst i1
    subst j2
    exact X.lreturn (pc := 15) (by decide +kernel) rfl ⟨rfl, rfl, rfl, rfl, rfl, rfl⟩
  · refine X.if_ne_t (pc := 9) (off := 7) (tgt := 16) hq2 rfl (by decide +kernel) ?_
    refine X.aload_0 (pc := 16) (by decide +kernel) ?_
    obtain ⟨I3, L4, hv5, h⟩ := bnd2_some h
    refine X.callVv (pc := 17) (nc := 0) (ns := 0) (c_Mod_looksBack hE (dle hd (Nat.le_of_ble_eq_true rfl)) hS hv5) cv_Mod_416 (by decide +kernel) hS ⟨by decide, rfl⟩ (ddd hd (Nat.le_of_ble_eq_true rfl)) rfl (Nat.le_of_ble_eq_true rfl) rfl rfl ?_
    refine X.aload_0 (pc := 20) (by decide +kernel) ?_
    refine X.iconst (pc := 21) (i := 0) (v := 0) ic_0 (by decide +kernel) ?_
    refine X.putI (pc := 22) (k := 1) fw_Mod_21 (by decide +kernel) rfl rfl hS ?_
    refine X.nameMI (fun I6 hI6 => ?_)
    have h := lt_at hI6 h
    refine X.aload_0 (pc := 25) (by decide +kernel) ?_
    refine X.getI (pc := 26) (k := 43) fw_Mod_404 (by decide +kernel) (fun _ => rfl) hS ?_
    refine X.nameI (fun x7 hx7 => ?_)
    have h := lt_at hx7 h
    refine X.istore_1 (pc := 29) (by decide +kernel) (by decide) rfl ?_
    refine X.iconst (pc := 30) (i := 0) (v := 0) ic_0 (by decide +kernel) ?_
    refine X.istore_2 (pc := 31) (by decide +kernel) (by decide) rfl ?_
    obtain ⟨I31, L32, hv33, h⟩ := bnd2_some h
    refine xl_Mod_rows_32 hE hd hS hv33 ?_
    refine X.aload_0 (pc := 113) (by decide +kernel) ?_
    obtain ⟨b34, hb34, h⟩ := bnd1_some h
    refine X.getR (pc := 114) (k := 45) fw_Mod_120 (by decide +kernel) (fun _ => rfl) hS hb34 ?_
    refine X.aload_0 (pc := 117) (by decide +kernel) ?_
    refine X.getI (pc := 118) (k := 43) fw_Mod_404 (by decide +kernel) (fun _ => rfl) hS ?_
    refine X.nameI (fun x35 hx35 => ?_)
    have h := lt_at hx35 h
    obtain ⟨hc37, h⟩ := asrt_some h
    obtain ⟨hi36, h⟩ := asrt_some h
    refine X.laload (pc := 121) (by decide +kernel) hc37 hi36 ?_
    refine X.nameL (fun x38 hx38 => ?_)
    have h := lt_at hx38 h
    have j0 := Option.some.inj h
    obtain ⟨i0, j1⟩ := Prod.mk.inj j0
    obtain ⟨i1, j2⟩ := Prod.mk.inj j1
    subst i0
    subst i1
    subst j2
    exact X.lreturn (pc := 122) (by decide +kernel) rfl ⟨rfl, rfl, rfl, rfl, rfl, rfl⟩
set_option maxRecDepth 100000 in
noncomputable def l_Mod_lies_75 (S : MS) (R : MR) (I : MI) (v0 : Nat) (v1 : Int32) (v2 : Int32) (v3 : Int32) (v4 : Int32) : Nat → Int32 → Option Int32
  | 0, _ => none
  | f + 1, v5 =>
    bnd1 (f_Mod_leads S R I v0 v3 v2 v5) fun x20 =>
    ifb (x20 = 0)
      (l_Mod_lies_75 S R I v0 v1 v2 v3 v4 f (v5 + 1))
      (bnd1 (f_Mod_isLie S R I v0 v3 v2 v5) fun x23 =>
      bnd1 (f_Mod_flag x23) fun x25 =>
      bnd1 (R v0 46) fun b27 =>
      bnd1 (f_Mod_turned v2 v5) fun x28 =>
      lt ((4 * (v3 + 1)) + x28) fun (x30 : Int32) =>
      asrt ((S b27).1 = 20) <|
      asrt (vp_in x30 (S b27).2) <|
      ifb ((x25 + (I b27 (Int32.toNatClampNeg x30))) = v4)
        (some v5)
        (l_Mod_lies_75 S R I v0 v1 v2 v3 v4 f (v5 + 1)))
set_option maxRecDepth 100000 in
set_option maxHeartbeats 4000000 in
theorem xl_Mod_lies_75 {E : Env} (hE : OKE E) {tg : Bool} {d : Nat} (hd : 5 ≤ d) {S : MS} {I : MI} {L : ML} {R : MR} {n : Nat} {v0 : Nat} {v1 : Int32} {v2 : Int32} {v3 : Int32} {v4 : Int32} {K : KT} :
    ∀ {f : Nat}  {v5 : Int32} {o5 : Int32}, (S v0).1 = 12 → l_Mod_lies_75 S R I v0 v1 v2 v3 v4 f v5 = some o5 → X E y_Mod_lies b_Mod_lies 6 (some .int) tg d 0 0 126 [some (.ref (e_b E + v0)), some (.int v1), some (.int v2), some (.int v3), none, some (.int o5)] [] S I L R n K → X E y_Mod_lies b_Mod_lies 6 (some .int) tg d 0 0 75 [some (.ref (e_b E + v0)), some (.int v1), some (.int v2), some (.int v3), some (.int v4), some (.int v5)] [] S I L R n K := by
  intro f
  induction f with
  | zero =>
    intro v5 o5 hS h hk
    rw [l_Mod_lies_75] at h
    cases h
  | succ f ih =>
    intro v5 o5 hS h hk
    rw [l_Mod_lies_75] at h
    refine X.aload_0 (pc := 75) (by decide +kernel) ?_
    refine X.iload_3 (pc := 76) (by decide +kernel) ?_
    refine X.iload_2 (pc := 77) (by decide +kernel) ?_
    refine X.iload_5 (pc := 78) (by decide +kernel) ?_
    obtain ⟨x20, hv21, h⟩ := bnd1_some h
    refine X.callVi (pc := 80) (nc := 0) (ns := 0) (c_Mod_leads hE (dle hd (Nat.le_of_ble_eq_true rfl)) hS hv21) cv_Mod_407 (by decide +kernel) hS ⟨by decide, rfl⟩ (ddd hd (Nat.le_of_ble_eq_true rfl)) rfl (Nat.le_of_ble_eq_true rfl) rfl rfl ?_
    rcases ifb_some h with ⟨hq22, h⟩ | ⟨hq22, h⟩
    · refine X.if_eq_t (pc := 83) (off := 37) (tgt := 120) hq22 rfl (by decide +kernel) ?_
      refine X.iinc_5 (pc := 120) (z := 1) (v := 1) ic_1 (by decide +kernel) (by decide) rfl ?_
      refine X.goto (pc := 123) (off := (-48)) (tgt := 75) (by decide +kernel) rfl ?_
      exact ih hS h hk
    · refine X.if_eq_f (pc := 83) (off := 37) (tgt := 120) hq22 rfl (by decide +kernel) ?_
      refine X.aload_0 (pc := 86) (by decide +kernel) ?_
      refine X.iload_3 (pc := 87) (by decide +kernel) ?_
      refine X.iload_2 (pc := 88) (by decide +kernel) ?_
      refine X.iload_5 (pc := 89) (by decide +kernel) ?_
      obtain ⟨x23, hv24, h⟩ := bnd1_some h
      refine X.callVi (pc := 91) (nc := 0) (ns := 0) (c_Mod_isLie hE (dle hd (Nat.le_of_ble_eq_true rfl)) hS hv24) cv_Mod_411 (by decide +kernel) hS ⟨by decide, rfl⟩ (ddd hd (Nat.le_of_ble_eq_true rfl)) rfl (Nat.le_of_ble_eq_true rfl) rfl rfl ?_
      obtain ⟨x25, hv26, h⟩ := bnd1_some h
      refine X.callSi (pc := 94) (nc := 0) (ns := 0) (c_Mod_flag hE (dle hd (Nat.le_of_ble_eq_true rfl)) hv26) cv_Mod_155 (by decide +kernel) (ddd hd (Nat.le_of_ble_eq_true rfl)) rfl (Nat.le_of_ble_eq_true rfl) rfl rfl ?_
      refine X.aload_0 (pc := 97) (by decide +kernel) ?_
      obtain ⟨b27, hb27, h⟩ := bnd1_some h
      refine X.getR (pc := 98) (k := 46) fw_Mod_123 (by decide +kernel) (fun _ => rfl) hS hb27 ?_
      refine X.iconst (pc := 101) (i := 4) (v := 4) ic_4 (by decide +kernel) ?_
      refine X.iload_3 (pc := 102) (by decide +kernel) ?_
      refine X.iconst (pc := 103) (i := 1) (v := 1) ic_1 (by decide +kernel) ?_
      refine X.iadd (pc := 104) (by decide +kernel) ?_
      refine X.imul (pc := 105) (by decide +kernel) ?_
      refine X.iload_2 (pc := 106) (by decide +kernel) ?_
      refine X.iload_5 (pc := 107) (by decide +kernel) ?_
      obtain ⟨x28, hv29, h⟩ := bnd1_some h
      refine X.callSi (pc := 109) (nc := 0) (ns := 0) (c_Mod_turned hE (dle hd (Nat.le_of_ble_eq_true rfl)) hv29) cv_Mod_249 (by decide +kernel) (ddd hd (Nat.le_of_ble_eq_true rfl)) rfl (Nat.le_of_ble_eq_true rfl) rfl rfl ?_
      refine X.iadd (pc := 112) (by decide +kernel) ?_
      refine X.nameI (fun x30 hx30 => ?_)
      have h := lt_at hx30 h
      obtain ⟨hc32, h⟩ := asrt_some h
      obtain ⟨hi31, h⟩ := asrt_some h
      refine X.iaload (pc := 113) (by decide +kernel) hc32 hi31 ?_
      refine X.iadd (pc := 114) (by decide +kernel) ?_
      refine X.iload_4 (pc := 115) (by decide +kernel) ?_
      rcases ifb_some h with ⟨hq33, h⟩ | ⟨hq33, h⟩
      · refine X.icmp_eq_t (pc := 117) (off := 9) (tgt := 126) hq33 rfl (by decide +kernel) ?_
        have j0 := Option.some.inj h
        subst j0
        refine X.fgt (o' := [some (.ref (e_b E + v0)), some (.int v1), some (.int v2), some (.int v3), none, some (.int v5)]) ⟨rfl, ⟨rfl, ⟨rfl, ⟨rfl, ⟨rfl, trivial⟩⟩⟩⟩⟩ ?_
        exact hk
      · refine X.icmp_eq_f (pc := 117) (off := 9) (tgt := 126) hq33 rfl (by decide +kernel) ?_
        refine X.iinc_5 (pc := 120) (z := 1) (v := 1) ic_1 (by decide +kernel) (by decide) rfl ?_
        refine X.goto (pc := 123) (off := (-48)) (tgt := 75) (by decide +kernel) rfl ?_
        exact ih hS h hk
set_option maxRecDepth 100000 in
noncomputable def l_Mod_lies_50 (g : Nat) (S : MS) (R : MR) (v0 : Nat) (v1 : Int32) : Nat → MI → ML → Int32 → Int32 → Option (MI × ML)
  | 0, _, _, _, _ => none
  | f + 1, I, L, v2, v3 =>
    ifb (((I v0 42) - 1) ≤ v3)
      (some (I, L))
      (bnd1 (R v0 46) fun b15 =>
      lt ((4 * v3) + v2) fun (x16 : Int32) =>
      asrt ((S b15).1 = 20) <|
      asrt (vp_in x16 (S b15).2) <|
      lt (I b15 (Int32.toNatClampNeg x16)) fun (x19 : Int32) =>
      bnd1 (l_Mod_lies_75 S R I v0 v1 v2 v3 x19 g 0) fun x34 =>
      bnd2 (f_Mod_enters S R I L v0 (Int32.toInt64 x34)) fun I36 L37 =>
      bnd1 (f_Mod_turned v2 x34) fun x39 =>
      l_Mod_lies_50 g S R v0 v1 f I36 L37 x39 (v3 + 1))
set_option maxRecDepth 100000 in
set_option maxHeartbeats 4000000 in
theorem xl_Mod_lies_50 {E : Env} (hE : OKE E) {tg : Bool} {d : Nat} (hd : 5 ≤ d) {g : Nat} {S : MS} {R : MR} {n : Nat} {v0 : Nat} {v1 : Int32} {K : KT} :
    ∀ {f : Nat} {I : MI} {L : ML} {v2 : Int32} {v3 : Int32} {I' : MI} {L' : ML}, (S v0).1 = 12 → l_Mod_lies_50 g S R v0 v1 f I L v2 v3 = some (I', L') → X E y_Mod_lies b_Mod_lies 6 (some .int) tg d 0 0 146 [none, some (.int v1), none, none, none, none] [] S I' L' R n K → X E y_Mod_lies b_Mod_lies 6 (some .int) tg d 0 0 50 [some (.ref (e_b E + v0)), some (.int v1), some (.int v2), some (.int v3), none, none] [] S I L R n K := by
  intro f
  induction f with
  | zero =>
    intro I L v2 v3 I' L' hS h hk
    rw [l_Mod_lies_50] at h
    cases h
  | succ f ih =>
    intro I L v2 v3 I' L' hS h hk
    rw [l_Mod_lies_50] at h
    refine X.iload_3 (pc := 50) (by decide +kernel) ?_
    refine X.aload_0 (pc := 51) (by decide +kernel) ?_
    refine X.getI (pc := 52) (k := 42) fw_Mod_198 (by decide +kernel) (fun _ => rfl) hS ?_
    refine X.iconst (pc := 55) (i := 1) (v := 1) ic_1 (by decide +kernel) ?_
    refine X.isub (pc := 56) (by decide +kernel) ?_
    rcases ifb_some h with ⟨hq14, h⟩ | ⟨hq14, h⟩
    · refine X.icmp_ge_t (pc := 57) (off := 89) (tgt := 146) hq14 rfl (by decide +kernel) ?_
      have j0 := Option.some.inj h
      obtain ⟨i0, j1⟩ := Prod.mk.inj j0
      subst i0
      subst j1
      refine X.fgt (o' := [none, some (.int v1), none, none, none, none]) ⟨rfl, trivial⟩ ?_
      exact hk
    · refine X.icmp_ge_f (pc := 57) (off := 89) (tgt := 146) hq14 rfl (by decide +kernel) ?_
      refine X.aload_0 (pc := 60) (by decide +kernel) ?_
      obtain ⟨b15, hb15, h⟩ := bnd1_some h
      refine X.getR (pc := 61) (k := 46) fw_Mod_123 (by decide +kernel) (fun _ => rfl) hS hb15 ?_
      refine X.iconst (pc := 64) (i := 4) (v := 4) ic_4 (by decide +kernel) ?_
      refine X.iload_3 (pc := 65) (by decide +kernel) ?_
      refine X.imul (pc := 66) (by decide +kernel) ?_
      refine X.iload_2 (pc := 67) (by decide +kernel) ?_
      refine X.iadd (pc := 68) (by decide +kernel) ?_
      refine X.nameI (fun x16 hx16 => ?_)
      have h := lt_at hx16 h
      obtain ⟨hc18, h⟩ := asrt_some h
      obtain ⟨hi17, h⟩ := asrt_some h
      refine X.iaload (pc := 69) (by decide +kernel) hc18 hi17 ?_
      refine X.nameI (fun x19 hx19 => ?_)
      have h := lt_at hx19 h
      refine X.istore_4 (pc := 70) (by decide +kernel) (by decide) rfl ?_
      refine X.iconst (pc := 72) (i := 0) (v := 0) ic_0 (by decide +kernel) ?_
      refine X.istore_5 (pc := 73) (by decide +kernel) (by decide) rfl ?_
      obtain ⟨x34, hv35, h⟩ := bnd1_some h
      refine xl_Mod_lies_75 hE hd hS hv35 ?_
      refine X.aload_0 (pc := 126) (by decide +kernel) ?_
      refine X.iload_5 (pc := 127) (by decide +kernel) ?_
      refine X.i2l (pc := 129) (by decide +kernel) ?_
      obtain ⟨I36, L37, hv38, h⟩ := bnd2_some h
      refine X.callVv (pc := 130) (nc := 0) (ns := 0) (c_Mod_enters hE (dle hd (Nat.le_of_ble_eq_true rfl)) hS hv38) cv_Mod_24 (by decide +kernel) hS ⟨by decide, rfl⟩ (ddd hd (Nat.le_of_ble_eq_true rfl)) rfl (Nat.le_of_ble_eq_true rfl) rfl rfl ?_
      refine X.iload_2 (pc := 133) (by decide +kernel) ?_
      refine X.iload_5 (pc := 134) (by decide +kernel) ?_
      obtain ⟨x39, hv40, h⟩ := bnd1_some h
      refine X.callSi (pc := 136) (nc := 0) (ns := 0) (c_Mod_turned hE (dle hd (Nat.le_of_ble_eq_true rfl)) hv40) cv_Mod_249 (by decide +kernel) (ddd hd (Nat.le_of_ble_eq_true rfl)) rfl (Nat.le_of_ble_eq_true rfl) rfl rfl ?_
      refine X.istore_2 (pc := 139) (by decide +kernel) (by decide) rfl ?_
      refine X.iinc_3 (pc := 140) (z := 1) (v := 1) ic_1 (by decide +kernel) (by decide) rfl ?_
      refine X.goto (pc := 143) (off := (-93)) (tgt := 50) (by decide +kernel) rfl ?_
      refine X.fgt (o' := [some (.ref (e_b E + v0)), some (.int v1), some (.int x39), some (.int (v3 + 1)), none, none]) ⟨rfl, ⟨rfl, ⟨rfl, ⟨rfl, trivial⟩⟩⟩⟩ ?_
      exact ih hS h hk
set_option maxRecDepth 100000 in
noncomputable def f_Mod_lies (g : Nat) (S : MS) (R : MR) (I : MI) (L : ML) (t : Nat) : Option (Int32 × MI × ML) :=
  lt (wI I t 0 0) fun (I1 : MI) =>
  ifb ((I1 t 42) = 0)
    (some ((-1), I1, L))
    (bnd2 (f_Mod_looksBack g S R I1 L t) fun I3 L4 =>
    bnd1 (R t 46) fun b6 =>
    lt (I3 t 43) fun (x7 : Int32) =>
    asrt ((S b6).1 = 20) <|
    asrt (vp_in x7 (S b6).2) <|
    lt (I3 b6 (Int32.toNatClampNeg x7)) fun (x10 : Int32) =>
    ifb (x10 < 1000000)
      (lt (wI I3 t 1 0) fun (I12 : MI) =>
      lt (I12 t 43) fun (x13 : Int32) =>
      bnd2 (l_Mod_lies_50 g S R t x10 g I12 L4 x13 0) fun I41 L42 =>
      some (x10, I41, L42))
      (some ((-2), I3, L4)))
set_option maxRecDepth 100000 in
set_option maxHeartbeats 4000000 in
theorem c_Mod_lies {E : Env} (hE : OKE E) {tg : Bool} {d : Nat} (hd : 5 ≤ d) {g : Nat} {S : MS} {I : MI} {L : ML} {R : MR} {n : Nat} {t : Nat} {v : Int32} {I' : MI} {L' : ML} (hS : (S t).1 = 12) (h : f_Mod_lies g S R I L t = some (v, I', L')) : C E y_Mod_lies b_Mod_lies 6 (some .int) tg d 0 0 [.ref (e_b E + t)] S I L R n (Kq (some (.int v)) S I' L' R n) := by
  refine C.of (o := [some (.ref (e_b E + t)), none, none, none, none, none]) (by decide) rfl (Nat.le_of_ble_eq_true rfl) ?_
  rw [f_Mod_lies] at h
  refine X.aload_0 (pc := 0) (by decide +kernel) ?_
  refine X.iconst (pc := 1) (i := 0) (v := 0) ic_0 (by decide +kernel) ?_
  refine X.putI (pc := 2) (k := 0) fw_Mod_3 (by decide +kernel) rfl rfl hS ?_
  refine X.nameMI (fun I1 hI1 => ?_)
  have h := lt_at hI1 h
  refine X.aload_0 (pc := 5) (by decide +kernel) ?_
  refine X.getI (pc := 6) (k := 42) fw_Mod_198 (by decide +kernel) (fun _ => rfl) hS ?_
  rcases ifb_some h with ⟨hq2, h⟩ | ⟨hq2, h⟩
  · refine X.if_ne_f (pc := 9) (off := 5) (tgt := 14) hq2 rfl (by decide +kernel) ?_
    refine X.iconst (pc := 12) (i := (-1)) (v := (-1)) ic_m1 (by decide +kernel) ?_
    have j0 := Option.some.inj h
    obtain ⟨i0, j1⟩ := Prod.mk.inj j0
    obtain ⟨i1, j2⟩ := Prod.mk.inj j1
    subst i0
    subst i1
    subst j2
    exact X.ireturn (pc := 13) (by decide +kernel) ⟨_, rfl, rfl⟩ ⟨rfl, rfl, rfl, rfl, rfl, rfl⟩
  · refine X.if_ne_t (pc := 9) (off := 5) (tgt := 14) hq2 rfl (by decide +kernel) ?_
    refine X.aload_0 (pc := 14) (by decide +kernel) ?_
    obtain ⟨I3, L4, hv5, h⟩ := bnd2_some h
    refine X.callVv (pc := 15) (nc := 0) (ns := 0) (c_Mod_looksBack hE (dle hd (Nat.le_of_ble_eq_true rfl)) hS hv5) cv_Mod_416 (by decide +kernel) hS ⟨by decide, rfl⟩ (ddd hd (Nat.le_of_ble_eq_true rfl)) rfl (Nat.le_of_ble_eq_true rfl) rfl rfl ?_
    refine X.aload_0 (pc := 18) (by decide +kernel) ?_
    obtain ⟨b6, hb6, h⟩ := bnd1_some h
    refine X.getR (pc := 19) (k := 46) fw_Mod_123 (by decide +kernel) (fun _ => rfl) hS hb6 ?_
    refine X.aload_0 (pc := 22) (by decide +kernel) ?_
    refine X.getI (pc := 23) (k := 43) fw_Mod_404 (by decide +kernel) (fun _ => rfl) hS ?_
    refine X.nameI (fun x7 hx7 => ?_)
    have h := lt_at hx7 h
    obtain ⟨hc9, h⟩ := asrt_some h
    obtain ⟨hi8, h⟩ := asrt_some h
    refine X.iaload (pc := 26) (by decide +kernel) hc9 hi8 ?_
    refine X.nameI (fun x10 hx10 => ?_)
    have h := lt_at hx10 h
    refine X.istore_1 (pc := 27) (by decide +kernel) (by decide) rfl ?_
    refine X.iload_1 (pc := 28) (by decide +kernel) ?_
    refine X.ldcw (pc := 29) (x := 284) (v := 1000000) ld_Mod_284 (by decide +kernel) ?_
    rcases ifb_some h with ⟨hq11, h⟩ | ⟨hq11, h⟩
    · refine X.icmp_lt_t (pc := 32) (off := 6) (tgt := 38) hq11 rfl (by decide +kernel) ?_
      refine X.aload_0 (pc := 38) (by decide +kernel) ?_
      refine X.iconst (pc := 39) (i := 0) (v := 0) ic_0 (by decide +kernel) ?_
      refine X.putI (pc := 40) (k := 1) fw_Mod_21 (by decide +kernel) rfl rfl hS ?_
      refine X.nameMI (fun I12 hI12 => ?_)
      have h := lt_at hI12 h
      refine X.aload_0 (pc := 43) (by decide +kernel) ?_
      refine X.getI (pc := 44) (k := 43) fw_Mod_404 (by decide +kernel) (fun _ => rfl) hS ?_
      refine X.nameI (fun x13 hx13 => ?_)
      have h := lt_at hx13 h
      refine X.istore_2 (pc := 47) (by decide +kernel) (by decide) rfl ?_
      refine X.iconst (pc := 48) (i := 0) (v := 0) ic_0 (by decide +kernel) ?_
      refine X.istore_3 (pc := 49) (by decide +kernel) (by decide) rfl ?_
      obtain ⟨I41, L42, hv43, h⟩ := bnd2_some h
      refine xl_Mod_lies_50 hE hd hS hv43 ?_
      refine X.iload_1 (pc := 146) (by decide +kernel) ?_
      have j0 := Option.some.inj h
      obtain ⟨i0, j1⟩ := Prod.mk.inj j0
      obtain ⟨i1, j2⟩ := Prod.mk.inj j1
      subst i0
      subst i1
      subst j2
      exact X.ireturn (pc := 147) (by decide +kernel) ⟨_, rfl, rfl⟩ ⟨rfl, rfl, rfl, rfl, rfl, rfl⟩
    · refine X.icmp_lt_f (pc := 32) (off := 6) (tgt := 38) hq11 rfl (by decide +kernel) ?_
      refine X.bipush (pc := 35) (i := (-2)) (v := (-2)) bp_m2 (by decide +kernel) ?_
      have j0 := Option.some.inj h
      obtain ⟨i0, j1⟩ := Prod.mk.inj j0
      obtain ⟨i1, j2⟩ := Prod.mk.inj j1
      subst i0
      subst i1
      subst j2
      exact X.ireturn (pc := 37) (by decide +kernel) ⟨_, rfl, rfl⟩ ⟨rfl, rfl, rfl, rfl, rfl, rfl⟩
set_option maxRecDepth 100000 in
noncomputable def f_Mod_worth (S : MS) (R : MR) (I : MI) (t : Nat) (p1 : Int32) (p2 : Int32) (p3 : Int32) : Option (Int32 × MI) :=
  lt (wI I t 0 0) fun (I1 : MI) =>
  bnd1 (f_Mod_in (Int32.toInt64 p1) 0 4) fun x2 =>
  ifb (x2 = 0)
    (some ((-1), I1))
    (bnd1 (f_Mod_in (Int32.toInt64 p2) 0 4) fun x5 =>
    ifb (x5 = 0)
      (some ((-1), I1))
      (bnd1 (f_Mod_in (Int32.toInt64 p3) 0 99) fun x8 =>
      ifb (x8 = 0)
        (some ((-1), I1))
        (bnd1 (R t 47) fun b11 =>
        lt ((5 * p1) + p2) fun (x12 : Int32) =>
        asrt ((S b11).1 = 20) <|
        asrt (vp_in x12 (S b11).2) <|
        lt (I1 b11 (Int32.toNatClampNeg x12)) fun (x15 : Int32) =>
        asrt (vp_in ((5 * p1) + p2) (S b11).2) <|
        lt (wI I1 b11 (Int32.toNatClampNeg ((5 * p1) + p2)) p3) fun (I17 : MI) =>
        some (x15, I17))))
set_option maxRecDepth 100000 in
set_option maxHeartbeats 4000000 in
theorem c_Mod_worth {E : Env} (hE : OKE E) {tg : Bool} {d : Nat} (hd : 1 ≤ d) {S : MS} {I : MI} {L : ML} {R : MR} {n : Nat} {t : Nat} {p1 : Int32} {p2 : Int32} {p3 : Int32} {v : Int32} {I' : MI} (hS : (S t).1 = 12) (h : f_Mod_worth S R I t p1 p2 p3 = some (v, I')) : C E y_Mod_worth b_Mod_worth 5 (some .int) tg d 0 0 [.ref (e_b E + t), .int p1, .int p2, .int p3] S I L R n (Kq (some (.int v)) S I' L R n) := by
  refine C.of (o := [some (.ref (e_b E + t)), some (.int p1), some (.int p2), some (.int p3), none]) (by decide) rfl (Nat.le_of_ble_eq_true rfl) ?_
  rw [f_Mod_worth] at h
  refine X.aload_0 (pc := 0) (by decide +kernel) ?_
  refine X.iconst (pc := 1) (i := 0) (v := 0) ic_0 (by decide +kernel) ?_
  refine X.putI (pc := 2) (k := 0) fw_Mod_3 (by decide +kernel) rfl rfl hS ?_
  refine X.nameMI (fun I1 hI1 => ?_)
  have h := lt_at hI1 h
  refine X.iload_1 (pc := 5) (by decide +kernel) ?_
  refine X.i2l (pc := 6) (by decide +kernel) ?_
  refine X.lconst (pc := 7) (i := 0) (v := 0) rfl (by decide +kernel) ?_
  refine X.ldc2 (pc := 8) (x := 419) (v := 4) ld_Mod_419 (by decide +kernel) ?_
  obtain ⟨x2, hv3, h⟩ := bnd1_some h
  refine X.callSi (pc := 11) (nc := 0) (ns := 0) (c_Mod_in hE (dle hd (Nat.le_of_ble_eq_true rfl)) hv3) cv_Mod_151 (by decide +kernel) (ddd hd (Nat.le_of_ble_eq_true rfl)) rfl (Nat.le_of_ble_eq_true rfl) rfl rfl ?_
  rcases ifb_some h with ⟨hq4, h⟩ | ⟨hq4, h⟩
  · refine X.if_eq_t (pc := 14) (off := 27) (tgt := 41) hq4 rfl (by decide +kernel) ?_
    refine X.iconst (pc := 41) (i := (-1)) (v := (-1)) ic_m1 (by decide +kernel) ?_
    have j0 := Option.some.inj h
    obtain ⟨i0, j1⟩ := Prod.mk.inj j0
    subst i0
    subst j1
    exact X.ireturn (pc := 42) (by decide +kernel) ⟨_, rfl, rfl⟩ ⟨rfl, rfl, rfl, rfl, rfl, rfl⟩
  · refine X.if_eq_f (pc := 14) (off := 27) (tgt := 41) hq4 rfl (by decide +kernel) ?_
    refine X.iload_2 (pc := 17) (by decide +kernel) ?_
    refine X.i2l (pc := 18) (by decide +kernel) ?_
    refine X.lconst (pc := 19) (i := 0) (v := 0) rfl (by decide +kernel) ?_
    refine X.ldc2 (pc := 20) (x := 419) (v := 4) ld_Mod_419 (by decide +kernel) ?_
    obtain ⟨x5, hv6, h⟩ := bnd1_some h
    refine X.callSi (pc := 23) (nc := 0) (ns := 0) (c_Mod_in hE (dle hd (Nat.le_of_ble_eq_true rfl)) hv6) cv_Mod_151 (by decide +kernel) (ddd hd (Nat.le_of_ble_eq_true rfl)) rfl (Nat.le_of_ble_eq_true rfl) rfl rfl ?_
    rcases ifb_some h with ⟨hq7, h⟩ | ⟨hq7, h⟩
    · refine X.if_eq_t (pc := 26) (off := 15) (tgt := 41) hq7 rfl (by decide +kernel) ?_
      refine X.iconst (pc := 41) (i := (-1)) (v := (-1)) ic_m1 (by decide +kernel) ?_
      have j0 := Option.some.inj h
      obtain ⟨i0, j1⟩ := Prod.mk.inj j0
      subst i0
      subst j1
      exact X.ireturn (pc := 42) (by decide +kernel) ⟨_, rfl, rfl⟩ ⟨rfl, rfl, rfl, rfl, rfl, rfl⟩
    · refine X.if_eq_f (pc := 26) (off := 15) (tgt := 41) hq7 rfl (by decide +kernel) ?_
      refine X.iload_3 (pc := 29) (by decide +kernel) ?_
      refine X.i2l (pc := 30) (by decide +kernel) ?_
      refine X.lconst (pc := 31) (i := 0) (v := 0) rfl (by decide +kernel) ?_
      refine X.ldc2 (pc := 32) (x := 421) (v := 99) ld_Mod_421 (by decide +kernel) ?_
      obtain ⟨x8, hv9, h⟩ := bnd1_some h
      refine X.callSi (pc := 35) (nc := 0) (ns := 0) (c_Mod_in hE (dle hd (Nat.le_of_ble_eq_true rfl)) hv9) cv_Mod_151 (by decide +kernel) (ddd hd (Nat.le_of_ble_eq_true rfl)) rfl (Nat.le_of_ble_eq_true rfl) rfl rfl ?_
      rcases ifb_some h with ⟨hq10, h⟩ | ⟨hq10, h⟩
      · refine X.if_ne_f (pc := 38) (off := 5) (tgt := 43) hq10 rfl (by decide +kernel) ?_
        refine X.iconst (pc := 41) (i := (-1)) (v := (-1)) ic_m1 (by decide +kernel) ?_
        have j0 := Option.some.inj h
        obtain ⟨i0, j1⟩ := Prod.mk.inj j0
        subst i0
        subst j1
        exact X.ireturn (pc := 42) (by decide +kernel) ⟨_, rfl, rfl⟩ ⟨rfl, rfl, rfl, rfl, rfl, rfl⟩
      · refine X.if_ne_t (pc := 38) (off := 5) (tgt := 43) hq10 rfl (by decide +kernel) ?_
        refine X.aload_0 (pc := 43) (by decide +kernel) ?_
        obtain ⟨b11, hb11, h⟩ := bnd1_some h
        refine X.getR (pc := 44) (k := 47) fw_Mod_126 (by decide +kernel) (fun _ => rfl) hS hb11 ?_
        refine X.iconst (pc := 47) (i := 5) (v := 5) ic_5 (by decide +kernel) ?_
        refine X.iload_1 (pc := 48) (by decide +kernel) ?_
        refine X.imul (pc := 49) (by decide +kernel) ?_
        refine X.iload_2 (pc := 50) (by decide +kernel) ?_
        refine X.iadd (pc := 51) (by decide +kernel) ?_
        refine X.nameI (fun x12 hx12 => ?_)
        have h := lt_at hx12 h
        obtain ⟨hc14, h⟩ := asrt_some h
        obtain ⟨hi13, h⟩ := asrt_some h
        refine X.iaload (pc := 52) (by decide +kernel) hc14 hi13 ?_
        refine X.nameI (fun x15 hx15 => ?_)
        have h := lt_at hx15 h
        refine X.istore_4 (pc := 53) (by decide +kernel) (by decide) rfl ?_
        refine X.aload_0 (pc := 55) (by decide +kernel) ?_
        refine X.getR (pc := 56) (k := 47) fw_Mod_126 (by decide +kernel) (fun _ => rfl) hS hb11 ?_
        refine X.iconst (pc := 59) (i := 5) (v := 5) ic_5 (by decide +kernel) ?_
        refine X.iload_1 (pc := 60) (by decide +kernel) ?_
        refine X.imul (pc := 61) (by decide +kernel) ?_
        refine X.iload_2 (pc := 62) (by decide +kernel) ?_
        refine X.iadd (pc := 63) (by decide +kernel) ?_
        refine X.iload_3 (pc := 64) (by decide +kernel) ?_
        obtain ⟨hi16, h⟩ := asrt_some h
        refine X.iastore (pc := 65) (by decide +kernel) hc14 hi16 ?_
        refine X.nameMI (fun I17 hI17 => ?_)
        have h := lt_at hI17 h
        refine X.iload_4 (pc := 66) (by decide +kernel) ?_
        have j0 := Option.some.inj h
        obtain ⟨i0, j1⟩ := Prod.mk.inj j0
        subst i0
        subst j1
        exact X.ireturn (pc := 68) (by decide +kernel) ⟨_, rfl, rfl⟩ ⟨rfl, rfl, rfl, rfl, rfl, rfl⟩
set_option maxRecDepth 100000 in
noncomputable def l_Mod_hires_23 (S : MS) (R : MR) (v0 : Nat) (v2 : Int32) : Nat → MI → Int32 → Option MI
  | 0, _, _ => none
  | f + 1, I, v6 =>
    ifb (v2 ≤ v6)
      (some I)
      (bnd1 (R v0 49) fun b8 =>
      bnd1 (R v0 48) fun b9 =>
      asrt ((S b9).1 = 20) <|
      asrt (vp_in v6 (S b9).2) <|
      lt (I b9 (Int32.toNatClampNeg v6)) fun (x12 : Int32) =>
      asrt ((S b8).1 = 20) <|
      asrt (vp_in v6 (S b8).2) <|
      lt (wI I b8 (Int32.toNatClampNeg v6) x12) fun (I15 : MI) =>
      l_Mod_hires_23 S R v0 v2 f I15 (v6 + 1))
set_option maxRecDepth 100000 in
set_option maxHeartbeats 4000000 in
theorem xl_Mod_hires_23 {E : Env} (hE : OKE E) {tg : Bool} {d : Nat} {rd : Nat} (hd : rd + 1 ≤ d) {S : MS} {L : ML} {R : MR} {n : Nat} {v0 : Nat} {v2 : Int32} {K : KT} :
    ∀ {f : Nat} {I : MI} {v6 : Int32} {I' : MI}, (S v0).1 = 12 → l_Mod_hires_23 S R v0 v2 f I v6 = some I' → X E y_Mod_hires b_Mod_hires 7 none tg d 0 0 49 [none, none, none, none, none, none, none] [] S I' L R n K → X E y_Mod_hires b_Mod_hires 7 none tg d 0 0 23 [some (.ref (e_b E + v0)), none, some (.int v2), none, none, none, some (.int v6)] [] S I L R n K := by
  intro f
  induction f with
  | zero =>
    intro I v6 I' hS h hk
    rw [l_Mod_hires_23] at h
    cases h
  | succ f ih =>
    intro I v6 I' hS h hk
    rw [l_Mod_hires_23] at h
    refine X.iload_6 (pc := 23) (by decide +kernel) ?_
    refine X.iload_2 (pc := 25) (by decide +kernel) ?_
    rcases ifb_some h with ⟨hq7, h⟩ | ⟨hq7, h⟩
    · refine X.icmp_ge_t (pc := 26) (off := 23) (tgt := 49) hq7 rfl (by decide +kernel) ?_
      have j0 := Option.some.inj h
      subst j0
      refine X.fgt (o' := [none, none, none, none, none, none, none]) trivial ?_
      exact hk
    · refine X.icmp_ge_f (pc := 26) (off := 23) (tgt := 49) hq7 rfl (by decide +kernel) ?_
      refine X.aload_0 (pc := 29) (by decide +kernel) ?_
      obtain ⟨b8, hb8, h⟩ := bnd1_some h
      refine X.getR (pc := 30) (k := 49) fw_Mod_132 (by decide +kernel) (fun _ => rfl) hS hb8 ?_
      refine X.iload_6 (pc := 33) (by decide +kernel) ?_
      refine X.aload_0 (pc := 35) (by decide +kernel) ?_
      obtain ⟨b9, hb9, h⟩ := bnd1_some h
      refine X.getR (pc := 36) (k := 48) fw_Mod_129 (by decide +kernel) (fun _ => rfl) hS hb9 ?_
      refine X.iload_6 (pc := 39) (by decide +kernel) ?_
      obtain ⟨hc11, h⟩ := asrt_some h
      obtain ⟨hi10, h⟩ := asrt_some h
      refine X.iaload (pc := 41) (by decide +kernel) hc11 hi10 ?_
      refine X.nameI (fun x12 hx12 => ?_)
      have h := lt_at hx12 h
      obtain ⟨hc13, h⟩ := asrt_some h
      obtain ⟨hi14, h⟩ := asrt_some h
      refine X.iastore (pc := 42) (by decide +kernel) hc13 hi14 ?_
      refine X.nameMI (fun I15 hI15 => ?_)
      have h := lt_at hI15 h
      refine X.iinc_6 (pc := 43) (z := 1) (v := 1) ic_1 (by decide +kernel) (by decide) rfl ?_
      refine X.goto (pc := 46) (off := (-23)) (tgt := 23) (by decide +kernel) rfl ?_
      exact ih hS h hk
set_option maxRecDepth 100000 in
noncomputable def l_Mod_hires_53 (self : MS → MR → MI → Nat → Int32 → Int32 → Int32 → Int32 → Int32 → Option MI) (S : MS) (R : MR) (v0 : Nat) (v1 : Int32) (v2 : Int32) (v3 : Int32) (v4 : Int32) (v5 : Int32) : Nat → MI → Int32 → Option MI
  | 0, _, _ => none
  | f + 1, I, v6 =>
    ifb (v2 ≤ v6)
      (some I)
      (bnd1 (f_Mod_has v3 v6) fun x19 =>
      bnd1 (ifb (x19 = 0)
          (bnd1 (R v0 48) fun b25 =>
          asrt ((S b25).1 = 20) <|
          asrt (vp_in v1 (S b25).2) <|
          lt (wI I b25 (Int32.toNatClampNeg v1) v6) fun (I28 : MI) =>
          bnd1 (ifb (v6 = v5)
              (some 0)
              (bnd1 (R v0 47) fun b33 =>
              lt ((5 * v6) + v1) fun (x34 : Int32) =>
              asrt ((S b33).1 = 20) <|
              asrt (vp_in x34 (S b33).2) <|
              some (I28 b33 (Int32.toNatClampNeg x34)))) fun (y30 : Int32) =>
          bnd1 (self S R I28 v0 (v1 + 1) v2 (v3 ||| (isl 1 v6)) (v4 + y30) v5) fun I37 =>
          some I37)
          (some I)) fun (I22 : MI) =>
      l_Mod_hires_53 self S R v0 v1 v2 v3 v4 v5 f I22 (v6 + 1))
set_option maxRecDepth 100000 in
set_option maxHeartbeats 4000000 in
theorem xl_Mod_hires_53 {E : Env} (hE : OKE E) {tg : Bool} {d : Nat} {rd : Nat} (hd : rd + 1 ≤ d) (self : MS → MR → MI → Nat → Int32 → Int32 → Int32 → Int32 → Int32 → Option MI) (hself : ∀ (S : MS) (I : MI) (L : ML) (R : MR) (n : Nat) (t : Nat) (q0 : Int32) (q1 : Int32) (q2 : Int32) (q3 : Int32) (q4 : Int32) (I' : MI), self S R I t q0 q1 q2 q3 q4 = some I' → (S t).1 = 12 → C E y_Mod_hires b_Mod_hires 7 none tg (d - 1) 0 0 [.ref (e_b E + t), .int q0, .int q1, .int q2, .int q3, .int q4] S I L R n (Kq none S I' L R n)) {S : MS} {L : ML} {R : MR} {n : Nat} {v0 : Nat} {v1 : Int32} {v2 : Int32} {v3 : Int32} {v4 : Int32} {v5 : Int32} {K : KT} :
    ∀ {f : Nat} {I : MI} {v6 : Int32} {I' : MI}, (S v0).1 = 12 → l_Mod_hires_53 self S R v0 v1 v2 v3 v4 v5 f I v6 = some I' → X E y_Mod_hires b_Mod_hires 7 none tg d 0 0 123 [none, none, none, none, none, none, none] [] S I' L R n K → X E y_Mod_hires b_Mod_hires 7 none tg d 0 0 53 [some (.ref (e_b E + v0)), some (.int v1), some (.int v2), some (.int v3), some (.int v4), some (.int v5), some (.int v6)] [] S I L R n K := by
  intro f
  induction f with
  | zero =>
    intro I v6 I' hS h hk
    rw [l_Mod_hires_53] at h
    cases h
  | succ f ih =>
    intro I v6 I' hS h hk
    rw [l_Mod_hires_53] at h
    refine X.iload_6 (pc := 53) (by decide +kernel) ?_
    refine X.iload_2 (pc := 55) (by decide +kernel) ?_
    rcases ifb_some h with ⟨hq18, h⟩ | ⟨hq18, h⟩
    · refine X.icmp_ge_t (pc := 56) (off := 67) (tgt := 123) hq18 rfl (by decide +kernel) ?_
      have j0 := Option.some.inj h
      subst j0
      refine X.fgt (o' := [none, none, none, none, none, none, none]) trivial ?_
      exact hk
    · refine X.icmp_ge_f (pc := 56) (off := 67) (tgt := 123) hq18 rfl (by decide +kernel) ?_
      refine X.iload_3 (pc := 59) (by decide +kernel) ?_
      refine X.iload_6 (pc := 60) (by decide +kernel) ?_
      obtain ⟨x19, hv20, h⟩ := bnd1_some h
      refine X.callSi (pc := 62) (nc := 0) (ns := 0) (c_Mod_has hE (dle hd (by omega)) hv20) cv_Mod_391 (by decide +kernel) (ddd hd (by omega)) rfl (Nat.le_of_ble_eq_true rfl) rfl rfl ?_
      obtain ⟨I22, hr23, h⟩ := bnd1_some h
      have hj24 : X E y_Mod_hires b_Mod_hires 7 none tg d 0 0 117 [some (.ref (e_b E + v0)), some (.int v1), some (.int v2), some (.int v3), some (.int v4), some (.int v5), some (.int v6)] [] S I22 L R n K := by
        refine X.iinc_6 (pc := 117) (z := 1) (v := 1) ic_1 (by decide +kernel) (by decide) rfl ?_
        refine X.goto (pc := 120) (off := (-67)) (tgt := 53) (by decide +kernel) rfl ?_
        exact ih hS h hk
      have h := hr23
      rcases ifb_some h with ⟨hq21, h⟩ | ⟨hq21, h⟩
      · refine X.if_ne_f (pc := 65) (off := 52) (tgt := 117) hq21 rfl (by decide +kernel) ?_
        refine X.aload_0 (pc := 68) (by decide +kernel) ?_
        obtain ⟨b25, hb25, h⟩ := bnd1_some h
        refine X.getR (pc := 69) (k := 48) fw_Mod_129 (by decide +kernel) (fun _ => rfl) hS hb25 ?_
        refine X.iload_1 (pc := 72) (by decide +kernel) ?_
        refine X.iload_6 (pc := 73) (by decide +kernel) ?_
        obtain ⟨hc26, h⟩ := asrt_some h
        obtain ⟨hi27, h⟩ := asrt_some h
        refine X.iastore (pc := 75) (by decide +kernel) hc26 hi27 ?_
        refine X.nameMI (fun I28 hI28 => ?_)
        have h := lt_at hI28 h
        refine X.aload_0 (pc := 76) (by decide +kernel) ?_
        refine X.iload_1 (pc := 77) (by decide +kernel) ?_
        refine X.iconst (pc := 78) (i := 1) (v := 1) ic_1 (by decide +kernel) ?_
        refine X.iadd (pc := 79) (by decide +kernel) ?_
        refine X.iload_2 (pc := 80) (by decide +kernel) ?_
        refine X.iload_3 (pc := 81) (by decide +kernel) ?_
        refine X.iconst (pc := 82) (i := 1) (v := 1) ic_1 (by decide +kernel) ?_
        refine X.iload_6 (pc := 83) (by decide +kernel) ?_
        refine X.ishl (pc := 85) (by decide +kernel) ?_
        refine X.ior (pc := 86) (by decide +kernel) ?_
        refine X.iload_4 (pc := 87) (by decide +kernel) ?_
        refine X.iload_6 (pc := 89) (by decide +kernel) ?_
        refine X.iload_5 (pc := 91) (by decide +kernel) ?_
        obtain ⟨y30, hr31, h⟩ := bnd1_some h
        have hj32 : X E y_Mod_hires b_Mod_hires 7 none tg d 0 0 111 [some (.ref (e_b E + v0)), some (.int v1), some (.int v2), some (.int v3), some (.int v4), some (.int v5), some (.int v6)] [.int y30, .int v4, .int (v3 ||| (isl 1 v6)), .int v2, .int (v1 + 1), .ref (e_b E + v0)] S I28 L R n K := by
          refine X.iadd (pc := 111) (by decide +kernel) ?_
          refine X.iload_5 (pc := 112) (by decide +kernel) ?_
          obtain ⟨I37, hv38, h⟩ := bnd1_some h
          refine X.callVv (pc := 114) (nc := 0) (ns := 0) (hself _ _ _ _ _ _ _ _ _ _ _ _  hv38 hS) cv_Mod_426 (by decide +kernel) hS ⟨by decide, rfl⟩ (ddd hd (by omega)) rfl (Nat.le_of_ble_eq_true rfl) rfl rfl ?_
          have j0 := Option.some.inj h
          subst j0
          exact hj24
        have h := hr31
        rcases ifb_some h with ⟨hq29, h⟩ | ⟨hq29, h⟩
        · refine X.icmp_ne_f (pc := 93) (off := 7) (tgt := 100) hq29 rfl (by decide +kernel) ?_
          refine X.iconst (pc := 96) (i := 0) (v := 0) ic_0 (by decide +kernel) ?_
          refine X.goto (pc := 97) (off := 14) (tgt := 111) (by decide +kernel) rfl ?_
          have j0 := Option.some.inj h
          subst j0
          exact hj32
        · refine X.icmp_ne_t (pc := 93) (off := 7) (tgt := 100) hq29 rfl (by decide +kernel) ?_
          refine X.aload_0 (pc := 100) (by decide +kernel) ?_
          obtain ⟨b33, hb33, h⟩ := bnd1_some h
          refine X.getR (pc := 101) (k := 47) fw_Mod_126 (by decide +kernel) (fun _ => rfl) hS hb33 ?_
          refine X.iconst (pc := 104) (i := 5) (v := 5) ic_5 (by decide +kernel) ?_
          refine X.iload_6 (pc := 105) (by decide +kernel) ?_
          refine X.imul (pc := 107) (by decide +kernel) ?_
          refine X.iload_1 (pc := 108) (by decide +kernel) ?_
          refine X.iadd (pc := 109) (by decide +kernel) ?_
          refine X.nameI (fun x34 hx34 => ?_)
          have h := lt_at hx34 h
          obtain ⟨hc36, h⟩ := asrt_some h
          obtain ⟨hi35, h⟩ := asrt_some h
          refine X.iaload (pc := 110) (by decide +kernel) hc36 hi35 ?_
          have j0 := Option.some.inj h
          subst j0
          exact hj32
      · refine X.if_ne_t (pc := 65) (off := 52) (tgt := 117) hq21 rfl (by decide +kernel) ?_
        have j0 := Option.some.inj h
        subst j0
        exact hj24
set_option maxRecDepth 100000 in
noncomputable def f_Mod_hires (g : Nat) : Nat → MS → MR → MI → Nat → Int32 → Int32 → Int32 → Int32 → Int32 → Option MI
  | 0, _, _, _, _, _, _, _, _, _ => none
  | rd + 1, S, R, I, t, p1, p2, p3, p4, p5 =>
    ifb (p1 = p2)
      (bnd1 (ifb (p4 ≤ (I t 50))
          (some I)
          (lt (wI I t 50 p4) fun (I6 : MI) =>
          bnd1 (l_Mod_hires_23 S R t p2 g I6 0) fun I16 =>
          some I16)) fun (I3 : MI) =>
      some I3)
      (bnd1 (l_Mod_hires_53 (f_Mod_hires g rd) S R t p1 p2 p3 p4 p5 g I 0) fun I39 =>
      some I39)
set_option maxRecDepth 100000 in
set_option maxHeartbeats 4000000 in
theorem c_Mod_hires {E : Env} (hE : OKE E) {tg : Bool} : ∀ {rd : Nat} {d : Nat} (hd : rd + 1 ≤ d) {g : Nat} {S : MS} {I : MI} {L : ML} {R : MR} {n : Nat} {t : Nat} {p1 : Int32} {p2 : Int32} {p3 : Int32} {p4 : Int32} {p5 : Int32} {I' : MI} (hS : (S t).1 = 12), f_Mod_hires g rd S R I t p1 p2 p3 p4 p5 = some I' → C E y_Mod_hires b_Mod_hires 7 none tg d 0 0 [.ref (e_b E + t), .int p1, .int p2, .int p3, .int p4, .int p5] S I L R n (Kq none S I' L R n) := by
  intro rd
  induction rd with
  | zero =>
    intro d hd g S I L R n t p1 p2 p3 p4 p5 I' hS h
    rw [f_Mod_hires] at h
    cases h
  | succ rd ihr =>
    intro d hd g S I L R n t p1 p2 p3 p4 p5 I' hS h
    refine C.of (o := [some (.ref (e_b E + t)), some (.int p1), some (.int p2), some (.int p3), some (.int p4), some (.int p5), none]) (by decide) rfl (Nat.le_of_ble_eq_true rfl) ?_
    rw [f_Mod_hires] at h
    have hself : ∀ (S : MS) (I : MI) (L : ML) (R : MR) (n : Nat) (t : Nat) (q0 : Int32) (q1 : Int32) (q2 : Int32) (q3 : Int32) (q4 : Int32) (I' : MI), f_Mod_hires g rd S R I t q0 q1 q2 q3 q4 = some I' → (S t).1 = 12 → C E y_Mod_hires b_Mod_hires 7 none tg (d - 1) 0 0 [.ref (e_b E + t), .int q0, .int q1, .int q2, .int q3, .int q4] S I L R n (Kq none S I' L R n) := fun _ _ _ _ _ _ _ _ _ _ _ _ h1 h2 => ihr (by omega) h2 h1
    refine X.iload_1 (pc := 0) (by decide +kernel) ?_
    refine X.iload_2 (pc := 1) (by decide +kernel) ?_
    rcases ifb_some h with ⟨hq1, h⟩ | ⟨hq1, h⟩
    · refine X.icmp_ne_f (pc := 2) (off := 48) (tgt := 50) hq1 rfl (by decide +kernel) ?_
      refine X.iload_4 (pc := 5) (by decide +kernel) ?_
      refine X.aload_0 (pc := 7) (by decide +kernel) ?_
      refine X.getI (pc := 8) (k := 50) fw_Mod_423 (by decide +kernel) (fun _ => rfl) hS ?_
      obtain ⟨I3, hr4, h⟩ := bnd1_some h
      have hj5 : X E y_Mod_hires b_Mod_hires 7 none tg d 0 0 49 [none, none, none, none, none, none, none] [] S I3 L R n (Kq none S I' L R n) := by
        have j0 := Option.some.inj h
        subst j0
        exact X.vreturn (pc := 49) (by decide +kernel) rfl ⟨rfl, rfl, rfl, rfl, rfl, rfl⟩
      have h := hr4
      rcases ifb_some h with ⟨hq2, h⟩ | ⟨hq2, h⟩
      · refine X.icmp_le_t (pc := 11) (off := 38) (tgt := 49) hq2 rfl (by decide +kernel) ?_
        have j0 := Option.some.inj h
        subst j0
        refine X.fgt (o' := [none, none, none, none, none, none, none]) trivial ?_
        exact hj5
      · refine X.icmp_le_f (pc := 11) (off := 38) (tgt := 49) hq2 rfl (by decide +kernel) ?_
        refine X.aload_0 (pc := 14) (by decide +kernel) ?_
        refine X.iload_4 (pc := 15) (by decide +kernel) ?_
        refine X.putI (pc := 17) (k := 50) fw_Mod_423 (by decide +kernel) rfl rfl hS ?_
        refine X.nameMI (fun I6 hI6 => ?_)
        have h := lt_at hI6 h
        refine X.iconst (pc := 20) (i := 0) (v := 0) ic_0 (by decide +kernel) ?_
        refine X.istore_6 (pc := 21) (by decide +kernel) (by decide) rfl ?_
        obtain ⟨I16, hv17, h⟩ := bnd1_some h
        refine X.fgt (o' := [some (.ref (e_b E + t)), none, some (.int p2), none, none, none, some (.int 0)]) ⟨rfl, ⟨rfl, ⟨rfl, trivial⟩⟩⟩ ?_
        refine xl_Mod_hires_23 hE hd hS hv17 ?_
        have j0 := Option.some.inj h
        subst j0
        exact hj5
    · refine X.icmp_ne_t (pc := 2) (off := 48) (tgt := 50) hq1 rfl (by decide +kernel) ?_
      refine X.iconst (pc := 50) (i := 0) (v := 0) ic_0 (by decide +kernel) ?_
      refine X.istore_6 (pc := 51) (by decide +kernel) (by decide) rfl ?_
      obtain ⟨I39, hv40, h⟩ := bnd1_some h
      refine xl_Mod_hires_53 hE hd (f_Mod_hires g rd) hself hS hv40 ?_
      have j0 := Option.some.inj h
      subst j0
      exact X.vreturn (pc := 123) (by decide +kernel) rfl ⟨rfl, rfl, rfl, rfl, rfl, rfl⟩
set_option maxRecDepth 100000 in
noncomputable def f_Mod_hiresBy (g : Nat) (S : MS) (R : MR) (I : MI) (t : Nat) (p1 : Int32) (p2 : Int32) : Option (Int32 × MI) :=
  lt (wI I t 50 (-1)) fun (I1 : MI) =>
  bnd1 (f_Mod_hires g 8 S R I1 t 0 p1 0 0 p2) fun I2 =>
  lt (I2 t 50) fun (x4 : Int32) =>
  some (x4, I2)
set_option maxRecDepth 100000 in
set_option maxHeartbeats 4000000 in
theorem c_Mod_hiresBy {E : Env} (hE : OKE E) {tg : Bool} {d : Nat} (hd : 10 ≤ d) {g : Nat} {S : MS} {I : MI} {L : ML} {R : MR} {n : Nat} {t : Nat} {p1 : Int32} {p2 : Int32} {v : Int32} {I' : MI} (hS : (S t).1 = 12) (h : f_Mod_hiresBy g S R I t p1 p2 = some (v, I')) : C E y_Mod_hiresBy b_Mod_hiresBy 3 (some .int) tg d 0 0 [.ref (e_b E + t), .int p1, .int p2] S I L R n (Kq (some (.int v)) S I' L R n) := by
  refine C.of (o := [some (.ref (e_b E + t)), some (.int p1), some (.int p2)]) (by decide) rfl (Nat.le_of_ble_eq_true rfl) ?_
  rw [f_Mod_hiresBy] at h
  refine X.aload_0 (pc := 0) (by decide +kernel) ?_
  refine X.iconst (pc := 1) (i := (-1)) (v := (-1)) ic_m1 (by decide +kernel) ?_
  refine X.putI (pc := 2) (k := 50) fw_Mod_423 (by decide +kernel) rfl rfl hS ?_
  refine X.nameMI (fun I1 hI1 => ?_)
  have h := lt_at hI1 h
  refine X.aload_0 (pc := 5) (by decide +kernel) ?_
  refine X.iconst (pc := 6) (i := 0) (v := 0) ic_0 (by decide +kernel) ?_
  refine X.iload_1 (pc := 7) (by decide +kernel) ?_
  refine X.iconst (pc := 8) (i := 0) (v := 0) ic_0 (by decide +kernel) ?_
  refine X.iconst (pc := 9) (i := 0) (v := 0) ic_0 (by decide +kernel) ?_
  refine X.iload_2 (pc := 10) (by decide +kernel) ?_
  obtain ⟨I2, hv3, h⟩ := bnd1_some h
  refine X.callVv (pc := 11) (nc := 0) (ns := 0) (c_Mod_hires hE (dle hd (Nat.le_of_ble_eq_true rfl)) hS hv3) cv_Mod_426 (by decide +kernel) hS ⟨by decide, rfl⟩ (ddd hd (Nat.le_of_ble_eq_true rfl)) rfl (Nat.le_of_ble_eq_true rfl) rfl rfl ?_
  refine X.aload_0 (pc := 14) (by decide +kernel) ?_
  refine X.getI (pc := 15) (k := 50) fw_Mod_423 (by decide +kernel) (fun _ => rfl) hS ?_
  refine X.nameI (fun x4 hx4 => ?_)
  have h := lt_at hx4 h
  have j0 := Option.some.inj h
  obtain ⟨i0, j1⟩ := Prod.mk.inj j0
  subst i0
  subst j1
  exact X.ireturn (pc := 18) (by decide +kernel) ⟨_, rfl, rfl⟩ ⟨rfl, rfl, rfl, rfl, rfl, rfl⟩
