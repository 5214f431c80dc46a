set_option maxRecDepth 100000 in
noncomputable def f_Signs_new (S : MS) (R : MR) (I : MI) (L : ML) (n : Nat) (t : Nat) : Option (MI × ML × MR × MS × Nat) :=
  lt (wS S n (20, 80)) fun (S1 : MS) =>
  lt (zI I n) fun (I2 : MI) =>
  lt (zL L n) fun (L3 : ML) =>
  lt (zR R n) fun (R4 : MR) =>
  lt (n + 1) fun (n5 : Nat) =>
  asrt ((S1 t).1 = 8) <|
  lt (wR R4 t 0 (some n)) fun (R7 : MR) =>
  some (I2, L3, R7, S1, n5)
set_option maxRecDepth 100000 in
set_option maxHeartbeats 4000000 in
theorem c_Signs_new {E : Env} (hE : OKE E) {d : Nat} (hd : 1 ≤ d) {S : MS} {I : MI} {L : ML} {R : MR} {n : Nat} {t : Nat} {I' : MI} {L' : ML} {R' : MR} {S' : MS} {n' : Nat} (hS : (S t).1 = 8) (h : f_Signs_new S R I L n t = some (I', L', R', S', n')) : C E y_Signs_new b_Signs_new 1 none true d 1 80 [.ref (e_b E + t)] S I L R n (Kq none S' I' L' R' n') := by
  refine C.of (o := [some (.ref (e_b E + t))]) (by decide) rfl (Nat.le_of_ble_eq_true rfl) ?_
  rw [f_Signs_new] at h
  refine X.aload_0 (pc := 0) (by decide +kernel) ?_
  refine X.objInit (pc := 1) (by decide +kernel) oi_Signs_3 oi_i oi_c (Nat.le_trans (Nat.le_of_ble_eq_true rfl) hd) (Nat.le_of_ble_eq_true rfl) ?_
  refine X.aload_0 (pc := 4) (by decide +kernel) ?_
  refine X.bipush (pc := 5) (i := 80) (v := 80) bp_80 (by decide +kernel) ?_
  refine X.newarray (pc := 7) (t := 20) (N := 80) (nc := 0) (ns := 0) (by decide +kernel) na_20 rfl (by decide) (Or.inl ⟨rfl, rfl⟩) rfl rfl rfl ?_
  refine X.nameMS (fun S1 hS1 => ?_)
  have h := lt_at hS1 h
  refine X.nameMI (fun I2 hI2 => ?_)
  have h := lt_at hI2 h
  refine X.nameML (fun L3 hL3 => ?_)
  have h := lt_at hL3 h
  refine X.nameMR (fun R4 hR4 => ?_)
  have h := lt_at hR4 h
  refine X.nameN (fun n5 hn5 => ?_)
  have h := lt_at hn5 h
  obtain ⟨hc6, h⟩ := asrt_some h
  refine X.putR (pc := 9) (k := 0) fw_Signs_9 (by decide +kernel) (Or.inr ⟨_, rfl⟩) hc6 (Or.inr ⟨rfl, rfl, rfl, wfl_Signs_9⟩) ?_
  refine X.nameMR (fun R7 hR7 => ?_)
  have h := lt_at hR7 h
  have j0 := Option.some.inj h
  obtain ⟨i0, j1⟩ := Prod.mk.inj j0
  obtain ⟨i1, j2⟩ := Prod.mk.inj j1
  obtain ⟨i2, j3⟩ := Prod.mk.inj j2
  obtain ⟨i3, j4⟩ := Prod.mk.inj j3
  subst i0
  subst i1
  subst i2
  subst i3
  subst j4
  exact X.vreturn (pc := 12) (by decide +kernel) rfl ⟨rfl, rfl, rfl, rfl, rfl, rfl⟩
set_option maxRecDepth 100000 in
noncomputable def f_Numbers_new (S : MS) (R : MR) (I : MI) (L : ML) (n : Nat) (t : Nat) : Option (MI × ML × MR × MS × Nat) :=
  lt (wS S n (21, 16)) fun (S1 : MS) =>
  lt (zI I n) fun (I2 : MI) =>
  lt (zL L n) fun (L3 : ML) =>
  lt (zR R n) fun (R4 : MR) =>
  lt (n + 1) fun (n5 : Nat) =>
  asrt ((S1 t).1 = 4) <|
  lt (wR R4 t 0 (some n)) fun (R7 : MR) =>
  some (I2, L3, R7, S1, n5)
set_option maxRecDepth 100000 in
set_option maxHeartbeats 4000000 in
theorem c_Numbers_new {E : Env} (hE : OKE E) {d : Nat} (hd : 1 ≤ d) {S : MS} {I : MI} {L : ML} {R : MR} {n : Nat} {t : Nat} {I' : MI} {L' : ML} {R' : MR} {S' : MS} {n' : Nat} (hS : (S t).1 = 4) (h : f_Numbers_new S R I L n t = some (I', L', R', S', n')) : C E y_Numbers_new b_Numbers_new 1 none true d 1 16 [.ref (e_b E + t)] S I L R n (Kq none S' I' L' R' n') := by
  refine C.of (o := [some (.ref (e_b E + t))]) (by decide) rfl (Nat.le_of_ble_eq_true rfl) ?_
  rw [f_Numbers_new] at h
  refine X.aload_0 (pc := 0) (by decide +kernel) ?_
  refine X.objInit (pc := 1) (by decide +kernel) oi_Numbers_3 oi_i oi_c (Nat.le_trans (Nat.le_of_ble_eq_true rfl) hd) (Nat.le_of_ble_eq_true rfl) ?_
  refine X.aload_0 (pc := 4) (by decide +kernel) ?_
  refine X.bipush (pc := 5) (i := 16) (v := 16) bp_16 (by decide +kernel) ?_
  refine X.newarray (pc := 7) (t := 21) (N := 16) (nc := 0) (ns := 0) (by decide +kernel) na_21 rfl (by decide) (Or.inr (Or.inl ⟨rfl, rfl⟩)) rfl rfl rfl ?_
  refine X.nameMS (fun S1 hS1 => ?_)
  have h := lt_at hS1 h
  refine X.nameMI (fun I2 hI2 => ?_)
  have h := lt_at hI2 h
  refine X.nameML (fun L3 hL3 => ?_)
  have h := lt_at hL3 h
  refine X.nameMR (fun R4 hR4 => ?_)
  have h := lt_at hR4 h
  refine X.nameN (fun n5 hn5 => ?_)
  have h := lt_at hn5 h
  obtain ⟨hc6, h⟩ := asrt_some h
  refine X.putR (pc := 9) (k := 0) fw_Numbers_9 (by decide +kernel) (Or.inr ⟨_, rfl⟩) hc6 (Or.inr ⟨rfl, rfl, rfl, wfl_Numbers_9⟩) ?_
  refine X.nameMR (fun R7 hR7 => ?_)
  have h := lt_at hR7 h
  have j0 := Option.some.inj h
  obtain ⟨i0, j1⟩ := Prod.mk.inj j0
  obtain ⟨i1, j2⟩ := Prod.mk.inj j1
  obtain ⟨i2, j3⟩ := Prod.mk.inj j2
  obtain ⟨i3, j4⟩ := Prod.mk.inj j3
  subst i0
  subst i1
  subst i2
  subst i3
  subst j4
  exact X.vreturn (pc := 12) (by decide +kernel) rfl ⟨rfl, rfl, rfl, rfl, rfl, rfl⟩
set_option maxRecDepth 100000 in
noncomputable def l_JArr_fill_5 (S : MS) (v0 : Nat) (v1 : Int32) (v3 : Int32) : Nat → MI → Int32 → Option MI
  | 0, _, _ => none
  | f + 1, I, v2 =>
    ifb (v3 ≤ v2)
      (some I)
      (asrt ((S v0).1 = 20) <|
      asrt (vp_in v2 (S v0).2) <|
      lt (wI I v0 (Int32.toNatClampNeg v2) v1) fun (I6 : MI) =>
      l_JArr_fill_5 S v0 v1 v3 f I6 (v2 + 1))
set_option maxRecDepth 100000 in
set_option maxHeartbeats 4000000 in
theorem xl_JArr_fill_5 {E : Env} (hE : OKE E) {tg : Bool} {d : Nat} (hd : 0 ≤ d) {S : MS} {L : ML} {R : MR} {n : Nat} {v0 : Nat} {v1 : Int32} {v3 : Int32} {K : KT} :
    ∀ {f : Nat} {I : MI} {v2 : Int32} {I' : MI}, l_JArr_fill_5 S v0 v1 v3 f I v2 = some I' → X E y_JArr_fill b_JArr_fill 4 none tg d 0 0 20 [none, none, none, none] [] S I' L R n K → X E y_JArr_fill b_JArr_fill 4 none tg d 0 0 5 [some (.ref (e_b E + v0)), some (.int v1), some (.int v2), some (.int v3)] [] S I L R n K := by
  intro f
  induction f with
  | zero =>
    intro I v2 I' h hk
    rw [l_JArr_fill_5] at h
    cases h
  | succ f ih =>
    intro I v2 I' h hk
    rw [l_JArr_fill_5] at h
    refine X.iload_2 (pc := 5) (by decide +kernel) ?_
    refine X.iload_3 (pc := 6) (by decide +kernel) ?_
    rcases ifb_some h with ⟨hq3, h⟩ | ⟨hq3, h⟩
    · refine X.icmp_ge_t (pc := 7) (off := 13) (tgt := 20) hq3 rfl (by decide +kernel) ?_
      have j0 := Option.some.inj h
      subst j0
      refine X.fgt (o' := [none, none, none, none]) trivial ?_
      exact hk
    · refine X.icmp_ge_f (pc := 7) (off := 13) (tgt := 20) hq3 rfl (by decide +kernel) ?_
      refine X.aload_0 (pc := 10) (by decide +kernel) ?_
      refine X.iload_2 (pc := 11) (by decide +kernel) ?_
      refine X.iload_1 (pc := 12) (by decide +kernel) ?_
      obtain ⟨hc4, h⟩ := asrt_some h
      obtain ⟨hi5, h⟩ := asrt_some h
      refine X.iastore (pc := 13) (by decide +kernel) hc4 hi5 ?_
      refine X.nameMI (fun I6 hI6 => ?_)
      have h := lt_at hI6 h
      refine X.iinc_2 (pc := 14) (z := 1) (v := 1) ic_1 (by decide +kernel) (by decide) rfl ?_
      refine X.goto (pc := 17) (off := (-12)) (tgt := 5) (by decide +kernel) rfl ?_
      exact ih h hk
set_option maxRecDepth 100000 in
noncomputable def f_JArr_fill (g : Nat) (S : MS) (I : MI) (p1 : Nat) (p2 : Int32) : Option MI :=
  asrt ((S p1).1 = 20) <|
  lt (Int32.ofNat (S p1).2) fun (x2 : Int32) =>
  bnd1 (l_JArr_fill_5 S p1 p2 x2 g I 0) fun I7 =>
  some I7
set_option maxRecDepth 100000 in
set_option maxHeartbeats 4000000 in
theorem c_JArr_fill {E : Env} (hE : OKE E) {tg : Bool} {d : Nat} (hd : 0 ≤ d) {g : Nat} {S : MS} {I : MI} {L : ML} {R : MR} {n : Nat} {p1 : Nat} {p2 : Int32} {I' : MI} (h : f_JArr_fill g S I p1 p2 = some I') : C E y_JArr_fill b_JArr_fill 4 none tg d 0 0 [.ref (e_b E + p1), .int p2] S I L R n (Kq none S I' L R n) := by
  refine C.of (o := [some (.ref (e_b E + p1)), some (.int p2), none, none]) (by decide) rfl (Nat.le_of_ble_eq_true rfl) ?_
  rw [f_JArr_fill] at h
  refine X.iconst (pc := 0) (i := 0) (v := 0) ic_0 (by decide +kernel) ?_
  refine X.istore_2 (pc := 1) (by decide +kernel) (by decide) rfl ?_
  refine X.aload_0 (pc := 2) (by decide +kernel) ?_
  obtain ⟨hc1, h⟩ := asrt_some h
  refine X.alen (pc := 3) (by decide +kernel) (by rw [hc1]; decide) ?_
  refine X.nameI (fun x2 hx2 => ?_)
  have h := lt_at hx2 h
  refine X.istore_3 (pc := 4) (by decide +kernel) (by decide) rfl ?_
  obtain ⟨I7, hv8, h⟩ := bnd1_some h
  refine xl_JArr_fill_5 hE hd hv8 ?_
  have j0 := Option.some.inj h
  subst j0
  exact X.vreturn (pc := 20) (by decide +kernel) rfl ⟨rfl, rfl, rfl, rfl, rfl, rfl⟩
set_option maxRecDepth 100000 in
noncomputable def f_Party_new (g : Nat) (S : MS) (R : MR) (I : MI) (L : ML) (n : Nat) (t : Nat) : Option (MI × ML × MR × MS × Nat) :=
  lt (wI I t 2 9) fun (I1 : MI) =>
  lt (wI I1 t 3 1) fun (I2 : MI) =>
  lt (wS S n (20, 36)) fun (S3 : MS) =>
  lt (zI I2 n) fun (I4 : MI) =>
  lt (zL L n) fun (L5 : ML) =>
  lt (zR R n) fun (R6 : MR) =>
  lt (n + 1) fun (n7 : Nat) =>
  asrt ((S3 t).1 = 5) <|
  lt (wR R6 t 6 (some n)) fun (R9 : MR) =>
  bnd1 (R9 t 6) fun b10 =>
  bnd1 (f_JArr_fill g S3 I4 b10 (-1)) fun I11 =>
  some (I11, L5, R9, S3, n7)
set_option maxRecDepth 100000 in
set_option maxHeartbeats 4000000 in
theorem c_Party_new {E : Env} (hE : OKE E) {d : Nat} (hd : 1 ≤ d) {g : Nat} {S : MS} {I : MI} {L : ML} {R : MR} {n : Nat} {t : Nat} {I' : MI} {L' : ML} {R' : MR} {S' : MS} {n' : Nat} (hS : (S t).1 = 5) (h : f_Party_new g S R I L n t = some (I', L', R', S', n')) : C E y_Party_new b_Party_new 1 none true d 1 36 [.ref (e_b E + t)] S I L R n (Kq none S' I' L' R' n') := by
  refine C.of (o := [some (.ref (e_b E + t))]) (by decide) rfl (Nat.le_of_ble_eq_true rfl) ?_
  rw [f_Party_new] at h
  refine X.aload_0 (pc := 0) (by decide +kernel) ?_
  refine X.objInit (pc := 1) (by decide +kernel) oi_Party_3 oi_i oi_c (Nat.le_trans (Nat.le_of_ble_eq_true rfl) hd) (Nat.le_of_ble_eq_true rfl) ?_
  refine X.aload_0 (pc := 4) (by decide +kernel) ?_
  refine X.bipush (pc := 5) (i := 9) (v := 9) bp_9 (by decide +kernel) ?_
  refine X.putI (pc := 7) (k := 2) fw_Party_9 (by decide +kernel) rfl rfl hS ?_
  refine X.nameMI (fun I1 hI1 => ?_)
  have h := lt_at hI1 h
  refine X.aload_0 (pc := 10) (by decide +kernel) ?_
  refine X.iconst (pc := 11) (i := 1) (v := 1) ic_1 (by decide +kernel) ?_
  refine X.putI (pc := 12) (k := 3) fw_Party_15 (by decide +kernel) rfl rfl hS ?_
  refine X.nameMI (fun I2 hI2 => ?_)
  have h := lt_at hI2 h
  refine X.aload_0 (pc := 15) (by decide +kernel) ?_
  refine X.bipush (pc := 16) (i := 36) (v := 36) bp_36 (by decide +kernel) ?_
  refine X.newarray (pc := 18) (t := 20) (N := 36) (nc := 0) (ns := 0) (by decide +kernel) na_20 rfl (by decide) (Or.inl ⟨rfl, rfl⟩) rfl rfl rfl ?_
  refine X.nameMS (fun S3 hS3 => ?_)
  have h := lt_at hS3 h
  refine X.nameMI (fun I4 hI4 => ?_)
  have h := lt_at hI4 h
  refine X.nameML (fun L5 hL5 => ?_)
  have h := lt_at hL5 h
  refine X.nameMR (fun R6 hR6 => ?_)
  have h := lt_at hR6 h
  refine X.nameN (fun n7 hn7 => ?_)
  have h := lt_at hn7 h
  obtain ⟨hc8, h⟩ := asrt_some h
  refine X.putR (pc := 20) (k := 6) fw_Party_18 (by decide +kernel) (Or.inr ⟨_, rfl⟩) hc8 (Or.inr ⟨rfl, rfl, rfl, wfl_Party_18⟩) ?_
  refine X.nameMR (fun R9 hR9 => ?_)
  have h := lt_at hR9 h
  refine X.aload_0 (pc := 23) (by decide +kernel) ?_
  obtain ⟨b10, hb10, h⟩ := bnd1_some h
  refine X.getR (pc := 24) (k := 6) fw_Party_18 (by decide +kernel) (fun _ => rfl) hc8 hb10 ?_
  refine X.iconst (pc := 27) (i := (-1)) (v := (-1)) ic_m1 (by decide +kernel) ?_
  obtain ⟨I11, hv12, h⟩ := bnd1_some h
  refine X.callSv (pc := 28) (nc := 0) (ns := 0) (c_JArr_fill hE (dle hd (Nat.le_of_ble_eq_true rfl)) hv12) cv_Party_22 (by decide +kernel) (ddd hd (Nat.le_of_ble_eq_true rfl)) rfl (Nat.le_of_ble_eq_true rfl) rfl rfl ?_
  have j0 := Option.some.inj h
  obtain ⟨i0, j1⟩ := Prod.mk.inj j0
  obtain ⟨i1, j2⟩ := Prod.mk.inj j1
  obtain ⟨i2, j3⟩ := Prod.mk.inj j2
  obtain ⟨i3, j4⟩ := Prod.mk.inj j3
  subst i0
  subst i1
  subst i2
  subst i3
  subst j4
  exact X.vreturn (pc := 31) (by decide +kernel) rfl ⟨rfl, rfl, rfl, rfl, rfl, rfl⟩
set_option maxRecDepth 100000 in
noncomputable def f_Past_new (g : Nat) (S : MS) (R : MR) (I : MI) (L : ML) (n : Nat) (t : Nat) : Option (MI × ML × MR × MS × Nat) :=
  lt (wS S n (24, 20)) fun (S1 : MS) =>
  lt (zI I n) fun (I2 : MI) =>
  lt (zL L n) fun (L3 : ML) =>
  lt (zR R n) fun (R4 : MR) =>
  lt (n + 1) fun (n5 : Nat) =>
  asrt ((S1 t).1 = 6) <|
  lt (wR R4 t 0 (some n)) fun (R7 : MR) =>
  bnd1 (R7 t 0) fun b8 =>
  lt (wS S1 n5 (5, 0)) fun (S9 : MS) =>
  lt (zI I2 n5) fun (I10 : MI) =>
  lt (zL L3 n5) fun (L11 : ML) =>
  lt (zR R7 n5) fun (R12 : MR) =>
  lt (n5 + 1) fun (n13 : Nat) =>
  asrt ((S9 n5).1 = 5) <|
  bnd5 (f_Party_new g S9 R12 I10 L11 n13 n5) fun I15 L16 R17 S18 n19 =>
  asrt ((S18 b8).1 = 24) <|
  asrt (vp_in 0 (S18 b8).2) <|
  asrt ((S18 n5).1 = 5) <|
  lt (wR R17 b8 (Int32.toNatClampNeg 0) (some n5)) fun (R24 : MR) =>
  asrt ((S18 t).1 = 6) <|
  bnd1 (R24 t 0) fun b26 =>
  lt (wS S18 n19 (5, 0)) fun (S27 : MS) =>
  lt (zI I15 n19) fun (I28 : MI) =>
  lt (zL L16 n19) fun (L29 : ML) =>
  lt (zR R24 n19) fun (R30 : MR) =>
  lt (n19 + 1) fun (n31 : Nat) =>
  asrt ((S27 n19).1 = 5) <|
  bnd5 (f_Party_new g S27 R30 I28 L29 n31 n19) fun I33 L34 R35 S36 n37 =>
  asrt ((S36 b26).1 = 24) <|
  asrt (vp_in 1 (S36 b26).2) <|
  asrt ((S36 n19).1 = 5) <|
  lt (wR R35 b26 (Int32.toNatClampNeg 1) (some n19)) fun (R42 : MR) =>
  asrt ((S36 t).1 = 6) <|
  bnd1 (R42 t 0) fun b44 =>
  lt (wS S36 n37 (5, 0)) fun (S45 : MS) =>
  lt (zI I33 n37) fun (I46 : MI) =>
  lt (zL L34 n37) fun (L47 : ML) =>
  lt (zR R42 n37) fun (R48 : MR) =>
  lt (n37 + 1) fun (n49 : Nat) =>
  asrt ((S45 n37).1 = 5) <|
  bnd5 (f_Party_new g S45 R48 I46 L47 n49 n37) fun I51 L52 R53 S54 n55 =>
  asrt ((S54 b44).1 = 24) <|
  asrt (vp_in 2 (S54 b44).2) <|
  asrt ((S54 n37).1 = 5) <|
  lt (wR R53 b44 (Int32.toNatClampNeg 2) (some n37)) fun (R60 : MR) =>
  asrt ((S54 t).1 = 6) <|
  bnd1 (R60 t 0) fun b62 =>
  lt (wS S54 n55 (5, 0)) fun (S63 : MS) =>
  lt (zI I51 n55) fun (I64 : MI) =>
  lt (zL L52 n55) fun (L65 : ML) =>
  lt (zR R60 n55) fun (R66 : MR) =>
  lt (n55 + 1) fun (n67 : Nat) =>
  asrt ((S63 n55).1 = 5) <|
  bnd5 (f_Party_new g S63 R66 I64 L65 n67 n55) fun I69 L70 R71 S72 n73 =>
  asrt ((S72 b62).1 = 24) <|
  asrt (vp_in 3 (S72 b62).2) <|
  asrt ((S72 n55).1 = 5) <|
  lt (wR R71 b62 (Int32.toNatClampNeg 3) (some n55)) fun (R78 : MR) =>
  asrt ((S72 t).1 = 6) <|
  bnd1 (R78 t 0) fun b80 =>
  lt (wS S72 n73 (5, 0)) fun (S81 : MS) =>
  lt (zI I69 n73) fun (I82 : MI) =>
  lt (zL L70 n73) fun (L83 : ML) =>
  lt (zR R78 n73) fun (R84 : MR) =>
  lt (n73 + 1) fun (n85 : Nat) =>
  asrt ((S81 n73).1 = 5) <|
  bnd5 (f_Party_new g S81 R84 I82 L83 n85 n73) fun I87 L88 R89 S90 n91 =>
  asrt ((S90 b80).1 = 24) <|
  asrt (vp_in 4 (S90 b80).2) <|
  asrt ((S90 n73).1 = 5) <|
  lt (wR R89 b80 (Int32.toNatClampNeg 4) (some n73)) fun (R96 : MR) =>
  asrt ((S90 t).1 = 6) <|
  bnd1 (R96 t 0) fun b98 =>
  lt (wS S90 n91 (5, 0)) fun (S99 : MS) =>
  lt (zI I87 n91) fun (I100 : MI) =>
  lt (zL L88 n91) fun (L101 : ML) =>
  lt (zR R96 n91) fun (R102 : MR) =>
  lt (n91 + 1) fun (n103 : Nat) =>
  asrt ((S99 n91).1 = 5) <|
  bnd5 (f_Party_new g S99 R102 I100 L101 n103 n91) fun I105 L106 R107 S108 n109 =>
  asrt ((S108 b98).1 = 24) <|
  asrt (vp_in 5 (S108 b98).2) <|
  asrt ((S108 n91).1 = 5) <|
  lt (wR R107 b98 (Int32.toNatClampNeg 5) (some n91)) fun (R114 : MR) =>
  asrt ((S108 t).1 = 6) <|
  bnd1 (R114 t 0) fun b116 =>
  lt (wS S108 n109 (5, 0)) fun (S117 : MS) =>
  lt (zI I105 n109) fun (I118 : MI) =>
  lt (zL L106 n109) fun (L119 : ML) =>
  lt (zR R114 n109) fun (R120 : MR) =>
  lt (n109 + 1) fun (n121 : Nat) =>
  asrt ((S117 n109).1 = 5) <|
  bnd5 (f_Party_new g S117 R120 I118 L119 n121 n109) fun I123 L124 R125 S126 n127 =>
  asrt ((S126 b116).1 = 24) <|
  asrt (vp_in 6 (S126 b116).2) <|
  asrt ((S126 n109).1 = 5) <|
  lt (wR R125 b116 (Int32.toNatClampNeg 6) (some n109)) fun (R132 : MR) =>
  asrt ((S126 t).1 = 6) <|
  bnd1 (R132 t 0) fun b134 =>
  lt (wS S126 n127 (5, 0)) fun (S135 : MS) =>
  lt (zI I123 n127) fun (I136 : MI) =>
  lt (zL L124 n127) fun (L137 : ML) =>
  lt (zR R132 n127) fun (R138 : MR) =>
  lt (n127 + 1) fun (n139 : Nat) =>
  asrt ((S135 n127).1 = 5) <|
  bnd5 (f_Party_new g S135 R138 I136 L137 n139 n127) fun I141 L142 R143 S144 n145 =>
  asrt ((S144 b134).1 = 24) <|
  asrt (vp_in 7 (S144 b134).2) <|
  asrt ((S144 n127).1 = 5) <|
  lt (wR R143 b134 (Int32.toNatClampNeg 7) (some n127)) fun (R150 : MR) =>
  asrt ((S144 t).1 = 6) <|
  bnd1 (R150 t 0) fun b152 =>
  lt (wS S144 n145 (5, 0)) fun (S153 : MS) =>
  lt (zI I141 n145) fun (I154 : MI) =>
  lt (zL L142 n145) fun (L155 : ML) =>
  lt (zR R150 n145) fun (R156 : MR) =>
  lt (n145 + 1) fun (n157 : Nat) =>
  asrt ((S153 n145).1 = 5) <|
  bnd5 (f_Party_new g S153 R156 I154 L155 n157 n145) fun I159 L160 R161 S162 n163 =>
  asrt ((S162 b152).1 = 24) <|
  asrt (vp_in 8 (S162 b152).2) <|
  asrt ((S162 n145).1 = 5) <|
  lt (wR R161 b152 (Int32.toNatClampNeg 8) (some n145)) fun (R168 : MR) =>
  asrt ((S162 t).1 = 6) <|
  bnd1 (R168 t 0) fun b170 =>
  lt (wS S162 n163 (5, 0)) fun (S171 : MS) =>
  lt (zI I159 n163) fun (I172 : MI) =>
  lt (zL L160 n163) fun (L173 : ML) =>
  lt (zR R168 n163) fun (R174 : MR) =>
  lt (n163 + 1) fun (n175 : Nat) =>
  asrt ((S171 n163).1 = 5) <|
  bnd5 (f_Party_new g S171 R174 I172 L173 n175 n163) fun I177 L178 R179 S180 n181 =>
  asrt ((S180 b170).1 = 24) <|
  asrt (vp_in 9 (S180 b170).2) <|
  asrt ((S180 n163).1 = 5) <|
  lt (wR R179 b170 (Int32.toNatClampNeg 9) (some n163)) fun (R186 : MR) =>
  asrt ((S180 t).1 = 6) <|
  bnd1 (R186 t 0) fun b188 =>
  lt (wS S180 n181 (5, 0)) fun (S189 : MS) =>
  lt (zI I177 n181) fun (I190 : MI) =>
  lt (zL L178 n181) fun (L191 : ML) =>
  lt (zR R186 n181) fun (R192 : MR) =>
  lt (n181 + 1) fun (n193 : Nat) =>
  asrt ((S189 n181).1 = 5) <|
  bnd5 (f_Party_new g S189 R192 I190 L191 n193 n181) fun I195 L196 R197 S198 n199 =>
  asrt ((S198 b188).1 = 24) <|
  asrt (vp_in 10 (S198 b188).2) <|
  asrt ((S198 n181).1 = 5) <|
  lt (wR R197 b188 (Int32.toNatClampNeg 10) (some n181)) fun (R204 : MR) =>
  asrt ((S198 t).1 = 6) <|
  bnd1 (R204 t 0) fun b206 =>
  lt (wS S198 n199 (5, 0)) fun (S207 : MS) =>
  lt (zI I195 n199) fun (I208 : MI) =>
  lt (zL L196 n199) fun (L209 : ML) =>
  lt (zR R204 n199) fun (R210 : MR) =>
  lt (n199 + 1) fun (n211 : Nat) =>
  asrt ((S207 n199).1 = 5) <|
  bnd5 (f_Party_new g S207 R210 I208 L209 n211 n199) fun I213 L214 R215 S216 n217 =>
  asrt ((S216 b206).1 = 24) <|
  asrt (vp_in 11 (S216 b206).2) <|
  asrt ((S216 n199).1 = 5) <|
  lt (wR R215 b206 (Int32.toNatClampNeg 11) (some n199)) fun (R222 : MR) =>
  asrt ((S216 t).1 = 6) <|
  bnd1 (R222 t 0) fun b224 =>
  lt (wS S216 n217 (5, 0)) fun (S225 : MS) =>
  lt (zI I213 n217) fun (I226 : MI) =>
  lt (zL L214 n217) fun (L227 : ML) =>
  lt (zR R222 n217) fun (R228 : MR) =>
  lt (n217 + 1) fun (n229 : Nat) =>
  asrt ((S225 n217).1 = 5) <|
  bnd5 (f_Party_new g S225 R228 I226 L227 n229 n217) fun I231 L232 R233 S234 n235 =>
  asrt ((S234 b224).1 = 24) <|
  asrt (vp_in 12 (S234 b224).2) <|
  asrt ((S234 n217).1 = 5) <|
  lt (wR R233 b224 (Int32.toNatClampNeg 12) (some n217)) fun (R240 : MR) =>
  asrt ((S234 t).1 = 6) <|
  bnd1 (R240 t 0) fun b242 =>
  lt (wS S234 n235 (5, 0)) fun (S243 : MS) =>
  lt (zI I231 n235) fun (I244 : MI) =>
  lt (zL L232 n235) fun (L245 : ML) =>
  lt (zR R240 n235) fun (R246 : MR) =>
  lt (n235 + 1) fun (n247 : Nat) =>
  asrt ((S243 n235).1 = 5) <|
  bnd5 (f_Party_new g S243 R246 I244 L245 n247 n235) fun I249 L250 R251 S252 n253 =>
  asrt ((S252 b242).1 = 24) <|
  asrt (vp_in 13 (S252 b242).2) <|
  asrt ((S252 n235).1 = 5) <|
  lt (wR R251 b242 (Int32.toNatClampNeg 13) (some n235)) fun (R258 : MR) =>
  asrt ((S252 t).1 = 6) <|
  bnd1 (R258 t 0) fun b260 =>
  lt (wS S252 n253 (5, 0)) fun (S261 : MS) =>
  lt (zI I249 n253) fun (I262 : MI) =>
  lt (zL L250 n253) fun (L263 : ML) =>
  lt (zR R258 n253) fun (R264 : MR) =>
  lt (n253 + 1) fun (n265 : Nat) =>
  asrt ((S261 n253).1 = 5) <|
  bnd5 (f_Party_new g S261 R264 I262 L263 n265 n253) fun I267 L268 R269 S270 n271 =>
  asrt ((S270 b260).1 = 24) <|
  asrt (vp_in 14 (S270 b260).2) <|
  asrt ((S270 n253).1 = 5) <|
  lt (wR R269 b260 (Int32.toNatClampNeg 14) (some n253)) fun (R276 : MR) =>
  asrt ((S270 t).1 = 6) <|
  bnd1 (R276 t 0) fun b278 =>
  lt (wS S270 n271 (5, 0)) fun (S279 : MS) =>
  lt (zI I267 n271) fun (I280 : MI) =>
  lt (zL L268 n271) fun (L281 : ML) =>
  lt (zR R276 n271) fun (R282 : MR) =>
  lt (n271 + 1) fun (n283 : Nat) =>
  asrt ((S279 n271).1 = 5) <|
  bnd5 (f_Party_new g S279 R282 I280 L281 n283 n271) fun I285 L286 R287 S288 n289 =>
  asrt ((S288 b278).1 = 24) <|
  asrt (vp_in 15 (S288 b278).2) <|
  asrt ((S288 n271).1 = 5) <|
  lt (wR R287 b278 (Int32.toNatClampNeg 15) (some n271)) fun (R294 : MR) =>
  asrt ((S288 t).1 = 6) <|
  bnd1 (R294 t 0) fun b296 =>
  lt (wS S288 n289 (5, 0)) fun (S297 : MS) =>
  lt (zI I285 n289) fun (I298 : MI) =>
  lt (zL L286 n289) fun (L299 : ML) =>
  lt (zR R294 n289) fun (R300 : MR) =>
  lt (n289 + 1) fun (n301 : Nat) =>
  asrt ((S297 n289).1 = 5) <|
  bnd5 (f_Party_new g S297 R300 I298 L299 n301 n289) fun I303 L304 R305 S306 n307 =>
  asrt ((S306 b296).1 = 24) <|
  asrt (vp_in 16 (S306 b296).2) <|
  asrt ((S306 n289).1 = 5) <|
  lt (wR R305 b296 (Int32.toNatClampNeg 16) (some n289)) fun (R312 : MR) =>
  asrt ((S306 t).1 = 6) <|
  bnd1 (R312 t 0) fun b314 =>
  lt (wS S306 n307 (5, 0)) fun (S315 : MS) =>
  lt (zI I303 n307) fun (I316 : MI) =>
  lt (zL L304 n307) fun (L317 : ML) =>
  lt (zR R312 n307) fun (R318 : MR) =>
  lt (n307 + 1) fun (n319 : Nat) =>
  asrt ((S315 n307).1 = 5) <|
  bnd5 (f_Party_new g S315 R318 I316 L317 n319 n307) fun I321 L322 R323 S324 n325 =>
  asrt ((S324 b314).1 = 24) <|
  asrt (vp_in 17 (S324 b314).2) <|
  asrt ((S324 n307).1 = 5) <|
  lt (wR R323 b314 (Int32.toNatClampNeg 17) (some n307)) fun (R330 : MR) =>
  asrt ((S324 t).1 = 6) <|
  bnd1 (R330 t 0) fun b332 =>
  lt (wS S324 n325 (5, 0)) fun (S333 : MS) =>
  lt (zI I321 n325) fun (I334 : MI) =>
  lt (zL L322 n325) fun (L335 : ML) =>
  lt (zR R330 n325) fun (R336 : MR) =>
  lt (n325 + 1) fun (n337 : Nat) =>
  asrt ((S333 n325).1 = 5) <|
  bnd5 (f_Party_new g S333 R336 I334 L335 n337 n325) fun I339 L340 R341 S342 n343 =>
  asrt ((S342 b332).1 = 24) <|
  asrt (vp_in 18 (S342 b332).2) <|
  asrt ((S342 n325).1 = 5) <|
  lt (wR R341 b332 (Int32.toNatClampNeg 18) (some n325)) fun (R348 : MR) =>
  asrt ((S342 t).1 = 6) <|
  bnd1 (R348 t 0) fun b350 =>
  lt (wS S342 n343 (5, 0)) fun (S351 : MS) =>
  lt (zI I339 n343) fun (I352 : MI) =>
  lt (zL L340 n343) fun (L353 : ML) =>
  lt (zR R348 n343) fun (R354 : MR) =>
  lt (n343 + 1) fun (n355 : Nat) =>
  asrt ((S351 n343).1 = 5) <|
  bnd5 (f_Party_new g S351 R354 I352 L353 n355 n343) fun I357 L358 R359 S360 n361 =>
  asrt ((S360 b350).1 = 24) <|
  asrt (vp_in 19 (S360 b350).2) <|
  asrt ((S360 n343).1 = 5) <|
  lt (wR R359 b350 (Int32.toNatClampNeg 19) (some n343)) fun (R366 : MR) =>
  some (I357, L358, R366, S360, n361)
set_option maxRecDepth 100000 in
set_option maxHeartbeats 4000000 in
theorem c_Past_new {E : Env} (hE : OKE E) {d : Nat} (hd : 2 ≤ d) {g : Nat} {S : MS} {I : MI} {L : ML} {R : MR} {n : Nat} {t : Nat} {I' : MI} {L' : ML} {R' : MR} {S' : MS} {n' : Nat} (hS : (S t).1 = 6) (h : f_Past_new g S R I L n t = some (I', L', R', S', n')) : C E y_Past_new b_Past_new 2 none true d 41 880 [.ref (e_b E + t)] S I L R n (Kq none S' I' L' R' n') := by
  refine C.of (o := [some (.ref (e_b E + t)), none]) (by decide) rfl (Nat.le_of_ble_eq_true rfl) ?_
  rw [f_Past_new] at h
  refine X.aload_0 (pc := 0) (by decide +kernel) ?_
  refine X.objInit (pc := 1) (by decide +kernel) oi_Past_3 oi_i oi_c (Nat.le_trans (Nat.le_of_ble_eq_true rfl) hd) (Nat.le_of_ble_eq_true rfl) ?_
  refine X.aload_0 (pc := 4) (by decide +kernel) ?_
  refine X.bipush (pc := 5) (i := 20) (v := 20) bp_20 (by decide +kernel) ?_
  refine X.anewarray (pc := 7) (t := 24) (N := 20) (nc := 40) (ns := 860) (by decide +kernel) an_Past_9 rfl (by decide) (Or.inr ⟨rfl, rfl⟩) rfl rfl rfl ?_
  refine X.nameMS (fun S1 hS1 => ?_)
  have h := lt_at hS1 h
  refine X.nameMI (fun I2 hI2 => ?_)
  have h := lt_at hI2 h
  refine X.nameML (fun L3 hL3 => ?_)
  have h := lt_at hL3 h
  refine X.nameMR (fun R4 hR4 => ?_)
  have h := lt_at hR4 h
  refine X.nameN (fun n5 hn5 => ?_)
  have h := lt_at hn5 h
  obtain ⟨hc6, h⟩ := asrt_some h
  refine X.putR (pc := 10) (k := 0) fw_Past_11 (by decide +kernel) (Or.inr ⟨_, rfl⟩) hc6 (Or.inr ⟨rfl, rfl, rfl, wfl_Past_11⟩) ?_
  refine X.nameMR (fun R7 hR7 => ?_)
  have h := lt_at hR7 h
  refine X.iconst (pc := 13) (i := 0) (v := 0) ic_0 (by decide +kernel) ?_
  refine X.istore_1 (pc := 14) (by decide +kernel) (by decide) rfl ?_
  refine X.iload_1 (pc := 15) (by decide +kernel) ?_
  refine X.bipush (pc := 16) (i := 20) (v := 20) bp_20 (by decide +kernel) ?_
  refine X.icmp_ge_f (pc := 18) (off := 22) (tgt := 40) (by decide) rfl (by decide +kernel) ?_
  refine X.aload_0 (pc := 21) (by decide +kernel) ?_
  obtain ⟨b8, hb8, h⟩ := bnd1_some h
  refine X.getR (pc := 22) (k := 0) fw_Past_11 (by decide +kernel) (fun _ => rfl) hc6 hb8 ?_
  refine X.iload_1 (pc := 25) (by decide +kernel) ?_
  refine X.new (pc := 26) (ci := 5) (nc := 39) (ns := 853) nw_Past_9 (by decide +kernel) rfl rfl rfl ?_
  refine X.nameMS (fun S9 hS9 => ?_)
  have h := lt_at hS9 h
  refine X.nameMI (fun I10 hI10 => ?_)
  have h := lt_at hI10 h
  refine X.nameML (fun L11 hL11 => ?_)
  have h := lt_at hL11 h
  refine X.nameMR (fun R12 hR12 => ?_)
  have h := lt_at hR12 h
  refine X.nameN (fun n13 hn13 => ?_)
  have h := lt_at hn13 h
  refine X.dupr (pc := 29) (by decide +kernel) ?_
  obtain ⟨hc14, h⟩ := asrt_some h
  obtain ⟨I15, L16, R17, S18, n19, hv20, h⟩ := bnd5_some h
  refine X.callIv (pc := 30) (nc := 38) (ns := 817) (c_Party_new hE (dle hd (Nat.le_of_ble_eq_true rfl)) hc14 hv20) cv_Past_17 (by decide +kernel) (ddd hd (Nat.le_of_ble_eq_true rfl)) rfl (Nat.le_of_ble_eq_true rfl) rfl rfl ?_
  obtain ⟨hc21, h⟩ := asrt_some h
  obtain ⟨hi22, h⟩ := asrt_some h
  obtain ⟨hc23, h⟩ := asrt_some h
  refine X.aastore (pc := 33) (by decide +kernel) (Or.inr ⟨hc21, rfl⟩) hc23 hi22 ?_
  refine X.nameMR (fun R24 hR24 => ?_)
  have h := lt_at hR24 h
  refine X.iinc_1 (pc := 34) (z := 1) (v := 1) ic_1 (by decide +kernel) (by decide) rfl ?_
  refine X.fgt (o' := [some (.ref (e_b E + t)), some (.int 1)]) (by exact ⟨rfl, ⟨(by decide), trivial⟩⟩) ?_
  refine X.goto (pc := 37) (off := (-22)) (tgt := 15) (by decide +kernel) rfl ?_
  refine X.iload_1 (pc := 15) (by decide +kernel) ?_
  refine X.bipush (pc := 16) (i := 20) (v := 20) bp_20 (by decide +kernel) ?_
  refine X.icmp_ge_f (pc := 18) (off := 22) (tgt := 40) (by decide) rfl (by decide +kernel) ?_
  refine X.aload_0 (pc := 21) (by decide +kernel) ?_
  obtain ⟨hc25, h⟩ := asrt_some h
  obtain ⟨b26, hb26, h⟩ := bnd1_some h
  refine X.getR (pc := 22) (k := 0) fw_Past_11 (by decide +kernel) (fun _ => rfl) hc25 hb26 ?_
  refine X.iload_1 (pc := 25) (by decide +kernel) ?_
  refine X.new (pc := 26) (ci := 5) (nc := 37) (ns := 810) nw_Past_9 (by decide +kernel) rfl rfl rfl ?_
  refine X.nameMS (fun S27 hS27 => ?_)
  have h := lt_at hS27 h
  refine X.nameMI (fun I28 hI28 => ?_)
  have h := lt_at hI28 h
  refine X.nameML (fun L29 hL29 => ?_)
  have h := lt_at hL29 h
  refine X.nameMR (fun R30 hR30 => ?_)
  have h := lt_at hR30 h
  refine X.nameN (fun n31 hn31 => ?_)
  have h := lt_at hn31 h
  refine X.dupr (pc := 29) (by decide +kernel) ?_
  obtain ⟨hc32, h⟩ := asrt_some h
  obtain ⟨I33, L34, R35, S36, n37, hv38, h⟩ := bnd5_some h
  refine X.callIv (pc := 30) (nc := 36) (ns := 774) (c_Party_new hE (dle hd (Nat.le_of_ble_eq_true rfl)) hc32 hv38) cv_Past_17 (by decide +kernel) (ddd hd (Nat.le_of_ble_eq_true rfl)) rfl (Nat.le_of_ble_eq_true rfl) rfl rfl ?_
  obtain ⟨hc39, h⟩ := asrt_some h
  obtain ⟨hi40, h⟩ := asrt_some h
  obtain ⟨hc41, h⟩ := asrt_some h
  refine X.aastore (pc := 33) (by decide +kernel) (Or.inr ⟨hc39, rfl⟩) hc41 hi40 ?_
  refine X.nameMR (fun R42 hR42 => ?_)
  have h := lt_at hR42 h
  refine X.iinc_1 (pc := 34) (z := 1) (v := 1) ic_1 (by decide +kernel) (by decide) rfl ?_
  refine X.fgt (o' := [some (.ref (e_b E + t)), some (.int 2)]) (by exact ⟨rfl, ⟨(by decide), trivial⟩⟩) ?_
  refine X.goto (pc := 37) (off := (-22)) (tgt := 15) (by decide +kernel) rfl ?_
  refine X.iload_1 (pc := 15) (by decide +kernel) ?_
  refine X.bipush (pc := 16) (i := 20) (v := 20) bp_20 (by decide +kernel) ?_
  refine X.icmp_ge_f (pc := 18) (off := 22) (tgt := 40) (by decide) rfl (by decide +kernel) ?_
  refine X.aload_0 (pc := 21) (by decide +kernel) ?_
  obtain ⟨hc43, h⟩ := asrt_some h
  obtain ⟨b44, hb44, h⟩ := bnd1_some h
  refine X.getR (pc := 22) (k := 0) fw_Past_11 (by decide +kernel) (fun _ => rfl) hc43 hb44 ?_
  refine X.iload_1 (pc := 25) (by decide +kernel) ?_
  refine X.new (pc := 26) (ci := 5) (nc := 35) (ns := 767) nw_Past_9 (by decide +kernel) rfl rfl rfl ?_
  refine X.nameMS (fun S45 hS45 => ?_)
  have h := lt_at hS45 h
  refine X.nameMI (fun I46 hI46 => ?_)
  have h := lt_at hI46 h
  refine X.nameML (fun L47 hL47 => ?_)
  have h := lt_at hL47 h
  refine X.nameMR (fun R48 hR48 => ?_)
  have h := lt_at hR48 h
  refine X.nameN (fun n49 hn49 => ?_)
  have h := lt_at hn49 h
  refine X.dupr (pc := 29) (by decide +kernel) ?_
  obtain ⟨hc50, h⟩ := asrt_some h
  obtain ⟨I51, L52, R53, S54, n55, hv56, h⟩ := bnd5_some h
  refine X.callIv (pc := 30) (nc := 34) (ns := 731) (c_Party_new hE (dle hd (Nat.le_of_ble_eq_true rfl)) hc50 hv56) cv_Past_17 (by decide +kernel) (ddd hd (Nat.le_of_ble_eq_true rfl)) rfl (Nat.le_of_ble_eq_true rfl) rfl rfl ?_
  obtain ⟨hc57, h⟩ := asrt_some h
  obtain ⟨hi58, h⟩ := asrt_some h
  obtain ⟨hc59, h⟩ := asrt_some h
  refine X.aastore (pc := 33) (by decide +kernel) (Or.inr ⟨hc57, rfl⟩) hc59 hi58 ?_
  refine X.nameMR (fun R60 hR60 => ?_)
  have h := lt_at hR60 h
  refine X.iinc_1 (pc := 34) (z := 1) (v := 1) ic_1 (by decide +kernel) (by decide) rfl ?_
  refine X.fgt (o' := [some (.ref (e_b E + t)), some (.int 3)]) (by exact ⟨rfl, ⟨(by decide), trivial⟩⟩) ?_
  refine X.goto (pc := 37) (off := (-22)) (tgt := 15) (by decide +kernel) rfl ?_
  refine X.iload_1 (pc := 15) (by decide +kernel) ?_
  refine X.bipush (pc := 16) (i := 20) (v := 20) bp_20 (by decide +kernel) ?_
  refine X.icmp_ge_f (pc := 18) (off := 22) (tgt := 40) (by decide) rfl (by decide +kernel) ?_
  refine X.aload_0 (pc := 21) (by decide +kernel) ?_
  obtain ⟨hc61, h⟩ := asrt_some h
  obtain ⟨b62, hb62, h⟩ := bnd1_some h
  refine X.getR (pc := 22) (k := 0) fw_Past_11 (by decide +kernel) (fun _ => rfl) hc61 hb62 ?_
  refine X.iload_1 (pc := 25) (by decide +kernel) ?_
  refine X.new (pc := 26) (ci := 5) (nc := 33) (ns := 724) nw_Past_9 (by decide +kernel) rfl rfl rfl ?_
  refine X.nameMS (fun S63 hS63 => ?_)
  have h := lt_at hS63 h
  refine X.nameMI (fun I64 hI64 => ?_)
  have h := lt_at hI64 h
  refine X.nameML (fun L65 hL65 => ?_)
  have h := lt_at hL65 h
  refine X.nameMR (fun R66 hR66 => ?_)
  have h := lt_at hR66 h
  refine X.nameN (fun n67 hn67 => ?_)
  have h := lt_at hn67 h
  refine X.dupr (pc := 29) (by decide +kernel) ?_
  obtain ⟨hc68, h⟩ := asrt_some h
  obtain ⟨I69, L70, R71, S72, n73, hv74, h⟩ := bnd5_some h
  refine X.callIv (pc := 30) (nc := 32) (ns := 688) (c_Party_new hE (dle hd (Nat.le_of_ble_eq_true rfl)) hc68 hv74) cv_Past_17 (by decide +kernel) (ddd hd (Nat.le_of_ble_eq_true rfl)) rfl (Nat.le_of_ble_eq_true rfl) rfl rfl ?_
  obtain ⟨hc75, h⟩ := asrt_some h
  obtain ⟨hi76, h⟩ := asrt_some h
  obtain ⟨hc77, h⟩ := asrt_some h
  refine X.aastore (pc := 33) (by decide +kernel) (Or.inr ⟨hc75, rfl⟩) hc77 hi76 ?_
  refine X.nameMR (fun R78 hR78 => ?_)
  have h := lt_at hR78 h
  refine X.iinc_1 (pc := 34) (z := 1) (v := 1) ic_1 (by decide +kernel) (by decide) rfl ?_
  refine X.fgt (o' := [some (.ref (e_b E + t)), some (.int 4)]) (by exact ⟨rfl, ⟨(by decide), trivial⟩⟩) ?_
  refine X.goto (pc := 37) (off := (-22)) (tgt := 15) (by decide +kernel) rfl ?_
  refine X.iload_1 (pc := 15) (by decide +kernel) ?_
  refine X.bipush (pc := 16) (i := 20) (v := 20) bp_20 (by decide +kernel) ?_
  refine X.icmp_ge_f (pc := 18) (off := 22) (tgt := 40) (by decide) rfl (by decide +kernel) ?_
  refine X.aload_0 (pc := 21) (by decide +kernel) ?_
  obtain ⟨hc79, h⟩ := asrt_some h
  obtain ⟨b80, hb80, h⟩ := bnd1_some h
  refine X.getR (pc := 22) (k := 0) fw_Past_11 (by decide +kernel) (fun _ => rfl) hc79 hb80 ?_
  refine X.iload_1 (pc := 25) (by decide +kernel) ?_
  refine X.new (pc := 26) (ci := 5) (nc := 31) (ns := 681) nw_Past_9 (by decide +kernel) rfl rfl rfl ?_
  refine X.nameMS (fun S81 hS81 => ?_)
  have h := lt_at hS81 h
  refine X.nameMI (fun I82 hI82 => ?_)
  have h := lt_at hI82 h
  refine X.nameML (fun L83 hL83 => ?_)
  have h := lt_at hL83 h
  refine X.nameMR (fun R84 hR84 => ?_)
  have h := lt_at hR84 h
  refine X.nameN (fun n85 hn85 => ?_)
  have h := lt_at hn85 h
  refine X.dupr (pc := 29) (by decide +kernel) ?_
  obtain ⟨hc86, h⟩ := asrt_some h
  obtain ⟨I87, L88, R89, S90, n91, hv92, h⟩ := bnd5_some h
  refine X.callIv (pc := 30) (nc := 30) (ns := 645) (c_Party_new hE (dle hd (Nat.le_of_ble_eq_true rfl)) hc86 hv92) cv_Past_17 (by decide +kernel) (ddd hd (Nat.le_of_ble_eq_true rfl)) rfl (Nat.le_of_ble_eq_true rfl) rfl rfl ?_
  obtain ⟨hc93, h⟩ := asrt_some h
  obtain ⟨hi94, h⟩ := asrt_some h
  obtain ⟨hc95, h⟩ := asrt_some h
  refine X.aastore (pc := 33) (by decide +kernel) (Or.inr ⟨hc93, rfl⟩) hc95 hi94 ?_
  refine X.nameMR (fun R96 hR96 => ?_)
  have h := lt_at hR96 h
  refine X.iinc_1 (pc := 34) (z := 1) (v := 1) ic_1 (by decide +kernel) (by decide) rfl ?_
  refine X.fgt (o' := [some (.ref (e_b E + t)), some (.int 5)]) (by exact ⟨rfl, ⟨(by decide), trivial⟩⟩) ?_
  refine X.goto (pc := 37) (off := (-22)) (tgt := 15) (by decide +kernel) rfl ?_
  refine X.iload_1 (pc := 15) (by decide +kernel) ?_
  refine X.bipush (pc := 16) (i := 20) (v := 20) bp_20 (by decide +kernel) ?_
  refine X.icmp_ge_f (pc := 18) (off := 22) (tgt := 40) (by decide) rfl (by decide +kernel) ?_
  refine X.aload_0 (pc := 21) (by decide +kernel) ?_
  obtain ⟨hc97, h⟩ := asrt_some h
  obtain ⟨b98, hb98, h⟩ := bnd1_some h
  refine X.getR (pc := 22) (k := 0) fw_Past_11 (by decide +kernel) (fun _ => rfl) hc97 hb98 ?_
  refine X.iload_1 (pc := 25) (by decide +kernel) ?_
  refine X.new (pc := 26) (ci := 5) (nc := 29) (ns := 638) nw_Past_9 (by decide +kernel) rfl rfl rfl ?_
  refine X.nameMS (fun S99 hS99 => ?_)
  have h := lt_at hS99 h
  refine X.nameMI (fun I100 hI100 => ?_)
  have h := lt_at hI100 h
  refine X.nameML (fun L101 hL101 => ?_)
  have h := lt_at hL101 h
  refine X.nameMR (fun R102 hR102 => ?_)
  have h := lt_at hR102 h
  refine X.nameN (fun n103 hn103 => ?_)
  have h := lt_at hn103 h
  refine X.dupr (pc := 29) (by decide +kernel) ?_
  obtain ⟨hc104, h⟩ := asrt_some h
  obtain ⟨I105, L106, R107, S108, n109, hv110, h⟩ := bnd5_some h
  refine X.callIv (pc := 30) (nc := 28) (ns := 602) (c_Party_new hE (dle hd (Nat.le_of_ble_eq_true rfl)) hc104 hv110) cv_Past_17 (by decide +kernel) (ddd hd (Nat.le_of_ble_eq_true rfl)) rfl (Nat.le_of_ble_eq_true rfl) rfl rfl ?_
  obtain ⟨hc111, h⟩ := asrt_some h
  obtain ⟨hi112, h⟩ := asrt_some h
  obtain ⟨hc113, h⟩ := asrt_some h
  refine X.aastore (pc := 33) (by decide +kernel) (Or.inr ⟨hc111, rfl⟩) hc113 hi112 ?_
  refine X.nameMR (fun R114 hR114 => ?_)
  have h := lt_at hR114 h
  refine X.iinc_1 (pc := 34) (z := 1) (v := 1) ic_1 (by decide +kernel) (by decide) rfl ?_
  refine X.fgt (o' := [some (.ref (e_b E + t)), some (.int 6)]) (by exact ⟨rfl, ⟨(by decide), trivial⟩⟩) ?_
  refine X.goto (pc := 37) (off := (-22)) (tgt := 15) (by decide +kernel) rfl ?_
  refine X.iload_1 (pc := 15) (by decide +kernel) ?_
  refine X.bipush (pc := 16) (i := 20) (v := 20) bp_20 (by decide +kernel) ?_
  refine X.icmp_ge_f (pc := 18) (off := 22) (tgt := 40) (by decide) rfl (by decide +kernel) ?_
  refine X.aload_0 (pc := 21) (by decide +kernel) ?_
  obtain ⟨hc115, h⟩ := asrt_some h
  obtain ⟨b116, hb116, h⟩ := bnd1_some h
  refine X.getR (pc := 22) (k := 0) fw_Past_11 (by decide +kernel) (fun _ => rfl) hc115 hb116 ?_
  refine X.iload_1 (pc := 25) (by decide +kernel) ?_
  refine X.new (pc := 26) (ci := 5) (nc := 27) (ns := 595) nw_Past_9 (by decide +kernel) rfl rfl rfl ?_
  refine X.nameMS (fun S117 hS117 => ?_)
  have h := lt_at hS117 h
  refine X.nameMI (fun I118 hI118 => ?_)
  have h := lt_at hI118 h
  refine X.nameML (fun L119 hL119 => ?_)
  have h := lt_at hL119 h
  refine X.nameMR (fun R120 hR120 => ?_)
  have h := lt_at hR120 h
  refine X.nameN (fun n121 hn121 => ?_)
  have h := lt_at hn121 h
  refine X.dupr (pc := 29) (by decide +kernel) ?_
  obtain ⟨hc122, h⟩ := asrt_some h
  obtain ⟨I123, L124, R125, S126, n127, hv128, h⟩ := bnd5_some h
  refine X.callIv (pc := 30) (nc := 26) (ns := 559) (c_Party_new hE (dle hd (Nat.le_of_ble_eq_true rfl)) hc122 hv128) cv_Past_17 (by decide +kernel) (ddd hd (Nat.le_of_ble_eq_true rfl)) rfl (Nat.le_of_ble_eq_true rfl) rfl rfl ?_
  obtain ⟨hc129, h⟩ := asrt_some h
  obtain ⟨hi130, h⟩ := asrt_some h
  obtain ⟨hc131, h⟩ := asrt_some h
  refine X.aastore (pc := 33) (by decide +kernel) (Or.inr ⟨hc129, rfl⟩) hc131 hi130 ?_
  refine X.nameMR (fun R132 hR132 => ?_)
  have h := lt_at hR132 h
  refine X.iinc_1 (pc := 34) (z := 1) (v := 1) ic_1 (by decide +kernel) (by decide) rfl ?_
  refine X.fgt (o' := [some (.ref (e_b E + t)), some (.int 7)]) (by exact ⟨rfl, ⟨(by decide), trivial⟩⟩) ?_
  refine X.goto (pc := 37) (off := (-22)) (tgt := 15) (by decide +kernel) rfl ?_
  refine X.iload_1 (pc := 15) (by decide +kernel) ?_
  refine X.bipush (pc := 16) (i := 20) (v := 20) bp_20 (by decide +kernel) ?_
  refine X.icmp_ge_f (pc := 18) (off := 22) (tgt := 40) (by decide) rfl (by decide +kernel) ?_
  refine X.aload_0 (pc := 21) (by decide +kernel) ?_
  obtain ⟨hc133, h⟩ := asrt_some h
  obtain ⟨b134, hb134, h⟩ := bnd1_some h
  refine X.getR (pc := 22) (k := 0) fw_Past_11 (by decide +kernel) (fun _ => rfl) hc133 hb134 ?_
  refine X.iload_1 (pc := 25) (by decide +kernel) ?_
  refine X.new (pc := 26) (ci := 5) (nc := 25) (ns := 552) nw_Past_9 (by decide +kernel) rfl rfl rfl ?_
  refine X.nameMS (fun S135 hS135 => ?_)
  have h := lt_at hS135 h
  refine X.nameMI (fun I136 hI136 => ?_)
  have h := lt_at hI136 h
  refine X.nameML (fun L137 hL137 => ?_)
  have h := lt_at hL137 h
  refine X.nameMR (fun R138 hR138 => ?_)
  have h := lt_at hR138 h
  refine X.nameN (fun n139 hn139 => ?_)
  have h := lt_at hn139 h
  refine X.dupr (pc := 29) (by decide +kernel) ?_
  obtain ⟨hc140, h⟩ := asrt_some h
  obtain ⟨I141, L142, R143, S144, n145, hv146, h⟩ := bnd5_some h
  refine X.callIv (pc := 30) (nc := 24) (ns := 516) (c_Party_new hE (dle hd (Nat.le_of_ble_eq_true rfl)) hc140 hv146) cv_Past_17 (by decide +kernel) (ddd hd (Nat.le_of_ble_eq_true rfl)) rfl (Nat.le_of_ble_eq_true rfl) rfl rfl ?_
  obtain ⟨hc147, h⟩ := asrt_some h
  obtain ⟨hi148, h⟩ := asrt_some h
  obtain ⟨hc149, h⟩ := asrt_some h
  refine X.aastore (pc := 33) (by decide +kernel) (Or.inr ⟨hc147, rfl⟩) hc149 hi148 ?_
  refine X.nameMR (fun R150 hR150 => ?_)
  have h := lt_at hR150 h
  refine X.iinc_1 (pc := 34) (z := 1) (v := 1) ic_1 (by decide +kernel) (by decide) rfl ?_
  refine X.fgt (o' := [some (.ref (e_b E + t)), some (.int 8)]) (by exact ⟨rfl, ⟨(by decide), trivial⟩⟩) ?_
  refine X.goto (pc := 37) (off := (-22)) (tgt := 15) (by decide +kernel) rfl ?_
  refine X.iload_1 (pc := 15) (by decide +kernel) ?_
  refine X.bipush (pc := 16) (i := 20) (v := 20) bp_20 (by decide +kernel) ?_
  refine X.icmp_ge_f (pc := 18) (off := 22) (tgt := 40) (by decide) rfl (by decide +kernel) ?_
  refine X.aload_0 (pc := 21) (by decide +kernel) ?_
  obtain ⟨hc151, h⟩ := asrt_some h
  obtain ⟨b152, hb152, h⟩ := bnd1_some h
  refine X.getR (pc := 22) (k := 0) fw_Past_11 (by decide +kernel) (fun _ => rfl) hc151 hb152 ?_
  refine X.iload_1 (pc := 25) (by decide +kernel) ?_
  refine X.new (pc := 26) (ci := 5) (nc := 23) (ns := 509) nw_Past_9 (by decide +kernel) rfl rfl rfl ?_
  refine X.nameMS (fun S153 hS153 => ?_)
  have h := lt_at hS153 h
  refine X.nameMI (fun I154 hI154 => ?_)
  have h := lt_at hI154 h
  refine X.nameML (fun L155 hL155 => ?_)
  have h := lt_at hL155 h
  refine X.nameMR (fun R156 hR156 => ?_)
  have h := lt_at hR156 h
  refine X.nameN (fun n157 hn157 => ?_)
  have h := lt_at hn157 h
  refine X.dupr (pc := 29) (by decide +kernel) ?_
  obtain ⟨hc158, h⟩ := asrt_some h
  obtain ⟨I159, L160, R161, S162, n163, hv164, h⟩ := bnd5_some h
  refine X.callIv (pc := 30) (nc := 22) (ns := 473) (c_Party_new hE (dle hd (Nat.le_of_ble_eq_true rfl)) hc158 hv164) cv_Past_17 (by decide +kernel) (ddd hd (Nat.le_of_ble_eq_true rfl)) rfl (Nat.le_of_ble_eq_true rfl) rfl rfl ?_
  obtain ⟨hc165, h⟩ := asrt_some h
  obtain ⟨hi166, h⟩ := asrt_some h
  obtain ⟨hc167, h⟩ := asrt_some h
  refine X.aastore (pc := 33) (by decide +kernel) (Or.inr ⟨hc165, rfl⟩) hc167 hi166 ?_
  refine X.nameMR (fun R168 hR168 => ?_)
  have h := lt_at hR168 h
  refine X.iinc_1 (pc := 34) (z := 1) (v := 1) ic_1 (by decide +kernel) (by decide) rfl ?_
  refine X.fgt (o' := [some (.ref (e_b E + t)), some (.int 9)]) (by exact ⟨rfl, ⟨(by decide), trivial⟩⟩) ?_
  refine X.goto (pc := 37) (off := (-22)) (tgt := 15) (by decide +kernel) rfl ?_
  refine X.iload_1 (pc := 15) (by decide +kernel) ?_
  refine X.bipush (pc := 16) (i := 20) (v := 20) bp_20 (by decide +kernel) ?_
  refine X.icmp_ge_f (pc := 18) (off := 22) (tgt := 40) (by decide) rfl (by decide +kernel) ?_
  refine X.aload_0 (pc := 21) (by decide +kernel) ?_
  obtain ⟨hc169, h⟩ := asrt_some h
  obtain ⟨b170, hb170, h⟩ := bnd1_some h
  refine X.getR (pc := 22) (k := 0) fw_Past_11 (by decide +kernel) (fun _ => rfl) hc169 hb170 ?_
  refine X.iload_1 (pc := 25) (by decide +kernel) ?_
  refine X.new (pc := 26) (ci := 5) (nc := 21) (ns := 466) nw_Past_9 (by decide +kernel) rfl rfl rfl ?_
  refine X.nameMS (fun S171 hS171 => ?_)
  have h := lt_at hS171 h
  refine X.nameMI (fun I172 hI172 => ?_)
  have h := lt_at hI172 h
  refine X.nameML (fun L173 hL173 => ?_)
  have h := lt_at hL173 h
  refine X.nameMR (fun R174 hR174 => ?_)
  have h := lt_at hR174 h
  refine X.nameN (fun n175 hn175 => ?_)
  have h := lt_at hn175 h
  refine X.dupr (pc := 29) (by decide +kernel) ?_
  obtain ⟨hc176, h⟩ := asrt_some h
  obtain ⟨I177, L178, R179, S180, n181, hv182, h⟩ := bnd5_some h
  refine X.callIv (pc := 30) (nc := 20) (ns := 430) (c_Party_new hE (dle hd (Nat.le_of_ble_eq_true rfl)) hc176 hv182) cv_Past_17 (by decide +kernel) (ddd hd (Nat.le_of_ble_eq_true rfl)) rfl (Nat.le_of_ble_eq_true rfl) rfl rfl ?_
  obtain ⟨hc183, h⟩ := asrt_some h
  obtain ⟨hi184, h⟩ := asrt_some h
  obtain ⟨hc185, h⟩ := asrt_some h
  refine X.aastore (pc := 33) (by decide +kernel) (Or.inr ⟨hc183, rfl⟩) hc185 hi184 ?_
  refine X.nameMR (fun R186 hR186 => ?_)
  have h := lt_at hR186 h
  refine X.iinc_1 (pc := 34) (z := 1) (v := 1) ic_1 (by decide +kernel) (by decide) rfl ?_
  refine X.fgt (o' := [some (.ref (e_b E + t)), some (.int 10)]) (by exact ⟨rfl, ⟨(by decide), trivial⟩⟩) ?_
  refine X.goto (pc := 37) (off := (-22)) (tgt := 15) (by decide +kernel) rfl ?_
  refine X.iload_1 (pc := 15) (by decide +kernel) ?_
  refine X.bipush (pc := 16) (i := 20) (v := 20) bp_20 (by decide +kernel) ?_
  refine X.icmp_ge_f (pc := 18) (off := 22) (tgt := 40) (by decide) rfl (by decide +kernel) ?_
  refine X.aload_0 (pc := 21) (by decide +kernel) ?_
  obtain ⟨hc187, h⟩ := asrt_some h
  obtain ⟨b188, hb188, h⟩ := bnd1_some h
  refine X.getR (pc := 22) (k := 0) fw_Past_11 (by decide +kernel) (fun _ => rfl) hc187 hb188 ?_
  refine X.iload_1 (pc := 25) (by decide +kernel) ?_
  refine X.new (pc := 26) (ci := 5) (nc := 19) (ns := 423) nw_Past_9 (by decide +kernel) rfl rfl rfl ?_
  refine X.nameMS (fun S189 hS189 => ?_)
  have h := lt_at hS189 h
  refine X.nameMI (fun I190 hI190 => ?_)
  have h := lt_at hI190 h
  refine X.nameML (fun L191 hL191 => ?_)
  have h := lt_at hL191 h
  refine X.nameMR (fun R192 hR192 => ?_)
  have h := lt_at hR192 h
  refine X.nameN (fun n193 hn193 => ?_)
  have h := lt_at hn193 h
  refine X.dupr (pc := 29) (by decide +kernel) ?_
  obtain ⟨hc194, h⟩ := asrt_some h
  obtain ⟨I195, L196, R197, S198, n199, hv200, h⟩ := bnd5_some h
  refine X.callIv (pc := 30) (nc := 18) (ns := 387) (c_Party_new hE (dle hd (Nat.le_of_ble_eq_true rfl)) hc194 hv200) cv_Past_17 (by decide +kernel) (ddd hd (Nat.le_of_ble_eq_true rfl)) rfl (Nat.le_of_ble_eq_true rfl) rfl rfl ?_
  obtain ⟨hc201, h⟩ := asrt_some h
  obtain ⟨hi202, h⟩ := asrt_some h
  obtain ⟨hc203, h⟩ := asrt_some h
  refine X.aastore (pc := 33) (by decide +kernel) (Or.inr ⟨hc201, rfl⟩) hc203 hi202 ?_
  refine X.nameMR (fun R204 hR204 => ?_)
  have h := lt_at hR204 h
  refine X.iinc_1 (pc := 34) (z := 1) (v := 1) ic_1 (by decide +kernel) (by decide) rfl ?_
  refine X.fgt (o' := [some (.ref (e_b E + t)), some (.int 11)]) (by exact ⟨rfl, ⟨(by decide), trivial⟩⟩) ?_
  refine X.goto (pc := 37) (off := (-22)) (tgt := 15) (by decide +kernel) rfl ?_
  refine X.iload_1 (pc := 15) (by decide +kernel) ?_
  refine X.bipush (pc := 16) (i := 20) (v := 20) bp_20 (by decide +kernel) ?_
  refine X.icmp_ge_f (pc := 18) (off := 22) (tgt := 40) (by decide) rfl (by decide +kernel) ?_
  refine X.aload_0 (pc := 21) (by decide +kernel) ?_
  obtain ⟨hc205, h⟩ := asrt_some h
  obtain ⟨b206, hb206, h⟩ := bnd1_some h
  refine X.getR (pc := 22) (k := 0) fw_Past_11 (by decide +kernel) (fun _ => rfl) hc205 hb206 ?_
  refine X.iload_1 (pc := 25) (by decide +kernel) ?_
  refine X.new (pc := 26) (ci := 5) (nc := 17) (ns := 380) nw_Past_9 (by decide +kernel) rfl rfl rfl ?_
  refine X.nameMS (fun S207 hS207 => ?_)
  have h := lt_at hS207 h
  refine X.nameMI (fun I208 hI208 => ?_)
  have h := lt_at hI208 h
  refine X.nameML (fun L209 hL209 => ?_)
  have h := lt_at hL209 h
  refine X.nameMR (fun R210 hR210 => ?_)
  have h := lt_at hR210 h
  refine X.nameN (fun n211 hn211 => ?_)
  have h := lt_at hn211 h
  refine X.dupr (pc := 29) (by decide +kernel) ?_
  obtain ⟨hc212, h⟩ := asrt_some h
  obtain ⟨I213, L214, R215, S216, n217, hv218, h⟩ := bnd5_some h
  refine X.callIv (pc := 30) (nc := 16) (ns := 344) (c_Party_new hE (dle hd (Nat.le_of_ble_eq_true rfl)) hc212 hv218) cv_Past_17 (by decide +kernel) (ddd hd (Nat.le_of_ble_eq_true rfl)) rfl (Nat.le_of_ble_eq_true rfl) rfl rfl ?_
  obtain ⟨hc219, h⟩ := asrt_some h
  obtain ⟨hi220, h⟩ := asrt_some h
  obtain ⟨hc221, h⟩ := asrt_some h
  refine X.aastore (pc := 33) (by decide +kernel) (Or.inr ⟨hc219, rfl⟩) hc221 hi220 ?_
  refine X.nameMR (fun R222 hR222 => ?_)
  have h := lt_at hR222 h
  refine X.iinc_1 (pc := 34) (z := 1) (v := 1) ic_1 (by decide +kernel) (by decide) rfl ?_
  refine X.fgt (o' := [some (.ref (e_b E + t)), some (.int 12)]) (by exact ⟨rfl, ⟨(by decide), trivial⟩⟩) ?_
  refine X.goto (pc := 37) (off := (-22)) (tgt := 15) (by decide +kernel) rfl ?_
  refine X.iload_1 (pc := 15) (by decide +kernel) ?_
  refine X.bipush (pc := 16) (i := 20) (v := 20) bp_20 (by decide +kernel) ?_
  refine X.icmp_ge_f (pc := 18) (off := 22) (tgt := 40) (by decide) rfl (by decide +kernel) ?_
  refine X.aload_0 (pc := 21) (by decide +kernel) ?_
  obtain ⟨hc223, h⟩ := asrt_some h
  obtain ⟨b224, hb224, h⟩ := bnd1_some h
  refine X.getR (pc := 22) (k := 0) fw_Past_11 (by decide +kernel) (fun _ => rfl) hc223 hb224 ?_
  refine X.iload_1 (pc := 25) (by decide +kernel) ?_
  refine X.new (pc := 26) (ci := 5) (nc := 15) (ns := 337) nw_Past_9 (by decide +kernel) rfl rfl rfl ?_
  refine X.nameMS (fun S225 hS225 => ?_)
  have h := lt_at hS225 h
  refine X.nameMI (fun I226 hI226 => ?_)
  have h := lt_at hI226 h
  refine X.nameML (fun L227 hL227 => ?_)
  have h := lt_at hL227 h
  refine X.nameMR (fun R228 hR228 => ?_)
  have h := lt_at hR228 h
  refine X.nameN (fun n229 hn229 => ?_)
  have h := lt_at hn229 h
  refine X.dupr (pc := 29) (by decide +kernel) ?_
  obtain ⟨hc230, h⟩ := asrt_some h
  obtain ⟨I231, L232, R233, S234, n235, hv236, h⟩ := bnd5_some h
  refine X.callIv (pc := 30) (nc := 14) (ns := 301) (c_Party_new hE (dle hd (Nat.le_of_ble_eq_true rfl)) hc230 hv236) cv_Past_17 (by decide +kernel) (ddd hd (Nat.le_of_ble_eq_true rfl)) rfl (Nat.le_of_ble_eq_true rfl) rfl rfl ?_
  obtain ⟨hc237, h⟩ := asrt_some h
  obtain ⟨hi238, h⟩ := asrt_some h
  obtain ⟨hc239, h⟩ := asrt_some h
  refine X.aastore (pc := 33) (by decide +kernel) (Or.inr ⟨hc237, rfl⟩) hc239 hi238 ?_
  refine X.nameMR (fun R240 hR240 => ?_)
  have h := lt_at hR240 h
  refine X.iinc_1 (pc := 34) (z := 1) (v := 1) ic_1 (by decide +kernel) (by decide) rfl ?_
  refine X.fgt (o' := [some (.ref (e_b E + t)), some (.int 13)]) (by exact ⟨rfl, ⟨(by decide), trivial⟩⟩) ?_
  refine X.goto (pc := 37) (off := (-22)) (tgt := 15) (by decide +kernel) rfl ?_
  refine X.iload_1 (pc := 15) (by decide +kernel) ?_
  refine X.bipush (pc := 16) (i := 20) (v := 20) bp_20 (by decide +kernel) ?_
  refine X.icmp_ge_f (pc := 18) (off := 22) (tgt := 40) (by decide) rfl (by decide +kernel) ?_
  refine X.aload_0 (pc := 21) (by decide +kernel) ?_
  obtain ⟨hc241, h⟩ := asrt_some h
  obtain ⟨b242, hb242, h⟩ := bnd1_some h
  refine X.getR (pc := 22) (k := 0) fw_Past_11 (by decide +kernel) (fun _ => rfl) hc241 hb242 ?_
  refine X.iload_1 (pc := 25) (by decide +kernel) ?_
  refine X.new (pc := 26) (ci := 5) (nc := 13) (ns := 294) nw_Past_9 (by decide +kernel) rfl rfl rfl ?_
  refine X.nameMS (fun S243 hS243 => ?_)
  have h := lt_at hS243 h
  refine X.nameMI (fun I244 hI244 => ?_)
  have h := lt_at hI244 h
  refine X.nameML (fun L245 hL245 => ?_)
  have h := lt_at hL245 h
  refine X.nameMR (fun R246 hR246 => ?_)
  have h := lt_at hR246 h
  refine X.nameN (fun n247 hn247 => ?_)
  have h := lt_at hn247 h
  refine X.dupr (pc := 29) (by decide +kernel) ?_
  obtain ⟨hc248, h⟩ := asrt_some h
  obtain ⟨I249, L250, R251, S252, n253, hv254, h⟩ := bnd5_some h
  refine X.callIv (pc := 30) (nc := 12) (ns := 258) (c_Party_new hE (dle hd (Nat.le_of_ble_eq_true rfl)) hc248 hv254) cv_Past_17 (by decide +kernel) (ddd hd (Nat.le_of_ble_eq_true rfl)) rfl (Nat.le_of_ble_eq_true rfl) rfl rfl ?_
  obtain ⟨hc255, h⟩ := asrt_some h
  obtain ⟨hi256, h⟩ := asrt_some h
  obtain ⟨hc257, h⟩ := asrt_some h
  refine X.aastore (pc := 33) (by decide +kernel) (Or.inr ⟨hc255, rfl⟩) hc257 hi256 ?_
  refine X.nameMR (fun R258 hR258 => ?_)
  have h := lt_at hR258 h
  refine X.iinc_1 (pc := 34) (z := 1) (v := 1) ic_1 (by decide +kernel) (by decide) rfl ?_
  refine X.fgt (o' := [some (.ref (e_b E + t)), some (.int 14)]) (by exact ⟨rfl, ⟨(by decide), trivial⟩⟩) ?_
  refine X.goto (pc := 37) (off := (-22)) (tgt := 15) (by decide +kernel) rfl ?_
  refine X.iload_1 (pc := 15) (by decide +kernel) ?_
  refine X.bipush (pc := 16) (i := 20) (v := 20) bp_20 (by decide +kernel) ?_
  refine X.icmp_ge_f (pc := 18) (off := 22) (tgt := 40) (by decide) rfl (by decide +kernel) ?_
  refine X.aload_0 (pc := 21) (by decide +kernel) ?_
  obtain ⟨hc259, h⟩ := asrt_some h
  obtain ⟨b260, hb260, h⟩ := bnd1_some h
  refine X.getR (pc := 22) (k := 0) fw_Past_11 (by decide +kernel) (fun _ => rfl) hc259 hb260 ?_
  refine X.iload_1 (pc := 25) (by decide +kernel) ?_
  refine X.new (pc := 26) (ci := 5) (nc := 11) (ns := 251) nw_Past_9 (by decide +kernel) rfl rfl rfl ?_
  refine X.nameMS (fun S261 hS261 => ?_)
  have h := lt_at hS261 h
  refine X.nameMI (fun I262 hI262 => ?_)
  have h := lt_at hI262 h
  refine X.nameML (fun L263 hL263 => ?_)
  have h := lt_at hL263 h
  refine X.nameMR (fun R264 hR264 => ?_)
  have h := lt_at hR264 h
  refine X.nameN (fun n265 hn265 => ?_)
  have h := lt_at hn265 h
  refine X.dupr (pc := 29) (by decide +kernel) ?_
  obtain ⟨hc266, h⟩ := asrt_some h
  obtain ⟨I267, L268, R269, S270, n271, hv272, h⟩ := bnd5_some h
  refine X.callIv (pc := 30) (nc := 10) (ns := 215) (c_Party_new hE (dle hd (Nat.le_of_ble_eq_true rfl)) hc266 hv272) cv_Past_17 (by decide +kernel) (ddd hd (Nat.le_of_ble_eq_true rfl)) rfl (Nat.le_of_ble_eq_true rfl) rfl rfl ?_
  obtain ⟨hc273, h⟩ := asrt_some h
  obtain ⟨hi274, h⟩ := asrt_some h
  obtain ⟨hc275, h⟩ := asrt_some h
  refine X.aastore (pc := 33) (by decide +kernel) (Or.inr ⟨hc273, rfl⟩) hc275 hi274 ?_
  refine X.nameMR (fun R276 hR276 => ?_)
  have h := lt_at hR276 h
  refine X.iinc_1 (pc := 34) (z := 1) (v := 1) ic_1 (by decide +kernel) (by decide) rfl ?_
  refine X.fgt (o' := [some (.ref (e_b E + t)), some (.int 15)]) (by exact ⟨rfl, ⟨(by decide), trivial⟩⟩) ?_
  refine X.goto (pc := 37) (off := (-22)) (tgt := 15) (by decide +kernel) rfl ?_
  refine X.iload_1 (pc := 15) (by decide +kernel) ?_
  refine X.bipush (pc := 16) (i := 20) (v := 20) bp_20 (by decide +kernel) ?_
  refine X.icmp_ge_f (pc := 18) (off := 22) (tgt := 40) (by decide) rfl (by decide +kernel) ?_
  refine X.aload_0 (pc := 21) (by decide +kernel) ?_
  obtain ⟨hc277, h⟩ := asrt_some h
  obtain ⟨b278, hb278, h⟩ := bnd1_some h
  refine X.getR (pc := 22) (k := 0) fw_Past_11 (by decide +kernel) (fun _ => rfl) hc277 hb278 ?_
  refine X.iload_1 (pc := 25) (by decide +kernel) ?_
  refine X.new (pc := 26) (ci := 5) (nc := 9) (ns := 208) nw_Past_9 (by decide +kernel) rfl rfl rfl ?_
  refine X.nameMS (fun S279 hS279 => ?_)
  have h := lt_at hS279 h
  refine X.nameMI (fun I280 hI280 => ?_)
  have h := lt_at hI280 h
  refine X.nameML (fun L281 hL281 => ?_)
  have h := lt_at hL281 h
  refine X.nameMR (fun R282 hR282 => ?_)
  have h := lt_at hR282 h
  refine X.nameN (fun n283 hn283 => ?_)
  have h := lt_at hn283 h
  refine X.dupr (pc := 29) (by decide +kernel) ?_
  obtain ⟨hc284, h⟩ := asrt_some h
  obtain ⟨I285, L286, R287, S288, n289, hv290, h⟩ := bnd5_some h
  refine X.callIv (pc := 30) (nc := 8) (ns := 172) (c_Party_new hE (dle hd (Nat.le_of_ble_eq_true rfl)) hc284 hv290) cv_Past_17 (by decide +kernel) (ddd hd (Nat.le_of_ble_eq_true rfl)) rfl (Nat.le_of_ble_eq_true rfl) rfl rfl ?_
  obtain ⟨hc291, h⟩ := asrt_some h
  obtain ⟨hi292, h⟩ := asrt_some h
  obtain ⟨hc293, h⟩ := asrt_some h
  refine X.aastore (pc := 33) (by decide +kernel) (Or.inr ⟨hc291, rfl⟩) hc293 hi292 ?_
  refine X.nameMR (fun R294 hR294 => ?_)
  have h := lt_at hR294 h
  refine X.iinc_1 (pc := 34) (z := 1) (v := 1) ic_1 (by decide +kernel) (by decide) rfl ?_
  refine X.fgt (o' := [some (.ref (e_b E + t)), some (.int 16)]) (by exact ⟨rfl, ⟨(by decide), trivial⟩⟩) ?_
  refine X.goto (pc := 37) (off := (-22)) (tgt := 15) (by decide +kernel) rfl ?_
  refine X.iload_1 (pc := 15) (by decide +kernel) ?_
  refine X.bipush (pc := 16) (i := 20) (v := 20) bp_20 (by decide +kernel) ?_
  refine X.icmp_ge_f (pc := 18) (off := 22) (tgt := 40) (by decide) rfl (by decide +kernel) ?_
  refine X.aload_0 (pc := 21) (by decide +kernel) ?_
  obtain ⟨hc295, h⟩ := asrt_some h
  obtain ⟨b296, hb296, h⟩ := bnd1_some h
  refine X.getR (pc := 22) (k := 0) fw_Past_11 (by decide +kernel) (fun _ => rfl) hc295 hb296 ?_
  refine X.iload_1 (pc := 25) (by decide +kernel) ?_
  refine X.new (pc := 26) (ci := 5) (nc := 7) (ns := 165) nw_Past_9 (by decide +kernel) rfl rfl rfl ?_
  refine X.nameMS (fun S297 hS297 => ?_)
  have h := lt_at hS297 h
  refine X.nameMI (fun I298 hI298 => ?_)
  have h := lt_at hI298 h
  refine X.nameML (fun L299 hL299 => ?_)
  have h := lt_at hL299 h
  refine X.nameMR (fun R300 hR300 => ?_)
  have h := lt_at hR300 h
  refine X.nameN (fun n301 hn301 => ?_)
  have h := lt_at hn301 h
  refine X.dupr (pc := 29) (by decide +kernel) ?_
  obtain ⟨hc302, h⟩ := asrt_some h
  obtain ⟨I303, L304, R305, S306, n307, hv308, h⟩ := bnd5_some h
  refine X.callIv (pc := 30) (nc := 6) (ns := 129) (c_Party_new hE (dle hd (Nat.le_of_ble_eq_true rfl)) hc302 hv308) cv_Past_17 (by decide +kernel) (ddd hd (Nat.le_of_ble_eq_true rfl)) rfl (Nat.le_of_ble_eq_true rfl) rfl rfl ?_
  obtain ⟨hc309, h⟩ := asrt_some h
  obtain ⟨hi310, h⟩ := asrt_some h
  obtain ⟨hc311, h⟩ := asrt_some h
  refine X.aastore (pc := 33) (by decide +kernel) (Or.inr ⟨hc309, rfl⟩) hc311 hi310 ?_
  refine X.nameMR (fun R312 hR312 => ?_)
  have h := lt_at hR312 h
  refine X.iinc_1 (pc := 34) (z := 1) (v := 1) ic_1 (by decide +kernel) (by decide) rfl ?_
  refine X.fgt (o' := [some (.ref (e_b E + t)), some (.int 17)]) (by exact ⟨rfl, ⟨(by decide), trivial⟩⟩) ?_
  refine X.goto (pc := 37) (off := (-22)) (tgt := 15) (by decide +kernel) rfl ?_
  refine X.iload_1 (pc := 15) (by decide +kernel) ?_
  refine X.bipush (pc := 16) (i := 20) (v := 20) bp_20 (by decide +kernel) ?_
  refine X.icmp_ge_f (pc := 18) (off := 22) (tgt := 40) (by decide) rfl (by decide +kernel) ?_
  refine X.aload_0 (pc := 21) (by decide +kernel) ?_
  obtain ⟨hc313, h⟩ := asrt_some h
  obtain ⟨b314, hb314, h⟩ := bnd1_some h
  refine X.getR (pc := 22) (k := 0) fw_Past_11 (by decide +kernel) (fun _ => rfl) hc313 hb314 ?_
  refine X.iload_1 (pc := 25) (by decide +kernel) ?_
  refine X.new (pc := 26) (ci := 5) (nc := 5) (ns := 122) nw_Past_9 (by decide +kernel) rfl rfl rfl ?_
  refine X.nameMS (fun S315 hS315 => ?_)
  have h := lt_at hS315 h
  refine X.nameMI (fun I316 hI316 => ?_)
  have h := lt_at hI316 h
  refine X.nameML (fun L317 hL317 => ?_)
  have h := lt_at hL317 h
  refine X.nameMR (fun R318 hR318 => ?_)
  have h := lt_at hR318 h
  refine X.nameN (fun n319 hn319 => ?_)
  have h := lt_at hn319 h
  refine X.dupr (pc := 29) (by decide +kernel) ?_
  obtain ⟨hc320, h⟩ := asrt_some h
  obtain ⟨I321, L322, R323, S324, n325, hv326, h⟩ := bnd5_some h
  refine X.callIv (pc := 30) (nc := 4) (ns := 86) (c_Party_new hE (dle hd (Nat.le_of_ble_eq_true rfl)) hc320 hv326) cv_Past_17 (by decide +kernel) (ddd hd (Nat.le_of_ble_eq_true rfl)) rfl (Nat.le_of_ble_eq_true rfl) rfl rfl ?_
  obtain ⟨hc327, h⟩ := asrt_some h
  obtain ⟨hi328, h⟩ := asrt_some h
  obtain ⟨hc329, h⟩ := asrt_some h
  refine X.aastore (pc := 33) (by decide +kernel) (Or.inr ⟨hc327, rfl⟩) hc329 hi328 ?_
  refine X.nameMR (fun R330 hR330 => ?_)
  have h := lt_at hR330 h
  refine X.iinc_1 (pc := 34) (z := 1) (v := 1) ic_1 (by decide +kernel) (by decide) rfl ?_
  refine X.fgt (o' := [some (.ref (e_b E + t)), some (.int 18)]) (by exact ⟨rfl, ⟨(by decide), trivial⟩⟩) ?_
  refine X.goto (pc := 37) (off := (-22)) (tgt := 15) (by decide +kernel) rfl ?_
  refine X.iload_1 (pc := 15) (by decide +kernel) ?_
  refine X.bipush (pc := 16) (i := 20) (v := 20) bp_20 (by decide +kernel) ?_
  refine X.icmp_ge_f (pc := 18) (off := 22) (tgt := 40) (by decide) rfl (by decide +kernel) ?_
  refine X.aload_0 (pc := 21) (by decide +kernel) ?_
  obtain ⟨hc331, h⟩ := asrt_some h
  obtain ⟨b332, hb332, h⟩ := bnd1_some h
  refine X.getR (pc := 22) (k := 0) fw_Past_11 (by decide +kernel) (fun _ => rfl) hc331 hb332 ?_
  refine X.iload_1 (pc := 25) (by decide +kernel) ?_
  refine X.new (pc := 26) (ci := 5) (nc := 3) (ns := 79) nw_Past_9 (by decide +kernel) rfl rfl rfl ?_
  refine X.nameMS (fun S333 hS333 => ?_)
  have h := lt_at hS333 h
  refine X.nameMI (fun I334 hI334 => ?_)
  have h := lt_at hI334 h
  refine X.nameML (fun L335 hL335 => ?_)
  have h := lt_at hL335 h
  refine X.nameMR (fun R336 hR336 => ?_)
  have h := lt_at hR336 h
  refine X.nameN (fun n337 hn337 => ?_)
  have h := lt_at hn337 h
  refine X.dupr (pc := 29) (by decide +kernel) ?_
  obtain ⟨hc338, h⟩ := asrt_some h
  obtain ⟨I339, L340, R341, S342, n343, hv344, h⟩ := bnd5_some h
  refine X.callIv (pc := 30) (nc := 2) (ns := 43) (c_Party_new hE (dle hd (Nat.le_of_ble_eq_true rfl)) hc338 hv344) cv_Past_17 (by decide +kernel) (ddd hd (Nat.le_of_ble_eq_true rfl)) rfl (Nat.le_of_ble_eq_true rfl) rfl rfl ?_
  obtain ⟨hc345, h⟩ := asrt_some h
  obtain ⟨hi346, h⟩ := asrt_some h
  obtain ⟨hc347, h⟩ := asrt_some h
  refine X.aastore (pc := 33) (by decide +kernel) (Or.inr ⟨hc345, rfl⟩) hc347 hi346 ?_
  refine X.nameMR (fun R348 hR348 => ?_)
  have h := lt_at hR348 h
  refine X.iinc_1 (pc := 34) (z := 1) (v := 1) ic_1 (by decide +kernel) (by decide) rfl ?_
  refine X.fgt (o' := [some (.ref (e_b E + t)), some (.int 19)]) (by exact ⟨rfl, ⟨(by decide), trivial⟩⟩) ?_
  refine X.goto (pc := 37) (off := (-22)) (tgt := 15) (by decide +kernel) rfl ?_
  refine X.iload_1 (pc := 15) (by decide +kernel) ?_
  refine X.bipush (pc := 16) (i := 20) (v := 20) bp_20 (by decide +kernel) ?_
  refine X.icmp_ge_f (pc := 18) (off := 22) (tgt := 40) (by decide) rfl (by decide +kernel) ?_
  refine X.aload_0 (pc := 21) (by decide +kernel) ?_
  obtain ⟨hc349, h⟩ := asrt_some h
  obtain ⟨b350, hb350, h⟩ := bnd1_some h
  refine X.getR (pc := 22) (k := 0) fw_Past_11 (by decide +kernel) (fun _ => rfl) hc349 hb350 ?_
  refine X.iload_1 (pc := 25) (by decide +kernel) ?_
  refine X.new (pc := 26) (ci := 5) (nc := 1) (ns := 36) nw_Past_9 (by decide +kernel) rfl rfl rfl ?_
  refine X.nameMS (fun S351 hS351 => ?_)
  have h := lt_at hS351 h
  refine X.nameMI (fun I352 hI352 => ?_)
  have h := lt_at hI352 h
  refine X.nameML (fun L353 hL353 => ?_)
  have h := lt_at hL353 h
  refine X.nameMR (fun R354 hR354 => ?_)
  have h := lt_at hR354 h
  refine X.nameN (fun n355 hn355 => ?_)
  have h := lt_at hn355 h
  refine X.dupr (pc := 29) (by decide +kernel) ?_
  obtain ⟨hc356, h⟩ := asrt_some h
  obtain ⟨I357, L358, R359, S360, n361, hv362, h⟩ := bnd5_some h
  refine X.callIv (pc := 30) (nc := 0) (ns := 0) (c_Party_new hE (dle hd (Nat.le_of_ble_eq_true rfl)) hc356 hv362) cv_Past_17 (by decide +kernel) (ddd hd (Nat.le_of_ble_eq_true rfl)) rfl (Nat.le_of_ble_eq_true rfl) rfl rfl ?_
  obtain ⟨hc363, h⟩ := asrt_some h
  obtain ⟨hi364, h⟩ := asrt_some h
  obtain ⟨hc365, h⟩ := asrt_some h
  refine X.aastore (pc := 33) (by decide +kernel) (Or.inr ⟨hc363, rfl⟩) hc365 hi364 ?_
  refine X.nameMR (fun R366 hR366 => ?_)
  have h := lt_at hR366 h
  refine X.iinc_1 (pc := 34) (z := 1) (v := 1) ic_1 (by decide +kernel) (by decide) rfl ?_
  refine X.fgt (o' := [some (.ref (e_b E + t)), some (.int 20)]) (by exact ⟨rfl, ⟨(by decide), trivial⟩⟩) ?_
  refine X.goto (pc := 37) (off := (-22)) (tgt := 15) (by decide +kernel) rfl ?_
  refine X.iload_1 (pc := 15) (by decide +kernel) ?_
  refine X.bipush (pc := 16) (i := 20) (v := 20) bp_20 (by decide +kernel) ?_
  refine X.icmp_ge_t (pc := 18) (off := 22) (tgt := 40) (by decide) rfl (by decide +kernel) ?_
  have j0 := Option.some.inj h
  obtain ⟨i0, j1⟩ := Prod.mk.inj j0
  obtain ⟨i1, j2⟩ := Prod.mk.inj j1
  obtain ⟨i2, j3⟩ := Prod.mk.inj j2
  obtain ⟨i3, j4⟩ := Prod.mk.inj j3
  subst i0
  subst i1
  subst i2
  subst i3
  subst j4
  exact X.vreturn (pc := 40) (by decide +kernel) rfl ⟨rfl, rfl, rfl, rfl, rfl, rfl⟩
set_option maxRecDepth 100000 in
noncomputable def f_Fee_new (S : MS) (I : MI) (t : Nat) : Option MI :=
  lt (wI I t 5 (-1)) fun (I1 : MI) =>
  some I1
set_option maxRecDepth 100000 in
set_option maxHeartbeats 4000000 in
theorem c_Fee_new {E : Env} (hE : OKE E) {tg : Bool} {d : Nat} (hd : 1 ≤ d) {S : MS} {I : MI} {L : ML} {R : MR} {n : Nat} {t : Nat} {I' : MI} (hS : (S t).1 = 0) (h : f_Fee_new S I t = some I') : C E y_Fee_new b_Fee_new 1 none tg d 0 0 [.ref (e_b E + t)] S I L R n (Kq none S I' L R n) := by
  refine C.of (o := [some (.ref (e_b E + t))]) (by decide) rfl (Nat.le_of_ble_eq_true rfl) ?_
  rw [f_Fee_new] at h
  refine X.aload_0 (pc := 0) (by decide +kernel) ?_
  refine X.objInit (pc := 1) (by decide +kernel) oi_Fee_3 oi_i oi_c (Nat.le_trans (Nat.le_of_ble_eq_true rfl) hd) (Nat.le_of_ble_eq_true rfl) ?_
  refine X.aload_0 (pc := 4) (by decide +kernel) ?_
  refine X.iconst (pc := 5) (i := (-1)) (v := (-1)) ic_m1 (by decide +kernel) ?_
  refine X.putI (pc := 6) (k := 5) fw_Fee_9 (by decide +kernel) rfl rfl hS ?_
  refine X.nameMI (fun I1 hI1 => ?_)
  have h := lt_at hI1 h
  have j0 := Option.some.inj h
  subst j0
  exact X.vreturn (pc := 9) (by decide +kernel) rfl ⟨rfl, rfl, rfl, rfl, rfl, rfl⟩
set_option maxRecDepth 100000 in
noncomputable def f_Spread_new (S : MS) (R : MR) (I : MI) (L : ML) (n : Nat) (t : Nat) : Option (MI × ML × MR × MS × Nat) :=
  lt (wS S n (20, 144)) fun (S1 : MS) =>
  lt (zI I n) fun (I2 : MI) =>
  lt (zL L n) fun (L3 : ML) =>
  lt (zR R n) fun (R4 : MR) =>
  lt (n + 1) fun (n5 : Nat) =>
  asrt ((S1 t).1 = 9) <|
  lt (wR R4 t 0 (some n)) fun (R7 : MR) =>
  lt (wS S1 n5 (20, 144)) fun (S8 : MS) =>
  lt (zI I2 n5) fun (I9 : MI) =>
  lt (zL L3 n5) fun (L10 : ML) =>
  lt (zR R7 n5) fun (R11 : MR) =>
  lt (n5 + 1) fun (n12 : Nat) =>
  asrt ((S8 t).1 = 9) <|
  lt (wR R11 t 1 (some n5)) fun (R14 : MR) =>
  some (I9, L10, R14, S8, n12)
set_option maxRecDepth 100000 in
set_option maxHeartbeats 4000000 in
theorem c_Spread_new {E : Env} (hE : OKE E) {d : Nat} (hd : 1 ≤ d) {S : MS} {I : MI} {L : ML} {R : MR} {n : Nat} {t : Nat} {I' : MI} {L' : ML} {R' : MR} {S' : MS} {n' : Nat} (hS : (S t).1 = 9) (h : f_Spread_new S R I L n t = some (I', L', R', S', n')) : C E y_Spread_new b_Spread_new 1 none true d 2 288 [.ref (e_b E + t)] S I L R n (Kq none S' I' L' R' n') := by
  refine C.of (o := [some (.ref (e_b E + t))]) (by decide) rfl (Nat.le_of_ble_eq_true rfl) ?_
  rw [f_Spread_new] at h
  refine X.aload_0 (pc := 0) (by decide +kernel) ?_
  refine X.objInit (pc := 1) (by decide +kernel) oi_Spread_3 oi_i oi_c (Nat.le_trans (Nat.le_of_ble_eq_true rfl) hd) (Nat.le_of_ble_eq_true rfl) ?_
  refine X.aload_0 (pc := 4) (by decide +kernel) ?_
  refine X.sipush (pc := 5) (i := 144) (v := 144) sp_144 (by decide +kernel) ?_
  refine X.newarray (pc := 8) (t := 20) (N := 144) (nc := 1) (ns := 144) (by decide +kernel) na_20 rfl (by decide) (Or.inl ⟨rfl, rfl⟩) rfl rfl rfl ?_
  refine X.nameMS (fun S1 hS1 => ?_)
  have h := lt_at hS1 h
  refine X.nameMI (fun I2 hI2 => ?_)
  have h := lt_at hI2 h
  refine X.nameML (fun L3 hL3 => ?_)
  have h := lt_at hL3 h
  refine X.nameMR (fun R4 hR4 => ?_)
  have h := lt_at hR4 h
  refine X.nameN (fun n5 hn5 => ?_)
  have h := lt_at hn5 h
  obtain ⟨hc6, h⟩ := asrt_some h
  refine X.putR (pc := 10) (k := 0) fw_Spread_9 (by decide +kernel) (Or.inr ⟨_, rfl⟩) hc6 (Or.inr ⟨rfl, rfl, rfl, wfl_Spread_9⟩) ?_
  refine X.nameMR (fun R7 hR7 => ?_)
  have h := lt_at hR7 h
  refine X.aload_0 (pc := 13) (by decide +kernel) ?_
  refine X.sipush (pc := 14) (i := 144) (v := 144) sp_144 (by decide +kernel) ?_
  refine X.newarray (pc := 17) (t := 20) (N := 144) (nc := 0) (ns := 0) (by decide +kernel) na_20 rfl (by decide) (Or.inl ⟨rfl, rfl⟩) rfl rfl rfl ?_
  refine X.nameMS (fun S8 hS8 => ?_)
  have h := lt_at hS8 h
  refine X.nameMI (fun I9 hI9 => ?_)
  have h := lt_at hI9 h
  refine X.nameML (fun L10 hL10 => ?_)
  have h := lt_at hL10 h
  refine X.nameMR (fun R11 hR11 => ?_)
  have h := lt_at hR11 h
  refine X.nameN (fun n12 hn12 => ?_)
  have h := lt_at hn12 h
  obtain ⟨hc13, h⟩ := asrt_some h
  refine X.putR (pc := 19) (k := 1) fw_Spread_15 (by decide +kernel) (Or.inr ⟨_, rfl⟩) hc13 (Or.inr ⟨rfl, rfl, rfl, wfl_Spread_15⟩) ?_
  refine X.nameMR (fun R14 hR14 => ?_)
  have h := lt_at hR14 h
  have j0 := Option.some.inj h
  obtain ⟨i0, j1⟩ := Prod.mk.inj j0
  obtain ⟨i1, j2⟩ := Prod.mk.inj j1
  obtain ⟨i2, j3⟩ := Prod.mk.inj j2
  obtain ⟨i3, j4⟩ := Prod.mk.inj j3
  subst i0
  subst i1
  subst i2
  subst i3
  subst j4
  exact X.vreturn (pc := 22) (by decide +kernel) rfl ⟨rfl, rfl, rfl, rfl, rfl, rfl⟩
set_option maxRecDepth 100000 in
noncomputable def f_Market_new (S : MS) (R : MR) (I : MI) (L : ML) (n : Nat) (t : Nat) : Option (MI × ML × MR × MS × Nat) :=
  lt (wS S n (20, 25)) fun (S1 : MS) =>
  lt (zI I n) fun (I2 : MI) =>
  lt (zL L n) fun (L3 : ML) =>
  lt (zR R n) fun (R4 : MR) =>
  lt (n + 1) fun (n5 : Nat) =>
  asrt ((S1 t).1 = 3) <|
  lt (wR R4 t 0 (some n)) fun (R7 : MR) =>
  lt (wS S1 n5 (20, 32)) fun (S8 : MS) =>
  lt (zI I2 n5) fun (I9 : MI) =>
  lt (zL L3 n5) fun (L10 : ML) =>
  lt (zR R7 n5) fun (R11 : MR) =>
  lt (n5 + 1) fun (n12 : Nat) =>
  asrt ((S8 t).1 = 3) <|
  lt (wR R11 t 1 (some n5)) fun (R14 : MR) =>
  lt (wI I9 t 3 (-1)) fun (I15 : MI) =>
  some (I15, L10, R14, S8, n12)
set_option maxRecDepth 100000 in
set_option maxHeartbeats 4000000 in
theorem c_Market_new {E : Env} (hE : OKE E) {d : Nat} (hd : 1 ≤ d) {S : MS} {I : MI} {L : ML} {R : MR} {n : Nat} {t : Nat} {I' : MI} {L' : ML} {R' : MR} {S' : MS} {n' : Nat} (hS : (S t).1 = 3) (h : f_Market_new S R I L n t = some (I', L', R', S', n')) : C E y_Market_new b_Market_new 1 none true d 2 57 [.ref (e_b E + t)] S I L R n (Kq none S' I' L' R' n') := by
  refine C.of (o := [some (.ref (e_b E + t))]) (by decide) rfl (Nat.le_of_ble_eq_true rfl) ?_
  rw [f_Market_new] at h
  refine X.aload_0 (pc := 0) (by decide +kernel) ?_
  refine X.objInit (pc := 1) (by decide +kernel) oi_Market_3 oi_i oi_c (Nat.le_trans (Nat.le_of_ble_eq_true rfl) hd) (Nat.le_of_ble_eq_true rfl) ?_
  refine X.aload_0 (pc := 4) (by decide +kernel) ?_
  refine X.bipush (pc := 5) (i := 25) (v := 25) bp_25 (by decide +kernel) ?_
  refine X.newarray (pc := 7) (t := 20) (N := 25) (nc := 1) (ns := 32) (by decide +kernel) na_20 rfl (by decide) (Or.inl ⟨rfl, rfl⟩) rfl rfl rfl ?_
  refine X.nameMS (fun S1 hS1 => ?_)
  have h := lt_at hS1 h
  refine X.nameMI (fun I2 hI2 => ?_)
  have h := lt_at hI2 h
  refine X.nameML (fun L3 hL3 => ?_)
  have h := lt_at hL3 h
  refine X.nameMR (fun R4 hR4 => ?_)
  have h := lt_at hR4 h
  refine X.nameN (fun n5 hn5 => ?_)
  have h := lt_at hn5 h
  obtain ⟨hc6, h⟩ := asrt_some h
  refine X.putR (pc := 9) (k := 0) fw_Market_9 (by decide +kernel) (Or.inr ⟨_, rfl⟩) hc6 (Or.inr ⟨rfl, rfl, rfl, wfl_Market_9⟩) ?_
  refine X.nameMR (fun R7 hR7 => ?_)
  have h := lt_at hR7 h
  refine X.aload_0 (pc := 12) (by decide +kernel) ?_
  refine X.bipush (pc := 13) (i := 32) (v := 32) bp_32 (by decide +kernel) ?_
  refine X.newarray (pc := 15) (t := 20) (N := 32) (nc := 0) (ns := 0) (by decide +kernel) na_20 rfl (by decide) (Or.inl ⟨rfl, rfl⟩) rfl rfl rfl ?_
  refine X.nameMS (fun S8 hS8 => ?_)
  have h := lt_at hS8 h
  refine X.nameMI (fun I9 hI9 => ?_)
  have h := lt_at hI9 h
  refine X.nameML (fun L10 hL10 => ?_)
  have h := lt_at hL10 h
  refine X.nameMR (fun R11 hR11 => ?_)
  have h := lt_at hR11 h
  refine X.nameN (fun n12 hn12 => ?_)
  have h := lt_at hn12 h
  obtain ⟨hc13, h⟩ := asrt_some h
  refine X.putR (pc := 17) (k := 1) fw_Market_15 (by decide +kernel) (Or.inr ⟨_, rfl⟩) hc13 (Or.inr ⟨rfl, rfl, rfl, wfl_Market_15⟩) ?_
  refine X.nameMR (fun R14 hR14 => ?_)
  have h := lt_at hR14 h
  refine X.aload_0 (pc := 20) (by decide +kernel) ?_
  refine X.iconst (pc := 21) (i := (-1)) (v := (-1)) ic_m1 (by decide +kernel) ?_
  refine X.putI (pc := 22) (k := 3) fw_Market_18 (by decide +kernel) rfl rfl hc13 ?_
  refine X.nameMI (fun I15 hI15 => ?_)
  have h := lt_at hI15 h
  have j0 := Option.some.inj h
  obtain ⟨i0, j1⟩ := Prod.mk.inj j0
  obtain ⟨i1, j2⟩ := Prod.mk.inj j1
  obtain ⟨i2, j3⟩ := Prod.mk.inj j2
  obtain ⟨i3, j4⟩ := Prod.mk.inj j3
  subst i0
  subst i1
  subst i2
  subst i3
  subst j4
  exact X.vreturn (pc := 25) (by decide +kernel) rfl ⟨rfl, rfl, rfl, rfl, rfl, rfl⟩
set_option maxRecDepth 100000 in
noncomputable def l_Land_new_42 (S : MS) (R : MR) (v0 : Nat) : Nat → MI → Int32 → Option MI
  | 0, _, _ => none
  | f + 1, I, v1 =>
    ifb (144 ≤ v1)
      (some I)
      (bnd1 (R v0 3) fun b25 =>
      asrt ((S b25).1 = 20) <|
      asrt (vp_in v1 (S b25).2) <|
      lt (wI I b25 (Int32.toNatClampNeg v1) v1) fun (I28 : MI) =>
      l_Land_new_42 S R v0 f I28 (v1 + 1))
set_option maxRecDepth 100000 in
set_option maxHeartbeats 4000000 in
theorem xl_Land_new_42 {E : Env} (hE : OKE E) {d : Nat} (hd : 1 ≤ d) {S : MS} {L : ML} {R : MR} {n : Nat} {v0 : Nat} {K : KT} :
    ∀ {f : Nat} {I : MI} {v1 : Int32} {I' : MI}, (S v0).1 = 2 → l_Land_new_42 S R v0 f I v1 = some I' → X E y_Land_new b_Land_new 2 none true d 0 0 62 [none, none] [] S I' L R n K → X E y_Land_new b_Land_new 2 none true d 0 0 42 [some (.ref (e_b E + v0)), some (.int v1)] [] S I L R n K := by
  intro f
  induction f with
  | zero =>
    intro I v1 I' hS h hk
    rw [l_Land_new_42] at h
    cases h
  | succ f ih =>
    intro I v1 I' hS h hk
    rw [l_Land_new_42] at h
    refine X.iload_1 (pc := 42) (by decide +kernel) ?_
    refine X.sipush (pc := 43) (i := 144) (v := 144) sp_144 (by decide +kernel) ?_
    rcases ifb_some h with ⟨hq24, h⟩ | ⟨hq24, h⟩
    · refine X.icmp_ge_t (pc := 46) (off := 16) (tgt := 62) hq24 rfl (by decide +kernel) ?_
      have j0 := Option.some.inj h
      subst j0
      refine X.fgt (o' := [none, none]) trivial ?_
      exact hk
    · refine X.icmp_ge_f (pc := 46) (off := 16) (tgt := 62) hq24 rfl (by decide +kernel) ?_
      refine X.aload_0 (pc := 49) (by decide +kernel) ?_
      obtain ⟨b25, hb25, h⟩ := bnd1_some h
      refine X.getR (pc := 50) (k := 3) fw_Land_22 (by decide +kernel) (fun _ => rfl) hS hb25 ?_
      refine X.iload_1 (pc := 53) (by decide +kernel) ?_
      refine X.iload_1 (pc := 54) (by decide +kernel) ?_
      obtain ⟨hc26, h⟩ := asrt_some h
      obtain ⟨hi27, h⟩ := asrt_some h
      refine X.iastore (pc := 55) (by decide +kernel) hc26 hi27 ?_
      refine X.nameMI (fun I28 hI28 => ?_)
      have h := lt_at hI28 h
      refine X.iinc_1 (pc := 56) (z := 1) (v := 1) ic_1 (by decide +kernel) (by decide) rfl ?_
      refine X.goto (pc := 59) (off := (-17)) (tgt := 42) (by decide +kernel) rfl ?_
      exact ih hS h hk
set_option maxRecDepth 100000 in
noncomputable def f_Land_new (g : Nat) (S : MS) (R : MR) (I : MI) (L : ML) (n : Nat) (t : Nat) : Option (MI × ML × MR × MS × Nat) :=
  lt (wI I t 0 1) fun (I1 : MI) =>
  lt (wI I1 t 1 1) fun (I2 : MI) =>
  lt (wS S n (20, 36)) fun (S3 : MS) =>
  lt (zI I2 n) fun (I4 : MI) =>
  lt (zL L n) fun (L5 : ML) =>
  lt (zR R n) fun (R6 : MR) =>
  lt (n + 1) fun (n7 : Nat) =>
  asrt ((S3 t).1 = 2) <|
  lt (wR R6 t 2 (some n)) fun (R9 : MR) =>
  lt (wS S3 n7 (20, 144)) fun (S10 : MS) =>
  lt (zI I4 n7) fun (I11 : MI) =>
  lt (zL L5 n7) fun (L12 : ML) =>
  lt (zR R9 n7) fun (R13 : MR) =>
  lt (n7 + 1) fun (n14 : Nat) =>
  asrt ((S10 t).1 = 2) <|
  lt (wR R13 t 3 (some n7)) fun (R16 : MR) =>
  lt (wS S10 n14 (20, 144)) fun (S17 : MS) =>
  lt (zI I11 n14) fun (I18 : MI) =>
  lt (zL L12 n14) fun (L19 : ML) =>
  lt (zR R16 n14) fun (R20 : MR) =>
  lt (n14 + 1) fun (n21 : Nat) =>
  asrt ((S17 t).1 = 2) <|
  lt (wR R20 t 4 (some n14)) fun (R23 : MR) =>
  bnd1 (l_Land_new_42 S17 R23 t g I18 0) fun I29 =>
  some (I29, L19, R23, S17, n21)
set_option maxRecDepth 100000 in
set_option maxHeartbeats 4000000 in
theorem c_Land_new {E : Env} (hE : OKE E) {d : Nat} (hd : 1 ≤ d) {g : Nat} {S : MS} {I : MI} {L : ML} {R : MR} {n : Nat} {t : Nat} {I' : MI} {L' : ML} {R' : MR} {S' : MS} {n' : Nat} (hS : (S t).1 = 2) (h : f_Land_new g S R I L n t = some (I', L', R', S', n')) : C E y_Land_new b_Land_new 2 none true d 3 324 [.ref (e_b E + t)] S I L R n (Kq none S' I' L' R' n') := by
  refine C.of (o := [some (.ref (e_b E + t)), none]) (by decide) rfl (Nat.le_of_ble_eq_true rfl) ?_
  rw [f_Land_new] at h
  refine X.aload_0 (pc := 0) (by decide +kernel) ?_
  refine X.objInit (pc := 1) (by decide +kernel) oi_Land_3 oi_i oi_c (Nat.le_trans (Nat.le_of_ble_eq_true rfl) hd) (Nat.le_of_ble_eq_true rfl) ?_
  refine X.aload_0 (pc := 4) (by decide +kernel) ?_
  refine X.iconst (pc := 5) (i := 1) (v := 1) ic_1 (by decide +kernel) ?_
  refine X.putI (pc := 6) (k := 0) fw_Land_9 (by decide +kernel) rfl rfl hS ?_
  refine X.nameMI (fun I1 hI1 => ?_)
  have h := lt_at hI1 h
  refine X.aload_0 (pc := 9) (by decide +kernel) ?_
  refine X.iconst (pc := 10) (i := 1) (v := 1) ic_1 (by decide +kernel) ?_
  refine X.putI (pc := 11) (k := 1) fw_Land_15 (by decide +kernel) rfl rfl hS ?_
  refine X.nameMI (fun I2 hI2 => ?_)
  have h := lt_at hI2 h
  refine X.aload_0 (pc := 14) (by decide +kernel) ?_
  refine X.bipush (pc := 15) (i := 36) (v := 36) bp_36 (by decide +kernel) ?_
  refine X.newarray (pc := 17) (t := 20) (N := 36) (nc := 2) (ns := 288) (by decide +kernel) na_20 rfl (by decide) (Or.inl ⟨rfl, rfl⟩) rfl rfl rfl ?_
  refine X.nameMS (fun S3 hS3 => ?_)
  have h := lt_at hS3 h
  refine X.nameMI (fun I4 hI4 => ?_)
  have h := lt_at hI4 h
  refine X.nameML (fun L5 hL5 => ?_)
  have h := lt_at hL5 h
  refine X.nameMR (fun R6 hR6 => ?_)
  have h := lt_at hR6 h
  refine X.nameN (fun n7 hn7 => ?_)
  have h := lt_at hn7 h
  obtain ⟨hc8, h⟩ := asrt_some h
  refine X.putR (pc := 19) (k := 2) fw_Land_18 (by decide +kernel) (Or.inr ⟨_, rfl⟩) hc8 (Or.inr ⟨rfl, rfl, rfl, wfl_Land_18⟩) ?_
  refine X.nameMR (fun R9 hR9 => ?_)
  have h := lt_at hR9 h
  refine X.aload_0 (pc := 22) (by decide +kernel) ?_
  refine X.sipush (pc := 23) (i := 144) (v := 144) sp_144 (by decide +kernel) ?_
  refine X.newarray (pc := 26) (t := 20) (N := 144) (nc := 1) (ns := 144) (by decide +kernel) na_20 rfl (by decide) (Or.inl ⟨rfl, rfl⟩) rfl rfl rfl ?_
  refine X.nameMS (fun S10 hS10 => ?_)
  have h := lt_at hS10 h
  refine X.nameMI (fun I11 hI11 => ?_)
  have h := lt_at hI11 h
  refine X.nameML (fun L12 hL12 => ?_)
  have h := lt_at hL12 h
  refine X.nameMR (fun R13 hR13 => ?_)
  have h := lt_at hR13 h
  refine X.nameN (fun n14 hn14 => ?_)
  have h := lt_at hn14 h
  obtain ⟨hc15, h⟩ := asrt_some h
  refine X.putR (pc := 28) (k := 3) fw_Land_22 (by decide +kernel) (Or.inr ⟨_, rfl⟩) hc15 (Or.inr ⟨rfl, rfl, rfl, wfl_Land_22⟩) ?_
  refine X.nameMR (fun R16 hR16 => ?_)
  have h := lt_at hR16 h
  refine X.aload_0 (pc := 31) (by decide +kernel) ?_
  refine X.sipush (pc := 32) (i := 144) (v := 144) sp_144 (by decide +kernel) ?_
  refine X.newarray (pc := 35) (t := 20) (N := 144) (nc := 0) (ns := 0) (by decide +kernel) na_20 rfl (by decide) (Or.inl ⟨rfl, rfl⟩) rfl rfl rfl ?_
  refine X.nameMS (fun S17 hS17 => ?_)
  have h := lt_at hS17 h
  refine X.nameMI (fun I18 hI18 => ?_)
  have h := lt_at hI18 h
  refine X.nameML (fun L19 hL19 => ?_)
  have h := lt_at hL19 h
  refine X.nameMR (fun R20 hR20 => ?_)
  have h := lt_at hR20 h
  refine X.nameN (fun n21 hn21 => ?_)
  have h := lt_at hn21 h
  obtain ⟨hc22, h⟩ := asrt_some h
  refine X.putR (pc := 37) (k := 4) fw_Land_25 (by decide +kernel) (Or.inr ⟨_, rfl⟩) hc22 (Or.inr ⟨rfl, rfl, rfl, wfl_Land_25⟩) ?_
  refine X.nameMR (fun R23 hR23 => ?_)
  have h := lt_at hR23 h
  refine X.iconst (pc := 40) (i := 0) (v := 0) ic_0 (by decide +kernel) ?_
  refine X.istore_1 (pc := 41) (by decide +kernel) (by decide) rfl ?_
  obtain ⟨I29, hv30, h⟩ := bnd1_some h
  refine xl_Land_new_42 hE hd hc22 hv30 ?_
  have j0 := Option.some.inj h
  obtain ⟨i0, j1⟩ := Prod.mk.inj j0
  obtain ⟨i1, j2⟩ := Prod.mk.inj j1
  obtain ⟨i2, j3⟩ := Prod.mk.inj j2
  obtain ⟨i3, j4⟩ := Prod.mk.inj j3
  subst i0
  subst i1
  subst i2
  subst i3
  subst j4
  exact X.vreturn (pc := 62) (by decide +kernel) rfl ⟨rfl, rfl, rfl, rfl, rfl, rfl⟩
set_option maxRecDepth 100000 in
noncomputable def f_Guide_new (S : MS) (R : MR) (I : MI) (L : ML) (n : Nat) (t : Nat) (p1 : Nat) (p2 : Nat) : Option (MI × ML × MR × MS × Nat) :=
  lt (wS S n (9, 0)) fun (S1 : MS) =>
  lt (zI I n) fun (I2 : MI) =>
  lt (zL L n) fun (L3 : ML) =>
  lt (zR R n) fun (R4 : MR) =>
  lt (n + 1) fun (n5 : Nat) =>
  asrt ((S1 n).1 = 9) <|
  bnd5 (f_Spread_new S1 R4 I2 L3 n5 n) fun I7 L8 R9 S10 n11 =>
  asrt ((S10 t).1 = 1) <|
  lt (wR R9 t 2 (some n)) fun (R14 : MR) =>
  lt (wS S10 n11 (21, 1296)) fun (S15 : MS) =>
  lt (zI I7 n11) fun (I16 : MI) =>
  lt (zL L8 n11) fun (L17 : ML) =>
  lt (zR R14 n11) fun (R18 : MR) =>
  lt (n11 + 1) fun (n19 : Nat) =>
  asrt ((S15 t).1 = 1) <|
  lt (wR R18 t 3 (some n11)) fun (R21 : MR) =>
  lt (wS S15 n19 (21, 1296)) fun (S22 : MS) =>
  lt (zI I16 n19) fun (I23 : MI) =>
  lt (zL L17 n19) fun (L24 : ML) =>
  lt (zR R21 n19) fun (R25 : MR) =>
  lt (n19 + 1) fun (n26 : Nat) =>
  asrt ((S22 t).1 = 1) <|
  lt (wR R25 t 4 (some n19)) fun (R28 : MR) =>
  lt (wS S22 n26 (21, 1296)) fun (S29 : MS) =>
  lt (zI I23 n26) fun (I30 : MI) =>
  lt (zL L24 n26) fun (L31 : ML) =>
  lt (zR R28 n26) fun (R32 : MR) =>
  lt (n26 + 1) fun (n33 : Nat) =>
  asrt ((S29 t).1 = 1) <|
  lt (wR R32 t 5 (some n26)) fun (R35 : MR) =>
  lt (wS S29 n33 (21, 1296)) fun (S36 : MS) =>
  lt (zI I30 n33) fun (I37 : MI) =>
  lt (zL L31 n33) fun (L38 : ML) =>
  lt (zR R35 n33) fun (R39 : MR) =>
  lt (n33 + 1) fun (n40 : Nat) =>
  asrt ((S36 t).1 = 1) <|
  lt (wR R39 t 6 (some n33)) fun (R42 : MR) =>
  lt (wS S36 n40 (0, 0)) fun (S43 : MS) =>
  lt (zI I37 n40) fun (I44 : MI) =>
  lt (zL L38 n40) fun (L45 : ML) =>
  lt (zR R42 n40) fun (R46 : MR) =>
  lt (n40 + 1) fun (n47 : Nat) =>
  asrt ((S43 n40).1 = 0) <|
  bnd1 (f_Fee_new S43 I44 n40) fun I49 =>
  asrt ((S43 t).1 = 1) <|
  lt (wR R46 t 7 (some n40)) fun (R52 : MR) =>
  lt (wI I49 t 11 3) fun (I53 : MI) =>
  lt (wR R52 t 0 (some p1)) fun (R54 : MR) =>
  lt (wR R54 t 1 (some p2)) fun (R55 : MR) =>
  some (I53, L45, R55, S43, n47)
set_option maxRecDepth 100000 in
set_option maxHeartbeats 4000000 in
theorem c_Guide_new {E : Env} (hE : OKE E) {d : Nat} (hd : 2 ≤ d) {S : MS} {I : MI} {L : ML} {R : MR} {n : Nat} {t : Nat} {p1 : Nat} {p2 : Nat} {I' : MI} {L' : ML} {R' : MR} {S' : MS} {n' : Nat} (hS : (S t).1 = 1) (h : f_Guide_new S R I L n t p1 p2 = some (I', L', R', S', n')) : C E y_Guide_new b_Guide_new 3 none true d 8 5481 [.ref (e_b E + t), .ref (e_b E + p1), .ref (e_b E + p2)] S I L R n (Kq none S' I' L' R' n') := by
  refine C.of (o := [some (.ref (e_b E + t)), some (.ref (e_b E + p1)), some (.ref (e_b E + p2))]) (by decide) rfl (Nat.le_of_ble_eq_true rfl) ?_
  rw [f_Guide_new] at h
  refine X.aload_0 (pc := 0) (by decide +kernel) ?_
  refine X.objInit (pc := 1) (by decide +kernel) oi_Guide_3 oi_i oi_c (Nat.le_trans (Nat.le_of_ble_eq_true rfl) hd) (Nat.le_of_ble_eq_true rfl) ?_
  refine X.aload_0 (pc := 4) (by decide +kernel) ?_
  refine X.new (pc := 5) (ci := 9) (nc := 7) (ns := 5478) nw_Guide_9 (by decide +kernel) rfl rfl rfl ?_
  refine X.nameMS (fun S1 hS1 => ?_)
  have h := lt_at hS1 h
  refine X.nameMI (fun I2 hI2 => ?_)
  have h := lt_at hI2 h
  refine X.nameML (fun L3 hL3 => ?_)
  have h := lt_at hL3 h
  refine X.nameMR (fun R4 hR4 => ?_)
  have h := lt_at hR4 h
  refine X.nameN (fun n5 hn5 => ?_)
  have h := lt_at hn5 h
  refine X.dupr (pc := 8) (by decide +kernel) ?_
  obtain ⟨hc6, h⟩ := asrt_some h
  obtain ⟨I7, L8, R9, S10, n11, hv12, h⟩ := bnd5_some h
  refine X.callIv (pc := 9) (nc := 5) (ns := 5190) (c_Spread_new hE (dle hd (Nat.le_of_ble_eq_true rfl)) hc6 hv12) cv_Guide_11 (by decide +kernel) (ddd hd (Nat.le_of_ble_eq_true rfl)) rfl (Nat.le_of_ble_eq_true rfl) rfl rfl ?_
  obtain ⟨hc13, h⟩ := asrt_some h
  refine X.putR (pc := 12) (k := 2) fw_Guide_12 (by decide +kernel) (Or.inl ⟨_, rfl⟩) hc13 (Or.inr ⟨rfl, rfl, rfl, wfl_Guide_12⟩) ?_
  refine X.nameMR (fun R14 hR14 => ?_)
  have h := lt_at hR14 h
  refine X.aload_0 (pc := 15) (by decide +kernel) ?_
  refine X.sipush (pc := 16) (i := 1296) (v := 1296) sp_1296 (by decide +kernel) ?_
  refine X.newarray (pc := 19) (t := 21) (N := 1296) (nc := 4) (ns := 3894) (by decide +kernel) na_21 rfl (by decide) (Or.inr (Or.inl ⟨rfl, rfl⟩)) rfl rfl rfl ?_
  refine X.nameMS (fun S15 hS15 => ?_)
  have h := lt_at hS15 h
  refine X.nameMI (fun I16 hI16 => ?_)
  have h := lt_at hI16 h
  refine X.nameML (fun L17 hL17 => ?_)
  have h := lt_at hL17 h
  refine X.nameMR (fun R18 hR18 => ?_)
  have h := lt_at hR18 h
  refine X.nameN (fun n19 hn19 => ?_)
  have h := lt_at hn19 h
  obtain ⟨hc20, h⟩ := asrt_some h
  refine X.putR (pc := 21) (k := 3) fw_Guide_18 (by decide +kernel) (Or.inr ⟨_, rfl⟩) hc20 (Or.inl rfl) ?_
  refine X.nameMR (fun R21 hR21 => ?_)
  have h := lt_at hR21 h
  refine X.aload_0 (pc := 24) (by decide +kernel) ?_
  refine X.sipush (pc := 25) (i := 1296) (v := 1296) sp_1296 (by decide +kernel) ?_
  refine X.newarray (pc := 28) (t := 21) (N := 1296) (nc := 3) (ns := 2598) (by decide +kernel) na_21 rfl (by decide) (Or.inr (Or.inl ⟨rfl, rfl⟩)) rfl rfl rfl ?_
  refine X.nameMS (fun S22 hS22 => ?_)
  have h := lt_at hS22 h
  refine X.nameMI (fun I23 hI23 => ?_)
  have h := lt_at hI23 h
  refine X.nameML (fun L24 hL24 => ?_)
  have h := lt_at hL24 h
  refine X.nameMR (fun R25 hR25 => ?_)
  have h := lt_at hR25 h
  refine X.nameN (fun n26 hn26 => ?_)
  have h := lt_at hn26 h
  obtain ⟨hc27, h⟩ := asrt_some h
  refine X.putR (pc := 30) (k := 4) fw_Guide_22 (by decide +kernel) (Or.inr ⟨_, rfl⟩) hc27 (Or.inl rfl) ?_
  refine X.nameMR (fun R28 hR28 => ?_)
  have h := lt_at hR28 h
  refine X.aload_0 (pc := 33) (by decide +kernel) ?_
  refine X.sipush (pc := 34) (i := 1296) (v := 1296) sp_1296 (by decide +kernel) ?_
  refine X.newarray (pc := 37) (t := 21) (N := 1296) (nc := 2) (ns := 1302) (by decide +kernel) na_21 rfl (by decide) (Or.inr (Or.inl ⟨rfl, rfl⟩)) rfl rfl rfl ?_
  refine X.nameMS (fun S29 hS29 => ?_)
  have h := lt_at hS29 h
  refine X.nameMI (fun I30 hI30 => ?_)
  have h := lt_at hI30 h
  refine X.nameML (fun L31 hL31 => ?_)
  have h := lt_at hL31 h
  refine X.nameMR (fun R32 hR32 => ?_)
  have h := lt_at hR32 h
  refine X.nameN (fun n33 hn33 => ?_)
  have h := lt_at hn33 h
  obtain ⟨hc34, h⟩ := asrt_some h
  refine X.putR (pc := 39) (k := 5) fw_Guide_25 (by decide +kernel) (Or.inr ⟨_, rfl⟩) hc34 (Or.inl rfl) ?_
  refine X.nameMR (fun R35 hR35 => ?_)
  have h := lt_at hR35 h
  refine X.aload_0 (pc := 42) (by decide +kernel) ?_
  refine X.sipush (pc := 43) (i := 1296) (v := 1296) sp_1296 (by decide +kernel) ?_
  refine X.newarray (pc := 46) (t := 21) (N := 1296) (nc := 1) (ns := 6) (by decide +kernel) na_21 rfl (by decide) (Or.inr (Or.inl ⟨rfl, rfl⟩)) rfl rfl rfl ?_
  refine X.nameMS (fun S36 hS36 => ?_)
  have h := lt_at hS36 h
  refine X.nameMI (fun I37 hI37 => ?_)
  have h := lt_at hI37 h
  refine X.nameML (fun L38 hL38 => ?_)
  have h := lt_at hL38 h
  refine X.nameMR (fun R39 hR39 => ?_)
  have h := lt_at hR39 h
  refine X.nameN (fun n40 hn40 => ?_)
  have h := lt_at hn40 h
  obtain ⟨hc41, h⟩ := asrt_some h
  refine X.putR (pc := 48) (k := 6) fw_Guide_28 (by decide +kernel) (Or.inr ⟨_, rfl⟩) hc41 (Or.inl rfl) ?_
  refine X.nameMR (fun R42 hR42 => ?_)
  have h := lt_at hR42 h
  refine X.aload_0 (pc := 51) (by decide +kernel) ?_
  refine X.new (pc := 52) (ci := 0) (nc := 0) (ns := 0) nw_Guide_31 (by decide +kernel) rfl rfl rfl ?_
  refine X.nameMS (fun S43 hS43 => ?_)
  have h := lt_at hS43 h
  refine X.nameMI (fun I44 hI44 => ?_)
  have h := lt_at hI44 h
  refine X.nameML (fun L45 hL45 => ?_)
  have h := lt_at hL45 h
  refine X.nameMR (fun R46 hR46 => ?_)
  have h := lt_at hR46 h
  refine X.nameN (fun n47 hn47 => ?_)
  have h := lt_at hn47 h
  refine X.dupr (pc := 55) (by decide +kernel) ?_
  obtain ⟨hc48, h⟩ := asrt_some h
  obtain ⟨I49, hv50, h⟩ := bnd1_some h
  refine X.callIv (pc := 56) (nc := 0) (ns := 0) (c_Fee_new hE (dle hd (Nat.le_of_ble_eq_true rfl)) hc48 hv50) cv_Guide_33 (by decide +kernel) (ddd hd (Nat.le_of_ble_eq_true rfl)) rfl (Nat.le_of_ble_eq_true rfl) rfl rfl ?_
  obtain ⟨hc51, h⟩ := asrt_some h
  refine X.putR (pc := 59) (k := 7) fw_Guide_34 (by decide +kernel) (Or.inl ⟨_, rfl⟩) hc51 (Or.inl rfl) ?_
  refine X.nameMR (fun R52 hR52 => ?_)
  have h := lt_at hR52 h
  refine X.aload_0 (pc := 62) (by decide +kernel) ?_
  refine X.iconst (pc := 63) (i := 3) (v := 3) ic_3 (by decide +kernel) ?_
  refine X.putI (pc := 64) (k := 11) fw_Guide_38 (by decide +kernel) rfl rfl hc51 ?_
  refine X.nameMI (fun I53 hI53 => ?_)
  have h := lt_at hI53 h
  refine X.aload_0 (pc := 67) (by decide +kernel) ?_
  refine X.aload_1 (pc := 68) (by decide +kernel) ?_
  refine X.putR (pc := 69) (k := 0) fw_Guide_42 (by decide +kernel) (Or.inl ⟨_, rfl⟩) hc51 (Or.inr ⟨rfl, rfl, rfl, wfl_Guide_42⟩) ?_
  refine X.nameMR (fun R54 hR54 => ?_)
  have h := lt_at hR54 h
  refine X.aload_0 (pc := 72) (by decide +kernel) ?_
  refine X.aload_2 (pc := 73) (by decide +kernel) ?_
  refine X.putR (pc := 74) (k := 1) fw_Guide_46 (by decide +kernel) (Or.inr ⟨_, rfl⟩) hc51 (Or.inr ⟨rfl, rfl, rfl, wfl_Guide_46⟩) ?_
  refine X.nameMR (fun R55 hR55 => ?_)
  have h := lt_at hR55 h
  have j0 := Option.some.inj h
  obtain ⟨i0, j1⟩ := Prod.mk.inj j0
  obtain ⟨i1, j2⟩ := Prod.mk.inj j1
  obtain ⟨i2, j3⟩ := Prod.mk.inj j2
  obtain ⟨i3, j4⟩ := Prod.mk.inj j3
  subst i0
  subst i1
  subst i2
  subst i3
  subst j4
  exact X.vreturn (pc := 77) (by decide +kernel) rfl ⟨rfl, rfl, rfl, rfl, rfl, rfl⟩
set_option maxRecDepth 100000 in
noncomputable def f_Trail_new (S : MS) (R : MR) (t : Nat) (p1 : Nat) (p2 : Nat) : Option MR :=
  lt (wR R t 0 (some p1)) fun (R1 : MR) =>
  lt (wR R1 t 1 (some p2)) fun (R2 : MR) =>
  some R2
set_option maxRecDepth 100000 in
set_option maxHeartbeats 4000000 in
theorem c_Trail_new {E : Env} (hE : OKE E) {tg : Bool} {d : Nat} (hd : 1 ≤ d) {S : MS} {I : MI} {L : ML} {R : MR} {n : Nat} {t : Nat} {p1 : Nat} {p2 : Nat} {R' : MR} (hS : (S t).1 = 10) (h : f_Trail_new S R t p1 p2 = some R') : C E y_Trail_new b_Trail_new 3 none tg d 0 0 [.ref (e_b E + t), .ref (e_b E + p1), .ref (e_b E + p2)] S I L R n (Kq none S I L R' n) := by
  refine C.of (o := [some (.ref (e_b E + t)), some (.ref (e_b E + p1)), some (.ref (e_b E + p2))]) (by decide) rfl (Nat.le_of_ble_eq_true rfl) ?_
  rw [f_Trail_new] at h
  refine X.aload_0 (pc := 0) (by decide +kernel) ?_
  refine X.objInit (pc := 1) (by decide +kernel) oi_Trail_3 oi_i oi_c (Nat.le_trans (Nat.le_of_ble_eq_true rfl) hd) (Nat.le_of_ble_eq_true rfl) ?_
  refine X.aload_0 (pc := 4) (by decide +kernel) ?_
  refine X.aload_1 (pc := 5) (by decide +kernel) ?_
  refine X.putR (pc := 6) (k := 0) fw_Trail_9 (by decide +kernel) (Or.inl ⟨_, rfl⟩) hS (Or.inr ⟨rfl, rfl, rfl, wfl_Trail_9⟩) ?_
  refine X.nameMR (fun R1 hR1 => ?_)
  have h := lt_at hR1 h
  refine X.aload_0 (pc := 9) (by decide +kernel) ?_
  refine X.aload_2 (pc := 10) (by decide +kernel) ?_
  refine X.putR (pc := 11) (k := 1) fw_Trail_15 (by decide +kernel) (Or.inl ⟨_, rfl⟩) hS (Or.inr ⟨rfl, rfl, rfl, wfl_Trail_15⟩) ?_
  refine X.nameMR (fun R2 hR2 => ?_)
  have h := lt_at hR2 h
  have j0 := Option.some.inj h
  subst j0
  exact X.vreturn (pc := 14) (by decide +kernel) rfl ⟨rfl, rfl, rfl, rfl, rfl, rfl⟩
set_option maxRecDepth 100000 in
noncomputable def f_Prints_new (S : MS) (R : MR) (I : MI) (L : ML) (n : Nat) (t : Nat) (p1 : Nat) (p2 : Nat) : Option (MI × ML × MR × MS × Nat) :=
  lt (wS S n (20, 12)) fun (S1 : MS) =>
  lt (zI I n) fun (I2 : MI) =>
  lt (zL L n) fun (L3 : ML) =>
  lt (zR R n) fun (R4 : MR) =>
  lt (n + 1) fun (n5 : Nat) =>
  asrt ((S1 t).1 = 7) <|
  lt (wR R4 t 2 (some n)) fun (R7 : MR) =>
  lt (wS S1 n5 (21, 48)) fun (S8 : MS) =>
  lt (zI I2 n5) fun (I9 : MI) =>
  lt (zL L3 n5) fun (L10 : ML) =>
  lt (zR R7 n5) fun (R11 : MR) =>
  lt (n5 + 1) fun (n12 : Nat) =>
  asrt ((S8 t).1 = 7) <|
  lt (wR R11 t 3 (some n5)) fun (R14 : MR) =>
  lt (wS S8 n12 (20, 48)) fun (S15 : MS) =>
  lt (zI I9 n12) fun (I16 : MI) =>
  lt (zL L10 n12) fun (L17 : ML) =>
  lt (zR R14 n12) fun (R18 : MR) =>
  lt (n12 + 1) fun (n19 : Nat) =>
  asrt ((S15 t).1 = 7) <|
  lt (wR R18 t 4 (some n12)) fun (R21 : MR) =>
  lt (wR R21 t 0 (some p1)) fun (R22 : MR) =>
  lt (wR R22 t 1 (some p2)) fun (R23 : MR) =>
  some (I16, L17, R23, S15, n19)
set_option maxRecDepth 100000 in
set_option maxHeartbeats 4000000 in
theorem c_Prints_new {E : Env} (hE : OKE E) {d : Nat} (hd : 1 ≤ d) {S : MS} {I : MI} {L : ML} {R : MR} {n : Nat} {t : Nat} {p1 : Nat} {p2 : Nat} {I' : MI} {L' : ML} {R' : MR} {S' : MS} {n' : Nat} (hS : (S t).1 = 7) (h : f_Prints_new S R I L n t p1 p2 = some (I', L', R', S', n')) : C E y_Prints_new b_Prints_new 3 none true d 3 108 [.ref (e_b E + t), .ref (e_b E + p1), .ref (e_b E + p2)] S I L R n (Kq none S' I' L' R' n') := by
  refine C.of (o := [some (.ref (e_b E + t)), some (.ref (e_b E + p1)), some (.ref (e_b E + p2))]) (by decide) rfl (Nat.le_of_ble_eq_true rfl) ?_
  rw [f_Prints_new] at h
  refine X.aload_0 (pc := 0) (by decide +kernel) ?_
  refine X.objInit (pc := 1) (by decide +kernel) oi_Prints_3 oi_i oi_c (Nat.le_trans (Nat.le_of_ble_eq_true rfl) hd) (Nat.le_of_ble_eq_true rfl) ?_
  refine X.aload_0 (pc := 4) (by decide +kernel) ?_
  refine X.bipush (pc := 5) (i := 12) (v := 12) bp_12 (by decide +kernel) ?_
  refine X.newarray (pc := 7) (t := 20) (N := 12) (nc := 2) (ns := 96) (by decide +kernel) na_20 rfl (by decide) (Or.inl ⟨rfl, rfl⟩) rfl rfl rfl ?_
  refine X.nameMS (fun S1 hS1 => ?_)
  have h := lt_at hS1 h
  refine X.nameMI (fun I2 hI2 => ?_)
  have h := lt_at hI2 h
  refine X.nameML (fun L3 hL3 => ?_)
  have h := lt_at hL3 h
  refine X.nameMR (fun R4 hR4 => ?_)
  have h := lt_at hR4 h
  refine X.nameN (fun n5 hn5 => ?_)
  have h := lt_at hn5 h
  obtain ⟨hc6, h⟩ := asrt_some h
  refine X.putR (pc := 9) (k := 2) fw_Prints_9 (by decide +kernel) (Or.inr ⟨_, rfl⟩) hc6 (Or.inr ⟨rfl, rfl, rfl, wfl_Prints_9⟩) ?_
  refine X.nameMR (fun R7 hR7 => ?_)
  have h := lt_at hR7 h
  refine X.aload_0 (pc := 12) (by decide +kernel) ?_
  refine X.bipush (pc := 13) (i := 48) (v := 48) bp_48 (by decide +kernel) ?_
  refine X.newarray (pc := 15) (t := 21) (N := 48) (nc := 1) (ns := 48) (by decide +kernel) na_21 rfl (by decide) (Or.inr (Or.inl ⟨rfl, rfl⟩)) rfl rfl rfl ?_
  refine X.nameMS (fun S8 hS8 => ?_)
  have h := lt_at hS8 h
  refine X.nameMI (fun I9 hI9 => ?_)
  have h := lt_at hI9 h
  refine X.nameML (fun L10 hL10 => ?_)
  have h := lt_at hL10 h
  refine X.nameMR (fun R11 hR11 => ?_)
  have h := lt_at hR11 h
  refine X.nameN (fun n12 hn12 => ?_)
  have h := lt_at hn12 h
  obtain ⟨hc13, h⟩ := asrt_some h
  refine X.putR (pc := 17) (k := 3) fw_Prints_15 (by decide +kernel) (Or.inr ⟨_, rfl⟩) hc13 (Or.inr ⟨rfl, rfl, rfl, wfl_Prints_15⟩) ?_
  refine X.nameMR (fun R14 hR14 => ?_)
  have h := lt_at hR14 h
  refine X.aload_0 (pc := 20) (by decide +kernel) ?_
  refine X.bipush (pc := 21) (i := 48) (v := 48) bp_48 (by decide +kernel) ?_
  refine X.newarray (pc := 23) (t := 20) (N := 48) (nc := 0) (ns := 0) (by decide +kernel) na_20 rfl (by decide) (Or.inl ⟨rfl, rfl⟩) rfl rfl rfl ?_
  refine X.nameMS (fun S15 hS15 => ?_)
  have h := lt_at hS15 h
  refine X.nameMI (fun I16 hI16 => ?_)
  have h := lt_at hI16 h
  refine X.nameML (fun L17 hL17 => ?_)
  have h := lt_at hL17 h
  refine X.nameMR (fun R18 hR18 => ?_)
  have h := lt_at hR18 h
  refine X.nameN (fun n19 hn19 => ?_)
  have h := lt_at hn19 h
  obtain ⟨hc20, h⟩ := asrt_some h
  refine X.putR (pc := 25) (k := 4) fw_Prints_19 (by decide +kernel) (Or.inr ⟨_, rfl⟩) hc20 (Or.inr ⟨rfl, rfl, rfl, wfl_Prints_19⟩) ?_
  refine X.nameMR (fun R21 hR21 => ?_)
  have h := lt_at hR21 h
  refine X.aload_0 (pc := 28) (by decide +kernel) ?_
  refine X.aload_1 (pc := 29) (by decide +kernel) ?_
  refine X.putR (pc := 30) (k := 0) fw_Prints_22 (by decide +kernel) (Or.inl ⟨_, rfl⟩) hc20 (Or.inr ⟨rfl, rfl, rfl, wfl_Prints_22⟩) ?_
  refine X.nameMR (fun R22 hR22 => ?_)
  have h := lt_at hR22 h
  refine X.aload_0 (pc := 33) (by decide +kernel) ?_
  refine X.aload_2 (pc := 34) (by decide +kernel) ?_
  refine X.putR (pc := 35) (k := 1) fw_Prints_26 (by decide +kernel) (Or.inr ⟨_, rfl⟩) hc20 (Or.inr ⟨rfl, rfl, rfl, wfl_Prints_26⟩) ?_
  refine X.nameMR (fun R23 hR23 => ?_)
  have h := lt_at hR23 h
  have j0 := Option.some.inj h
  obtain ⟨i0, j1⟩ := Prod.mk.inj j0
  obtain ⟨i1, j2⟩ := Prod.mk.inj j1
  obtain ⟨i2, j3⟩ := Prod.mk.inj j2
  obtain ⟨i3, j4⟩ := Prod.mk.inj j3
  subst i0
  subst i1
  subst i2
  subst i3
  subst j4
  exact X.vreturn (pc := 38) (by decide +kernel) rfl ⟨rfl, rfl, rfl, rfl, rfl, rfl⟩
set_option maxRecDepth 100000 in
noncomputable def f_GWL_new (g : Nat) (S : MS) (R : MR) (I : MI) (L : ML) (n : Nat) (t : Nat) : Option (MI × ML × MR × MS × Nat) :=
  lt (wS S n (8, 0)) fun (S1 : MS) =>
  lt (zI I n) fun (I2 : MI) =>
  lt (zL L n) fun (L3 : ML) =>
  lt (zR R n) fun (R4 : MR) =>
  lt (n + 1) fun (n5 : Nat) =>
  asrt ((S1 n).1 = 8) <|
  bnd5 (f_Signs_new S1 R4 I2 L3 n5 n) fun I7 L8 R9 S10 n11 =>
  asrt ((S10 t).1 = 11) <|
  lt (wR R9 t 0 (some n)) fun (R14 : MR) =>
  lt (wS S10 n11 (4, 0)) fun (S15 : MS) =>
  lt (zI I7 n11) fun (I16 : MI) =>
  lt (zL L8 n11) fun (L17 : ML) =>
  lt (zR R14 n11) fun (R18 : MR) =>
  lt (n11 + 1) fun (n19 : Nat) =>
  asrt ((S15 n11).1 = 4) <|
  bnd5 (f_Numbers_new S15 R18 I16 L17 n19 n11) fun I21 L22 R23 S24 n25 =>
  asrt ((S24 t).1 = 11) <|
  lt (wR R23 t 1 (some n11)) fun (R28 : MR) =>
  lt (wS S24 n25 (6, 0)) fun (S29 : MS) =>
  lt (zI I21 n25) fun (I30 : MI) =>
  lt (zL L22 n25) fun (L31 : ML) =>
  lt (zR R28 n25) fun (R32 : MR) =>
  lt (n25 + 1) fun (n33 : Nat) =>
  asrt ((S29 n25).1 = 6) <|
  bnd5 (f_Past_new g S29 R32 I30 L31 n33 n25) fun I35 L36 R37 S38 n39 =>
  asrt ((S38 t).1 = 11) <|
  lt (wR R37 t 4 (some n25)) fun (R42 : MR) =>
  lt (wI I35 t 6 10) fun (I43 : MI) =>
  lt (wS S38 n39 (0, 0)) fun (S44 : MS) =>
  lt (zI I43 n39) fun (I45 : MI) =>
  lt (zL L36 n39) fun (L46 : ML) =>
  lt (zR R42 n39) fun (R47 : MR) =>
  lt (n39 + 1) fun (n48 : Nat) =>
  asrt ((S44 n39).1 = 0) <|
  bnd1 (f_Fee_new S44 I45 n39) fun I50 =>
  asrt ((S44 t).1 = 11) <|
  lt (wR R47 t 7 (some n39)) fun (R53 : MR) =>
  lt (wS S44 n48 (0, 0)) fun (S54 : MS) =>
  lt (zI I50 n48) fun (I55 : MI) =>
  lt (zL L46 n48) fun (L56 : ML) =>
  lt (zR R53 n48) fun (R57 : MR) =>
  lt (n48 + 1) fun (n58 : Nat) =>
  asrt ((S54 n48).1 = 0) <|
  bnd1 (f_Fee_new S54 I55 n48) fun I60 =>
  asrt ((S54 t).1 = 11) <|
  lt (wR R57 t 8 (some n48)) fun (R63 : MR) =>
  lt (wS S54 n58 (0, 0)) fun (S64 : MS) =>
  lt (zI I60 n58) fun (I65 : MI) =>
  lt (zL L56 n58) fun (L66 : ML) =>
  lt (zR R63 n58) fun (R67 : MR) =>
  lt (n58 + 1) fun (n68 : Nat) =>
  asrt ((S64 n58).1 = 0) <|
  bnd1 (f_Fee_new S64 I65 n58) fun I70 =>
  asrt ((S64 t).1 = 11) <|
  lt (wR R67 t 9 (some n58)) fun (R73 : MR) =>
  lt (wS S64 n68 (23, 3)) fun (S74 : MS) =>
  lt (zI I70 n68) fun (I75 : MI) =>
  lt (zL L66 n68) fun (L76 : ML) =>
  lt (zR R73 n68) fun (R77 : MR) =>
  lt (n68 + 1) fun (n78 : Nat) =>
  asrt ((S74 t).1 = 11) <|
  lt (wR R77 t 10 (some n68)) fun (R80 : MR) =>
  lt (wS S74 n78 (22, 3)) fun (S81 : MS) =>
  lt (zI I75 n78) fun (I82 : MI) =>
  lt (zL L76 n78) fun (L83 : ML) =>
  lt (zR R80 n78) fun (R84 : MR) =>
  lt (n78 + 1) fun (n85 : Nat) =>
  asrt ((S81 t).1 = 11) <|
  lt (wR R84 t 11 (some n78)) fun (R87 : MR) =>
  lt (wS S81 n85 (24, 3)) fun (S88 : MS) =>
  lt (zI I82 n85) fun (I89 : MI) =>
  lt (zL L83 n85) fun (L90 : ML) =>
  lt (zR R87 n85) fun (R91 : MR) =>
  lt (n85 + 1) fun (n92 : Nat) =>
  asrt ((S88 t).1 = 11) <|
  lt (wR R91 t 12 (some n85)) fun (R94 : MR) =>
  lt (wS S88 n92 (20, 3)) fun (S95 : MS) =>
  lt (zI I89 n92) fun (I96 : MI) =>
  lt (zL L90 n92) fun (L97 : ML) =>
  lt (zR R94 n92) fun (R98 : MR) =>
  lt (n92 + 1) fun (n99 : Nat) =>
  asrt ((S95 t).1 = 11) <|
  lt (wR R98 t 13 (some n92)) fun (R101 : MR) =>
  lt (wS S95 n99 (9, 0)) fun (S102 : MS) =>
  lt (zI I96 n99) fun (I103 : MI) =>
  lt (zL L97 n99) fun (L104 : ML) =>
  lt (zR R101 n99) fun (R105 : MR) =>
  lt (n99 + 1) fun (n106 : Nat) =>
  asrt ((S102 n99).1 = 9) <|
  bnd5 (f_Spread_new S102 R105 I103 L104 n106 n99) fun I108 L109 R110 S111 n112 =>
  asrt ((S111 t).1 = 11) <|
  lt (wR R110 t 15 (some n99)) fun (R115 : MR) =>
  lt (wS S111 n112 (3, 0)) fun (S116 : MS) =>
  lt (zI I108 n112) fun (I117 : MI) =>
  lt (zL L109 n112) fun (L118 : ML) =>
  lt (zR R115 n112) fun (R119 : MR) =>
  lt (n112 + 1) fun (n120 : Nat) =>
  asrt ((S116 n112).1 = 3) <|
  bnd5 (f_Market_new S116 R119 I117 L118 n120 n112) fun I122 L123 R124 S125 n126 =>
  asrt ((S125 t).1 = 11) <|
  lt (wR R124 t 18 (some n112)) fun (R129 : MR) =>
  lt (wS S125 n126 (2, 0)) fun (S130 : MS) =>
  lt (zI I122 n126) fun (I131 : MI) =>
  lt (zL L123 n126) fun (L132 : ML) =>
  lt (zR R129 n126) fun (R133 : MR) =>
  lt (n126 + 1) fun (n134 : Nat) =>
  asrt ((S130 n126).1 = 2) <|
  bnd5 (f_Land_new g S130 R133 I131 L132 n134 n126) fun I136 L137 R138 S139 n140 =>
  lt (wS S139 n140 (5, 0)) fun (S142 : MS) =>
  lt (zI I136 n140) fun (I143 : MI) =>
  lt (zL L137 n140) fun (L144 : ML) =>
  lt (zR R138 n140) fun (R145 : MR) =>
  lt (n140 + 1) fun (n146 : Nat) =>
  asrt ((S142 n140).1 = 5) <|
  bnd5 (f_Party_new g S142 R145 I143 L144 n146 n140) fun I148 L149 R150 S151 n152 =>
  lt (wS S151 n152 (20, 3)) fun (S154 : MS) =>
  lt (zI I148 n152) fun (I155 : MI) =>
  lt (zL L149 n152) fun (L156 : ML) =>
  lt (zR R150 n152) fun (R157 : MR) =>
  lt (n152 + 1) fun (n158 : Nat) =>
  asrt ((S154 n152).1 = 20) <|
  asrt (vp_in 0 (S154 n152).2) <|
  lt (wI I155 n152 (Int32.toNatClampNeg 0) 0) fun (I161 : MI) =>
  asrt (vp_in 1 (S154 n152).2) <|
  lt (wI I161 n152 (Int32.toNatClampNeg 1) 10) fun (I163 : MI) =>
  asrt (vp_in 2 (S154 n152).2) <|
  lt (wI I163 n152 (Int32.toNatClampNeg 2) 0) fun (I165 : MI) =>
  asrt ((S154 t).1 = 11) <|
  lt (wR R157 t 2 (some n126)) fun (R167 : MR) =>
  lt (wR R167 t 3 (some n140)) fun (R168 : MR) =>
  lt (wR R168 t 5 (some n152)) fun (R169 : MR) =>
  lt (wS S154 n158 (1, 0)) fun (S170 : MS) =>
  lt (zI I165 n158) fun (I171 : MI) =>
  lt (zL L156 n158) fun (L172 : ML) =>
  lt (zR R169 n158) fun (R173 : MR) =>
  lt (n158 + 1) fun (n174 : Nat) =>
  asrt ((S170 n158).1 = 1) <|
  bnd5 (f_Guide_new S170 R173 I171 L172 n174 n158 n126 n152) fun I176 L177 R178 S179 n180 =>
  asrt ((S179 t).1 = 11) <|
  lt (wR R178 t 14 (some n158)) fun (R183 : MR) =>
  lt (wS S179 n180 (10, 0)) fun (S184 : MS) =>
  lt (zI I176 n180) fun (I185 : MI) =>
  lt (zL L177 n180) fun (L186 : ML) =>
  lt (zR R183 n180) fun (R187 : MR) =>
  lt (n180 + 1) fun (n188 : Nat) =>
  asrt ((S184 n180).1 = 10) <|
  bnd1 (f_Trail_new S184 R187 n180 n126 n140) fun R190 =>
  asrt ((S184 t).1 = 11) <|
  lt (wR R190 t 16 (some n180)) fun (R193 : MR) =>
  lt (wS S184 n188 (7, 0)) fun (S194 : MS) =>
  lt (zI I185 n188) fun (I195 : MI) =>
  lt (zL L186 n188) fun (L196 : ML) =>
  lt (zR R193 n188) fun (R197 : MR) =>
  lt (n188 + 1) fun (n198 : Nat) =>
  asrt ((S194 n188).1 = 7) <|
  bnd5 (f_Prints_new S194 R197 I195 L196 n198 n188 n126 n152) fun I200 L201 R202 S203 n204 =>
  asrt ((S203 t).1 = 11) <|
  lt (wR R202 t 17 (some n188)) fun (R207 : MR) =>
  bnd1 (R207 t 10) fun b208 =>
  lt (wS S203 n204 (0, 0)) fun (S209 : MS) =>
  lt (zI I200 n204) fun (I210 : MI) =>
  lt (zL L201 n204) fun (L211 : ML) =>
  lt (zR R207 n204) fun (R212 : MR) =>
  lt (n204 + 1) fun (n213 : Nat) =>
  asrt ((S209 n204).1 = 0) <|
  bnd1 (f_Fee_new S209 I210 n204) fun I215 =>
  asrt ((S209 b208).1 = 23) <|
  asrt (vp_in 0 (S209 b208).2) <|
  lt (wR R212 b208 (Int32.toNatClampNeg 0) (some n204)) fun (R219 : MR) =>
  asrt ((S209 t).1 = 11) <|
  bnd1 (R219 t 12) fun b221 =>
  lt (wS S209 n213 (5, 0)) fun (S222 : MS) =>
  lt (zI I215 n213) fun (I223 : MI) =>
  lt (zL L211 n213) fun (L224 : ML) =>
  lt (zR R219 n213) fun (R225 : MR) =>
  lt (n213 + 1) fun (n226 : Nat) =>
  asrt ((S222 n213).1 = 5) <|
  bnd5 (f_Party_new g S222 R225 I223 L224 n226 n213) fun I228 L229 R230 S231 n232 =>
  asrt ((S231 b221).1 = 24) <|
  asrt (vp_in 0 (S231 b221).2) <|
  asrt ((S231 n213).1 = 5) <|
  lt (wR R230 b221 (Int32.toNatClampNeg 0) (some n213)) fun (R237 : MR) =>
  asrt ((S231 t).1 = 11) <|
  bnd1 (R237 t 13) fun b239 =>
  asrt ((S231 b239).1 = 20) <|
  asrt (vp_in 0 (S231 b239).2) <|
  lt (wI I228 b239 (Int32.toNatClampNeg 0) (-1)) fun (I242 : MI) =>
  bnd1 (R237 t 10) fun b243 =>
  lt (wS S231 n232 (0, 0)) fun (S244 : MS) =>
  lt (zI I242 n232) fun (I245 : MI) =>
  lt (zL L229 n232) fun (L246 : ML) =>
  lt (zR R237 n232) fun (R247 : MR) =>
  lt (n232 + 1) fun (n248 : Nat) =>
  asrt ((S244 n232).1 = 0) <|
  bnd1 (f_Fee_new S244 I245 n232) fun I250 =>
  asrt ((S244 b243).1 = 23) <|
  asrt (vp_in 1 (S244 b243).2) <|
  lt (wR R247 b243 (Int32.toNatClampNeg 1) (some n232)) fun (R254 : MR) =>
  asrt ((S244 t).1 = 11) <|
  bnd1 (R254 t 12) fun b256 =>
  lt (wS S244 n248 (5, 0)) fun (S257 : MS) =>
  lt (zI I250 n248) fun (I258 : MI) =>
  lt (zL L246 n248) fun (L259 : ML) =>
  lt (zR R254 n248) fun (R260 : MR) =>
  lt (n248 + 1) fun (n261 : Nat) =>
  asrt ((S257 n248).1 = 5) <|
  bnd5 (f_Party_new g S257 R260 I258 L259 n261 n248) fun I263 L264 R265 S266 n267 =>
  asrt ((S266 b256).1 = 24) <|
  asrt (vp_in 1 (S266 b256).2) <|
  asrt ((S266 n248).1 = 5) <|
  lt (wR R265 b256 (Int32.toNatClampNeg 1) (some n248)) fun (R272 : MR) =>
  asrt ((S266 t).1 = 11) <|
  bnd1 (R272 t 13) fun b274 =>
  asrt ((S266 b274).1 = 20) <|
  asrt (vp_in 1 (S266 b274).2) <|
  lt (wI I263 b274 (Int32.toNatClampNeg 1) (-1)) fun (I277 : MI) =>
  bnd1 (R272 t 10) fun b278 =>
  lt (wS S266 n267 (0, 0)) fun (S279 : MS) =>
  lt (zI I277 n267) fun (I280 : MI) =>
  lt (zL L264 n267) fun (L281 : ML) =>
  lt (zR R272 n267) fun (R282 : MR) =>
  lt (n267 + 1) fun (n283 : Nat) =>
  asrt ((S279 n267).1 = 0) <|
  bnd1 (f_Fee_new S279 I280 n267) fun I285 =>
  asrt ((S279 b278).1 = 23) <|
  asrt (vp_in 2 (S279 b278).2) <|
  lt (wR R282 b278 (Int32.toNatClampNeg 2) (some n267)) fun (R289 : MR) =>
  asrt ((S279 t).1 = 11) <|
  bnd1 (R289 t 12) fun b291 =>
  lt (wS S279 n283 (5, 0)) fun (S292 : MS) =>
  lt (zI I285 n283) fun (I293 : MI) =>
  lt (zL L281 n283) fun (L294 : ML) =>
  lt (zR R289 n283) fun (R295 : MR) =>
  lt (n283 + 1) fun (n296 : Nat) =>
  asrt ((S292 n283).1 = 5) <|
  bnd5 (f_Party_new g S292 R295 I293 L294 n296 n283) fun I298 L299 R300 S301 n302 =>
  asrt ((S301 b291).1 = 24) <|
  asrt (vp_in 2 (S301 b291).2) <|
  asrt ((S301 n283).1 = 5) <|
  lt (wR R300 b291 (Int32.toNatClampNeg 2) (some n283)) fun (R307 : MR) =>
  asrt ((S301 t).1 = 11) <|
  bnd1 (R307 t 13) fun b309 =>
  asrt ((S301 b309).1 = 20) <|
  asrt (vp_in 2 (S301 b309).2) <|
  lt (wI I298 b309 (Int32.toNatClampNeg 2) (-1)) fun (I312 : MI) =>
  some (I312, L299, R307, S301, n302)
set_option maxRecDepth 100000 in
set_option maxHeartbeats 4000000 in
theorem c_GWL_new {E : Env} (hE : OKE E) {d : Nat} (hd : 3 ≤ d) {g : Nat} {S : MS} {I : MI} {L : ML} {R : MR} {n : Nat} {t : Nat} {I' : MI} {L' : ML} {R' : MR} {S' : MS} {n' : Nat} (hS : (S t).1 = 11) (h : f_GWL_new g S R I L n t = some (I', L', R', S', n')) : C E y_GWL_new b_GWL_new 5 none true d 89 7502 [.ref (e_b E + t)] S I L R n (Kq none S' I' L' R' n') := by
  refine C.of (o := [some (.ref (e_b E + t)), none, none, none, none]) (by decide) rfl (Nat.le_of_ble_eq_true rfl) ?_
  rw [f_GWL_new] at h
  refine X.aload_0 (pc := 0) (by decide +kernel) ?_
  refine X.objInit (pc := 1) (by decide +kernel) oi_GWL_1 oi_i oi_c (Nat.le_trans (Nat.le_of_ble_eq_true rfl) hd) (Nat.le_of_ble_eq_true rfl) ?_
  refine X.aload_0 (pc := 4) (by decide +kernel) ?_
  refine X.new (pc := 5) (ci := 8) (nc := 88) (ns := 7500) nw_GWL_7 (by decide +kernel) rfl rfl rfl ?_
  refine X.nameMS (fun S1 hS1 => ?_)
  have h := lt_at hS1 h
  refine X.nameMI (fun I2 hI2 => ?_)
  have h := lt_at hI2 h
  refine X.nameML (fun L3 hL3 => ?_)
  have h := lt_at hL3 h
  refine X.nameMR (fun R4 hR4 => ?_)
  have h := lt_at hR4 h
  refine X.nameN (fun n5 hn5 => ?_)
  have h := lt_at hn5 h
  refine X.dupr (pc := 8) (by decide +kernel) ?_
  obtain ⟨hc6, h⟩ := asrt_some h
  obtain ⟨I7, L8, R9, S10, n11, hv12, h⟩ := bnd5_some h
  refine X.callIv (pc := 9) (nc := 87) (ns := 7420) (c_Signs_new hE (dle hd (Nat.le_of_ble_eq_true rfl)) hc6 hv12) cv_GWL_9 (by decide +kernel) (ddd hd (Nat.le_of_ble_eq_true rfl)) rfl (Nat.le_of_ble_eq_true rfl) rfl rfl ?_
  obtain ⟨hc13, h⟩ := asrt_some h
  refine X.putR (pc := 12) (k := 0) fw_GWL_10 (by decide +kernel) (Or.inl ⟨_, rfl⟩) hc13 (Or.inr ⟨rfl, rfl, rfl, wfl_GWL_10⟩) ?_
  refine X.nameMR (fun R14 hR14 => ?_)
  have h := lt_at hR14 h
  refine X.aload_0 (pc := 15) (by decide +kernel) ?_
  refine X.new (pc := 16) (ci := 4) (nc := 86) (ns := 7418) nw_GWL_16 (by decide +kernel) rfl rfl rfl ?_
  refine X.nameMS (fun S15 hS15 => ?_)
  have h := lt_at hS15 h
  refine X.nameMI (fun I16 hI16 => ?_)
  have h := lt_at hI16 h
  refine X.nameML (fun L17 hL17 => ?_)
  have h := lt_at hL17 h
  refine X.nameMR (fun R18 hR18 => ?_)
  have h := lt_at hR18 h
  refine X.nameN (fun n19 hn19 => ?_)
  have h := lt_at hn19 h
  refine X.dupr (pc := 19) (by decide +kernel) ?_
  obtain ⟨hc20, h⟩ := asrt_some h
  obtain ⟨I21, L22, R23, S24, n25, hv26, h⟩ := bnd5_some h
  refine X.callIv (pc := 20) (nc := 85) (ns := 7402) (c_Numbers_new hE (dle hd (Nat.le_of_ble_eq_true rfl)) hc20 hv26) cv_GWL_18 (by decide +kernel) (ddd hd (Nat.le_of_ble_eq_true rfl)) rfl (Nat.le_of_ble_eq_true rfl) rfl rfl ?_
  obtain ⟨hc27, h⟩ := asrt_some h
  refine X.putR (pc := 23) (k := 1) fw_GWL_19 (by decide +kernel) (Or.inl ⟨_, rfl⟩) hc27 (Or.inr ⟨rfl, rfl, rfl, wfl_GWL_19⟩) ?_
  refine X.nameMR (fun R28 hR28 => ?_)
  have h := lt_at hR28 h
  refine X.aload_0 (pc := 26) (by decide +kernel) ?_
  refine X.new (pc := 27) (ci := 6) (nc := 84) (ns := 7399) nw_GWL_23 (by decide +kernel) rfl rfl rfl ?_
  refine X.nameMS (fun S29 hS29 => ?_)
  have h := lt_at hS29 h
  refine X.nameMI (fun I30 hI30 => ?_)
  have h := lt_at hI30 h
  refine X.nameML (fun L31 hL31 => ?_)
  have h := lt_at hL31 h
  refine X.nameMR (fun R32 hR32 => ?_)
  have h := lt_at hR32 h
  refine X.nameN (fun n33 hn33 => ?_)
  have h := lt_at hn33 h
  refine X.dupr (pc := 30) (by decide +kernel) ?_
  obtain ⟨hc34, h⟩ := asrt_some h
  obtain ⟨I35, L36, R37, S38, n39, hv40, h⟩ := bnd5_some h
  refine X.callIv (pc := 31) (nc := 43) (ns := 6519) (c_Past_new hE (dle hd (Nat.le_of_ble_eq_true rfl)) hc34 hv40) cv_GWL_25 (by decide +kernel) (ddd hd (Nat.le_of_ble_eq_true rfl)) rfl (Nat.le_of_ble_eq_true rfl) rfl rfl ?_
  obtain ⟨hc41, h⟩ := asrt_some h
  refine X.putR (pc := 34) (k := 4) fw_GWL_26 (by decide +kernel) (Or.inl ⟨_, rfl⟩) hc41 (Or.inr ⟨rfl, rfl, rfl, wfl_GWL_26⟩) ?_
  refine X.nameMR (fun R42 hR42 => ?_)
  have h := lt_at hR42 h
  refine X.aload_0 (pc := 37) (by decide +kernel) ?_
  refine X.bipush (pc := 38) (i := 10) (v := 10) bp_10 (by decide +kernel) ?_
  refine X.putI (pc := 40) (k := 6) fw_GWL_30 (by decide +kernel) rfl rfl hc41 ?_
  refine X.nameMI (fun I43 hI43 => ?_)
  have h := lt_at hI43 h
  refine X.aload_0 (pc := 43) (by decide +kernel) ?_
  refine X.new (pc := 44) (ci := 0) (nc := 42) (ns := 6513) nw_GWL_34 (by decide +kernel) rfl rfl rfl ?_
  refine X.nameMS (fun S44 hS44 => ?_)
  have h := lt_at hS44 h
  refine X.nameMI (fun I45 hI45 => ?_)
  have h := lt_at hI45 h
  refine X.nameML (fun L46 hL46 => ?_)
  have h := lt_at hL46 h
  refine X.nameMR (fun R47 hR47 => ?_)
  have h := lt_at hR47 h
  refine X.nameN (fun n48 hn48 => ?_)
  have h := lt_at hn48 h
  refine X.dupr (pc := 47) (by decide +kernel) ?_
  obtain ⟨hc49, h⟩ := asrt_some h
  obtain ⟨I50, hv51, h⟩ := bnd1_some h
  refine X.callIv (pc := 48) (nc := 42) (ns := 6513) (c_Fee_new hE (dle hd (Nat.le_of_ble_eq_true rfl)) hc49 hv51) cv_GWL_36 (by decide +kernel) (ddd hd (Nat.le_of_ble_eq_true rfl)) rfl (Nat.le_of_ble_eq_true rfl) rfl rfl ?_
  obtain ⟨hc52, h⟩ := asrt_some h
  refine X.putR (pc := 51) (k := 7) fw_GWL_37 (by decide +kernel) (Or.inl ⟨_, rfl⟩) hc52 (Or.inr ⟨rfl, rfl, rfl, wfl_GWL_37⟩) ?_
  refine X.nameMR (fun R53 hR53 => ?_)
  have h := lt_at hR53 h
  refine X.aload_0 (pc := 54) (by decide +kernel) ?_
  refine X.new (pc := 55) (ci := 0) (nc := 41) (ns := 6507) nw_GWL_34 (by decide +kernel) rfl rfl rfl ?_
  refine X.nameMS (fun S54 hS54 => ?_)
  have h := lt_at hS54 h
  refine X.nameMI (fun I55 hI55 => ?_)
  have h := lt_at hI55 h
  refine X.nameML (fun L56 hL56 => ?_)
  have h := lt_at hL56 h
  refine X.nameMR (fun R57 hR57 => ?_)
  have h := lt_at hR57 h
  refine X.nameN (fun n58 hn58 => ?_)
  have h := lt_at hn58 h
  refine X.dupr (pc := 58) (by decide +kernel) ?_
  obtain ⟨hc59, h⟩ := asrt_some h
  obtain ⟨I60, hv61, h⟩ := bnd1_some h
  refine X.callIv (pc := 59) (nc := 41) (ns := 6507) (c_Fee_new hE (dle hd (Nat.le_of_ble_eq_true rfl)) hc59 hv61) cv_GWL_36 (by decide +kernel) (ddd hd (Nat.le_of_ble_eq_true rfl)) rfl (Nat.le_of_ble_eq_true rfl) rfl rfl ?_
  obtain ⟨hc62, h⟩ := asrt_some h
  refine X.putR (pc := 62) (k := 8) fw_GWL_41 (by decide +kernel) (Or.inl ⟨_, rfl⟩) hc62 (Or.inr ⟨rfl, rfl, rfl, wfl_GWL_41⟩) ?_
  refine X.nameMR (fun R63 hR63 => ?_)
  have h := lt_at hR63 h
  refine X.aload_0 (pc := 65) (by decide +kernel) ?_
  refine X.new (pc := 66) (ci := 0) (nc := 40) (ns := 6501) nw_GWL_34 (by decide +kernel) rfl rfl rfl ?_
  refine X.nameMS (fun S64 hS64 => ?_)
  have h := lt_at hS64 h
  refine X.nameMI (fun I65 hI65 => ?_)
  have h := lt_at hI65 h
  refine X.nameML (fun L66 hL66 => ?_)
  have h := lt_at hL66 h
  refine X.nameMR (fun R67 hR67 => ?_)
  have h := lt_at hR67 h
  refine X.nameN (fun n68 hn68 => ?_)
  have h := lt_at hn68 h
  refine X.dupr (pc := 69) (by decide +kernel) ?_
  obtain ⟨hc69, h⟩ := asrt_some h
  obtain ⟨I70, hv71, h⟩ := bnd1_some h
  refine X.callIv (pc := 70) (nc := 40) (ns := 6501) (c_Fee_new hE (dle hd (Nat.le_of_ble_eq_true rfl)) hc69 hv71) cv_GWL_36 (by decide +kernel) (ddd hd (Nat.le_of_ble_eq_true rfl)) rfl (Nat.le_of_ble_eq_true rfl) rfl rfl ?_
  obtain ⟨hc72, h⟩ := asrt_some h
  refine X.putR (pc := 73) (k := 9) fw_GWL_44 (by decide +kernel) (Or.inl ⟨_, rfl⟩) hc72 (Or.inr ⟨rfl, rfl, rfl, wfl_GWL_44⟩) ?_
  refine X.nameMR (fun R73 hR73 => ?_)
  have h := lt_at hR73 h
  refine X.aload_0 (pc := 76) (by decide +kernel) ?_
  refine X.iconst (pc := 77) (i := 3) (v := 3) ic_3 (by decide +kernel) ?_
  refine X.anewarray (pc := 78) (t := 23) (N := 3) (nc := 39) (ns := 6498) (by decide +kernel) an_GWL_34 rfl (by decide) (Or.inl ⟨rfl, rfl⟩) rfl rfl rfl ?_
  refine X.nameMS (fun S74 hS74 => ?_)
  have h := lt_at hS74 h
  refine X.nameMI (fun I75 hI75 => ?_)
  have h := lt_at hI75 h
  refine X.nameML (fun L76 hL76 => ?_)
  have h := lt_at hL76 h
  refine X.nameMR (fun R77 hR77 => ?_)
  have h := lt_at hR77 h
  refine X.nameN (fun n78 hn78 => ?_)
  have h := lt_at hn78 h
  obtain ⟨hc79, h⟩ := asrt_some h
  refine X.putR (pc := 81) (k := 10) fw_GWL_47 (by decide +kernel) (Or.inr ⟨_, rfl⟩) hc79 (Or.inr ⟨rfl, rfl, rfl, wfl_GWL_47⟩) ?_
  refine X.nameMR (fun R80 hR80 => ?_)
  have h := lt_at hR80 h
  refine X.aload_0 (pc := 84) (by decide +kernel) ?_
  refine X.iconst (pc := 85) (i := 3) (v := 3) ic_3 (by decide +kernel) ?_
  refine X.newarray (pc := 86) (t := 22) (N := 3) (nc := 38) (ns := 6495) (by decide +kernel) na_22 rfl (by decide) (Or.inr (Or.inr ⟨rfl, rfl⟩)) rfl rfl rfl ?_
  refine X.nameMS (fun S81 hS81 => ?_)
  have h := lt_at hS81 h
  refine X.nameMI (fun I82 hI82 => ?_)
  have h := lt_at hI82 h
  refine X.nameML (fun L83 hL83 => ?_)
  have h := lt_at hL83 h
  refine X.nameMR (fun R84 hR84 => ?_)
  have h := lt_at hR84 h
  refine X.nameN (fun n85 hn85 => ?_)
  have h := lt_at hn85 h
  obtain ⟨hc86, h⟩ := asrt_some h
  refine X.putR (pc := 88) (k := 11) fw_GWL_51 (by decide +kernel) (Or.inr ⟨_, rfl⟩) hc86 (Or.inr ⟨rfl, rfl, rfl, wfl_GWL_51⟩) ?_
  refine X.nameMR (fun R87 hR87 => ?_)
  have h := lt_at hR87 h
  refine X.aload_0 (pc := 91) (by decide +kernel) ?_
  refine X.iconst (pc := 92) (i := 3) (v := 3) ic_3 (by decide +kernel) ?_
  refine X.anewarray (pc := 93) (t := 24) (N := 3) (nc := 37) (ns := 6492) (by decide +kernel) an_GWL_55 rfl (by decide) (Or.inr ⟨rfl, rfl⟩) rfl rfl rfl ?_
  refine X.nameMS (fun S88 hS88 => ?_)
  have h := lt_at hS88 h
  refine X.nameMI (fun I89 hI89 => ?_)
  have h := lt_at hI89 h
  refine X.nameML (fun L90 hL90 => ?_)
  have h := lt_at hL90 h
  refine X.nameMR (fun R91 hR91 => ?_)
  have h := lt_at hR91 h
  refine X.nameN (fun n92 hn92 => ?_)
  have h := lt_at hn92 h
  obtain ⟨hc93, h⟩ := asrt_some h
  refine X.putR (pc := 96) (k := 12) fw_GWL_57 (by decide +kernel) (Or.inr ⟨_, rfl⟩) hc93 (Or.inr ⟨rfl, rfl, rfl, wfl_GWL_57⟩) ?_
  refine X.nameMR (fun R94 hR94 => ?_)
  have h := lt_at hR94 h
  refine X.aload_0 (pc := 99) (by decide +kernel) ?_
  refine X.iconst (pc := 100) (i := 3) (v := 3) ic_3 (by decide +kernel) ?_
  refine X.newarray (pc := 101) (t := 20) (N := 3) (nc := 36) (ns := 6489) (by decide +kernel) na_20 rfl (by decide) (Or.inl ⟨rfl, rfl⟩) rfl rfl rfl ?_
  refine X.nameMS (fun S95 hS95 => ?_)
  have h := lt_at hS95 h
  refine X.nameMI (fun I96 hI96 => ?_)
  have h := lt_at hI96 h
  refine X.nameML (fun L97 hL97 => ?_)
  have h := lt_at hL97 h
  refine X.nameMR (fun R98 hR98 => ?_)
  have h := lt_at hR98 h
  refine X.nameN (fun n99 hn99 => ?_)
  have h := lt_at hn99 h
  obtain ⟨hc100, h⟩ := asrt_some h
  refine X.putR (pc := 103) (k := 13) fw_GWL_61 (by decide +kernel) (Or.inr ⟨_, rfl⟩) hc100 (Or.inr ⟨rfl, rfl, rfl, wfl_GWL_61⟩) ?_
  refine X.nameMR (fun R101 hR101 => ?_)
  have h := lt_at hR101 h
  refine X.aload_0 (pc := 106) (by decide +kernel) ?_
  refine X.new (pc := 107) (ci := 9) (nc := 35) (ns := 6486) nw_GWL_65 (by decide +kernel) rfl rfl rfl ?_
  refine X.nameMS (fun S102 hS102 => ?_)
  have h := lt_at hS102 h
  refine X.nameMI (fun I103 hI103 => ?_)
  have h := lt_at hI103 h
  refine X.nameML (fun L104 hL104 => ?_)
  have h := lt_at hL104 h
  refine X.nameMR (fun R105 hR105 => ?_)
  have h := lt_at hR105 h
  refine X.nameN (fun n106 hn106 => ?_)
  have h := lt_at hn106 h
  refine X.dupr (pc := 110) (by decide +kernel) ?_
  obtain ⟨hc107, h⟩ := asrt_some h
  obtain ⟨I108, L109, R110, S111, n112, hv113, h⟩ := bnd5_some h
  refine X.callIv (pc := 111) (nc := 33) (ns := 6198) (c_Spread_new hE (dle hd (Nat.le_of_ble_eq_true rfl)) hc107 hv113) cv_GWL_67 (by decide +kernel) (ddd hd (Nat.le_of_ble_eq_true rfl)) rfl (Nat.le_of_ble_eq_true rfl) rfl rfl ?_
  obtain ⟨hc114, h⟩ := asrt_some h
  refine X.putR (pc := 114) (k := 15) fw_GWL_68 (by decide +kernel) (Or.inl ⟨_, rfl⟩) hc114 (Or.inr ⟨rfl, rfl, rfl, wfl_GWL_68⟩) ?_
  refine X.nameMR (fun R115 hR115 => ?_)
  have h := lt_at hR115 h
  refine X.aload_0 (pc := 117) (by decide +kernel) ?_
  refine X.new (pc := 118) (ci := 3) (nc := 32) (ns := 6194) nw_GWL_72 (by decide +kernel) rfl rfl rfl ?_
  refine X.nameMS (fun S116 hS116 => ?_)
  have h := lt_at hS116 h
  refine X.nameMI (fun I117 hI117 => ?_)
  have h := lt_at hI117 h
  refine X.nameML (fun L118 hL118 => ?_)
  have h := lt_at hL118 h
  refine X.nameMR (fun R119 hR119 => ?_)
  have h := lt_at hR119 h
  refine X.nameN (fun n120 hn120 => ?_)
  have h := lt_at hn120 h
  refine X.dupr (pc := 121) (by decide +kernel) ?_
  obtain ⟨hc121, h⟩ := asrt_some h
  obtain ⟨I122, L123, R124, S125, n126, hv127, h⟩ := bnd5_some h
  refine X.callIv (pc := 122) (nc := 30) (ns := 6137) (c_Market_new hE (dle hd (Nat.le_of_ble_eq_true rfl)) hc121 hv127) cv_GWL_74 (by decide +kernel) (ddd hd (Nat.le_of_ble_eq_true rfl)) rfl (Nat.le_of_ble_eq_true rfl) rfl rfl ?_
  obtain ⟨hc128, h⟩ := asrt_some h
  refine X.putR (pc := 125) (k := 18) fw_GWL_75 (by decide +kernel) (Or.inl ⟨_, rfl⟩) hc128 (Or.inr ⟨rfl, rfl, rfl, wfl_GWL_75⟩) ?_
  refine X.nameMR (fun R129 hR129 => ?_)
  have h := lt_at hR129 h
  refine X.new (pc := 128) (ci := 2) (nc := 29) (ns := 6131) nw_GWL_79 (by decide +kernel) rfl rfl rfl ?_
  refine X.nameMS (fun S130 hS130 => ?_)
  have h := lt_at hS130 h
  refine X.nameMI (fun I131 hI131 => ?_)
  have h := lt_at hI131 h
  refine X.nameML (fun L132 hL132 => ?_)
  have h := lt_at hL132 h
  refine X.nameMR (fun R133 hR133 => ?_)
  have h := lt_at hR133 h
  refine X.nameN (fun n134 hn134 => ?_)
  have h := lt_at hn134 h
  refine X.dupr (pc := 131) (by decide +kernel) ?_
  obtain ⟨hc135, h⟩ := asrt_some h
  obtain ⟨I136, L137, R138, S139, n140, hv141, h⟩ := bnd5_some h
  refine X.callIv (pc := 132) (nc := 26) (ns := 5807) (c_Land_new hE (dle hd (Nat.le_of_ble_eq_true rfl)) hc135 hv141) cv_GWL_81 (by decide +kernel) (ddd hd (Nat.le_of_ble_eq_true rfl)) rfl (Nat.le_of_ble_eq_true rfl) rfl rfl ?_
  refine X.astore_1 (pc := 135) (by decide +kernel) (by decide) rfl ?_
  refine X.new (pc := 136) (ci := 5) (nc := 25) (ns := 5800) nw_GWL_55 (by decide +kernel) rfl rfl rfl ?_
  refine X.nameMS (fun S142 hS142 => ?_)
  have h := lt_at hS142 h
  refine X.nameMI (fun I143 hI143 => ?_)
  have h := lt_at hI143 h
  refine X.nameML (fun L144 hL144 => ?_)
  have h := lt_at hL144 h
  refine X.nameMR (fun R145 hR145 => ?_)
  have h := lt_at hR145 h
  refine X.nameN (fun n146 hn146 => ?_)
  have h := lt_at hn146 h
  refine X.dupr (pc := 139) (by decide +kernel) ?_
  obtain ⟨hc147, h⟩ := asrt_some h
  obtain ⟨I148, L149, R150, S151, n152, hv153, h⟩ := bnd5_some h
  refine X.callIv (pc := 140) (nc := 24) (ns := 5764) (c_Party_new hE (dle hd (Nat.le_of_ble_eq_true rfl)) hc147 hv153) cv_GWL_82 (by decide +kernel) (ddd hd (Nat.le_of_ble_eq_true rfl)) rfl (Nat.le_of_ble_eq_true rfl) rfl rfl ?_
  refine X.astore_2 (pc := 143) (by decide +kernel) (by decide) rfl ?_
  refine X.iconst (pc := 144) (i := 3) (v := 3) ic_3 (by decide +kernel) ?_
  refine X.newarray (pc := 145) (t := 20) (N := 3) (nc := 23) (ns := 5761) (by decide +kernel) na_20 rfl (by decide) (Or.inl ⟨rfl, rfl⟩) rfl rfl rfl ?_
  refine X.nameMS (fun S154 hS154 => ?_)
  have h := lt_at hS154 h
  refine X.nameMI (fun I155 hI155 => ?_)
  have h := lt_at hI155 h
  refine X.nameML (fun L156 hL156 => ?_)
  have h := lt_at hL156 h
  refine X.nameMR (fun R157 hR157 => ?_)
  have h := lt_at hR157 h
  refine X.nameN (fun n158 hn158 => ?_)
  have h := lt_at hn158 h
  refine X.dupr (pc := 147) (by decide +kernel) ?_
  refine X.iconst (pc := 148) (i := 0) (v := 0) ic_0 (by decide +kernel) ?_
  refine X.iconst (pc := 149) (i := 0) (v := 0) ic_0 (by decide +kernel) ?_
  obtain ⟨hc159, h⟩ := asrt_some h
  obtain ⟨hi160, h⟩ := asrt_some h
  refine X.iastore (pc := 150) (by decide +kernel) hc159 hi160 ?_
  refine X.nameMI (fun I161 hI161 => ?_)
  have h := lt_at hI161 h
  refine X.dupr (pc := 151) (by decide +kernel) ?_
  refine X.iconst (pc := 152) (i := 1) (v := 1) ic_1 (by decide +kernel) ?_
  refine X.bipush (pc := 153) (i := 10) (v := 10) bp_10 (by decide +kernel) ?_
  obtain ⟨hi162, h⟩ := asrt_some h
  refine X.iastore (pc := 155) (by decide +kernel) hc159 hi162 ?_
  refine X.nameMI (fun I163 hI163 => ?_)
  have h := lt_at hI163 h
  refine X.dupr (pc := 156) (by decide +kernel) ?_
  refine X.iconst (pc := 157) (i := 2) (v := 2) ic_2 (by decide +kernel) ?_
  refine X.iconst (pc := 158) (i := 0) (v := 0) ic_0 (by decide +kernel) ?_
  obtain ⟨hi164, h⟩ := asrt_some h
  refine X.iastore (pc := 159) (by decide +kernel) hc159 hi164 ?_
  refine X.nameMI (fun I165 hI165 => ?_)
  have h := lt_at hI165 h
  refine X.astore_3 (pc := 160) (by decide +kernel) (by decide) rfl ?_
  refine X.aload_0 (pc := 161) (by decide +kernel) ?_
  refine X.aload_1 (pc := 162) (by decide +kernel) ?_
  obtain ⟨hc166, h⟩ := asrt_some h
  refine X.putR (pc := 163) (k := 2) fw_GWL_83 (by decide +kernel) (Or.inl ⟨_, rfl⟩) hc166 (Or.inr ⟨rfl, rfl, rfl, wfl_GWL_83⟩) ?_
  refine X.nameMR (fun R167 hR167 => ?_)
  have h := lt_at hR167 h
  refine X.aload_0 (pc := 166) (by decide +kernel) ?_
  refine X.aload_2 (pc := 167) (by decide +kernel) ?_
  refine X.putR (pc := 168) (k := 3) fw_GWL_87 (by decide +kernel) (Or.inl ⟨_, rfl⟩) hc166 (Or.inr ⟨rfl, rfl, rfl, wfl_GWL_87⟩) ?_
  refine X.nameMR (fun R168 hR168 => ?_)
  have h := lt_at hR168 h
  refine X.aload_0 (pc := 171) (by decide +kernel) ?_
  refine X.aload_3 (pc := 172) (by decide +kernel) ?_
  refine X.putR (pc := 173) (k := 5) fw_GWL_91 (by decide +kernel) (Or.inr ⟨_, rfl⟩) hc166 (Or.inr ⟨rfl, rfl, rfl, wfl_GWL_91⟩) ?_
  refine X.nameMR (fun R169 hR169 => ?_)
  have h := lt_at hR169 h
  refine X.aload_0 (pc := 176) (by decide +kernel) ?_
  refine X.new (pc := 177) (ci := 1) (nc := 22) (ns := 5749) nw_GWL_94 (by decide +kernel) rfl rfl rfl ?_
  refine X.nameMS (fun S170 hS170 => ?_)
  have h := lt_at hS170 h
  refine X.nameMI (fun I171 hI171 => ?_)
  have h := lt_at hI171 h
  refine X.nameML (fun L172 hL172 => ?_)
  have h := lt_at hL172 h
  refine X.nameMR (fun R173 hR173 => ?_)
  have h := lt_at hR173 h
  refine X.nameN (fun n174 hn174 => ?_)
  have h := lt_at hn174 h
  refine X.dupr (pc := 180) (by decide +kernel) ?_
  refine X.aload_1 (pc := 181) (by decide +kernel) ?_
  refine X.aload_3 (pc := 182) (by decide +kernel) ?_
  obtain ⟨hc175, h⟩ := asrt_some h
  obtain ⟨I176, L177, R178, S179, n180, hv181, h⟩ := bnd5_some h
  refine X.callIv (pc := 183) (nc := 14) (ns := 268) (c_Guide_new hE (dle hd (Nat.le_of_ble_eq_true rfl)) hc175 hv181) cv_GWL_96 (by decide +kernel) (ddd hd (Nat.le_of_ble_eq_true rfl)) rfl (Nat.le_of_ble_eq_true rfl) rfl rfl ?_
  obtain ⟨hc182, h⟩ := asrt_some h
  refine X.putR (pc := 186) (k := 14) fw_GWL_99 (by decide +kernel) (Or.inl ⟨_, rfl⟩) hc182 (Or.inr ⟨rfl, rfl, rfl, wfl_GWL_99⟩) ?_
  refine X.nameMR (fun R183 hR183 => ?_)
  have h := lt_at hR183 h
  refine X.aload_0 (pc := 189) (by decide +kernel) ?_
  refine X.new (pc := 190) (ci := 10) (nc := 13) (ns := 263) nw_GWL_103 (by decide +kernel) rfl rfl rfl ?_
  refine X.nameMS (fun S184 hS184 => ?_)
  have h := lt_at hS184 h
  refine X.nameMI (fun I185 hI185 => ?_)
  have h := lt_at hI185 h
  refine X.nameML (fun L186 hL186 => ?_)
  have h := lt_at hL186 h
  refine X.nameMR (fun R187 hR187 => ?_)
  have h := lt_at hR187 h
  refine X.nameN (fun n188 hn188 => ?_)
  have h := lt_at hn188 h
  refine X.dupr (pc := 193) (by decide +kernel) ?_
  refine X.aload_1 (pc := 194) (by decide +kernel) ?_
  refine X.aload_2 (pc := 195) (by decide +kernel) ?_
  obtain ⟨hc189, h⟩ := asrt_some h
  obtain ⟨R190, hv191, h⟩ := bnd1_some h
  refine X.callIv (pc := 196) (nc := 13) (ns := 263) (c_Trail_new hE (dle hd (Nat.le_of_ble_eq_true rfl)) hc189 hv191) cv_GWL_105 (by decide +kernel) (ddd hd (Nat.le_of_ble_eq_true rfl)) rfl (Nat.le_of_ble_eq_true rfl) rfl rfl ?_
  obtain ⟨hc192, h⟩ := asrt_some h
  refine X.putR (pc := 199) (k := 16) fw_GWL_108 (by decide +kernel) (Or.inl ⟨_, rfl⟩) hc192 (Or.inr ⟨rfl, rfl, rfl, wfl_GWL_108⟩) ?_
  refine X.nameMR (fun R193 hR193 => ?_)
  have h := lt_at hR193 h
  refine X.aload_0 (pc := 202) (by decide +kernel) ?_
  refine X.new (pc := 203) (ci := 7) (nc := 12) (ns := 255) nw_GWL_112 (by decide +kernel) rfl rfl rfl ?_
  refine X.nameMS (fun S194 hS194 => ?_)
  have h := lt_at hS194 h
  refine X.nameMI (fun I195 hI195 => ?_)
  have h := lt_at hI195 h
  refine X.nameML (fun L196 hL196 => ?_)
  have h := lt_at hL196 h
  refine X.nameMR (fun R197 hR197 => ?_)
  have h := lt_at hR197 h
  refine X.nameN (fun n198 hn198 => ?_)
  have h := lt_at hn198 h
  refine X.dupr (pc := 206) (by decide +kernel) ?_
  refine X.aload_1 (pc := 207) (by decide +kernel) ?_
  refine X.aload_3 (pc := 208) (by decide +kernel) ?_
  obtain ⟨hc199, h⟩ := asrt_some h
  obtain ⟨I200, L201, R202, S203, n204, hv205, h⟩ := bnd5_some h
  refine X.callIv (pc := 209) (nc := 9) (ns := 147) (c_Prints_new hE (dle hd (Nat.le_of_ble_eq_true rfl)) hc199 hv205) cv_GWL_114 (by decide +kernel) (ddd hd (Nat.le_of_ble_eq_true rfl)) rfl (Nat.le_of_ble_eq_true rfl) rfl rfl ?_
  obtain ⟨hc206, h⟩ := asrt_some h
  refine X.putR (pc := 212) (k := 17) fw_GWL_115 (by decide +kernel) (Or.inl ⟨_, rfl⟩) hc206 (Or.inr ⟨rfl, rfl, rfl, wfl_GWL_115⟩) ?_
  refine X.nameMR (fun R207 hR207 => ?_)
  have h := lt_at hR207 h
  refine X.iconst (pc := 215) (i := 0) (v := 0) ic_0 (by decide +kernel) ?_
  refine X.istore_4 (pc := 216) (by decide +kernel) (by decide) rfl ?_
  refine X.iload_4 (pc := 218) (by decide +kernel) ?_
  refine X.iconst (pc := 220) (i := 3) (v := 3) ic_3 (by decide +kernel) ?_
  refine X.icmp_ge_f (pc := 221) (off := 45) (tgt := 266) (by decide) rfl (by decide +kernel) ?_
  refine X.aload_0 (pc := 224) (by decide +kernel) ?_
  obtain ⟨b208, hb208, h⟩ := bnd1_some h
  refine X.getR (pc := 225) (k := 10) fw_GWL_47 (by decide +kernel) (fun _ => rfl) hc206 hb208 ?_
  refine X.iload_4 (pc := 228) (by decide +kernel) ?_
  refine X.new (pc := 230) (ci := 0) (nc := 8) (ns := 141) nw_GWL_34 (by decide +kernel) rfl rfl rfl ?_
  refine X.nameMS (fun S209 hS209 => ?_)
  have h := lt_at hS209 h
  refine X.nameMI (fun I210 hI210 => ?_)
  have h := lt_at hI210 h
  refine X.nameML (fun L211 hL211 => ?_)
  have h := lt_at hL211 h
  refine X.nameMR (fun R212 hR212 => ?_)
  have h := lt_at hR212 h
  refine X.nameN (fun n213 hn213 => ?_)
  have h := lt_at hn213 h
  refine X.dupr (pc := 233) (by decide +kernel) ?_
  obtain ⟨hc214, h⟩ := asrt_some h
  obtain ⟨I215, hv216, h⟩ := bnd1_some h
  refine X.callIv (pc := 234) (nc := 8) (ns := 141) (c_Fee_new hE (dle hd (Nat.le_of_ble_eq_true rfl)) hc214 hv216) cv_GWL_36 (by decide +kernel) (ddd hd (Nat.le_of_ble_eq_true rfl)) rfl (Nat.le_of_ble_eq_true rfl) rfl rfl ?_
  obtain ⟨hc217, h⟩ := asrt_some h
  obtain ⟨hi218, h⟩ := asrt_some h
  refine X.aastore (pc := 237) (by decide +kernel) (Or.inl ⟨hc217, rfl⟩) hc214 hi218 ?_
  refine X.nameMR (fun R219 hR219 => ?_)
  have h := lt_at hR219 h
  refine X.aload_0 (pc := 238) (by decide +kernel) ?_
  obtain ⟨hc220, h⟩ := asrt_some h
  obtain ⟨b221, hb221, h⟩ := bnd1_some h
  refine X.getR (pc := 239) (k := 12) fw_GWL_57 (by decide +kernel) (fun _ => rfl) hc220 hb221 ?_
  refine X.iload_4 (pc := 242) (by decide +kernel) ?_
  refine X.new (pc := 244) (ci := 5) (nc := 7) (ns := 134) nw_GWL_55 (by decide +kernel) rfl rfl rfl ?_
  refine X.nameMS (fun S222 hS222 => ?_)
  have h := lt_at hS222 h
  refine X.nameMI (fun I223 hI223 => ?_)
  have h := lt_at hI223 h
  refine X.nameML (fun L224 hL224 => ?_)
  have h := lt_at hL224 h
  refine X.nameMR (fun R225 hR225 => ?_)
  have h := lt_at hR225 h
  refine X.nameN (fun n226 hn226 => ?_)
  have h := lt_at hn226 h
  refine X.dupr (pc := 247) (by decide +kernel) ?_
  obtain ⟨hc227, h⟩ := asrt_some h
  obtain ⟨I228, L229, R230, S231, n232, hv233, h⟩ := bnd5_some h
  refine X.callIv (pc := 248) (nc := 6) (ns := 98) (c_Party_new hE (dle hd (Nat.le_of_ble_eq_true rfl)) hc227 hv233) cv_GWL_82 (by decide +kernel) (ddd hd (Nat.le_of_ble_eq_true rfl)) rfl (Nat.le_of_ble_eq_true rfl) rfl rfl ?_
  obtain ⟨hc234, h⟩ := asrt_some h
  obtain ⟨hi235, h⟩ := asrt_some h
  obtain ⟨hc236, h⟩ := asrt_some h
  refine X.aastore (pc := 251) (by decide +kernel) (Or.inr ⟨hc234, rfl⟩) hc236 hi235 ?_
  refine X.nameMR (fun R237 hR237 => ?_)
  have h := lt_at hR237 h
  refine X.aload_0 (pc := 252) (by decide +kernel) ?_
  obtain ⟨hc238, h⟩ := asrt_some h
  obtain ⟨b239, hb239, h⟩ := bnd1_some h
  refine X.getR (pc := 253) (k := 13) fw_GWL_61 (by decide +kernel) (fun _ => rfl) hc238 hb239 ?_
  refine X.iload_4 (pc := 256) (by decide +kernel) ?_
  refine X.iconst (pc := 258) (i := (-1)) (v := (-1)) ic_m1 (by decide +kernel) ?_
  obtain ⟨hc240, h⟩ := asrt_some h
  obtain ⟨hi241, h⟩ := asrt_some h
  refine X.iastore (pc := 259) (by decide +kernel) hc240 hi241 ?_
  refine X.nameMI (fun I242 hI242 => ?_)
  have h := lt_at hI242 h
  refine X.iinc_4 (pc := 260) (z := 1) (v := 1) ic_1 (by decide +kernel) (by decide) rfl ?_
  refine X.fgt (o' := [some (.ref (e_b E + t)), some (.ref (e_b E + n126)), some (.ref (e_b E + n140)), some (.ref (e_b E + n152)), some (.int 1)]) (by exact ⟨rfl, ⟨rfl, ⟨rfl, ⟨rfl, ⟨(by decide), trivial⟩⟩⟩⟩⟩) ?_
  refine X.goto (pc := 263) (off := (-45)) (tgt := 218) (by decide +kernel) rfl ?_
  refine X.iload_4 (pc := 218) (by decide +kernel) ?_
  refine X.iconst (pc := 220) (i := 3) (v := 3) ic_3 (by decide +kernel) ?_
  refine X.icmp_ge_f (pc := 221) (off := 45) (tgt := 266) (by decide) rfl (by decide +kernel) ?_
  refine X.aload_0 (pc := 224) (by decide +kernel) ?_
  obtain ⟨b243, hb243, h⟩ := bnd1_some h
  refine X.getR (pc := 225) (k := 10) fw_GWL_47 (by decide +kernel) (fun _ => rfl) hc238 hb243 ?_
  refine X.iload_4 (pc := 228) (by decide +kernel) ?_
  refine X.new (pc := 230) (ci := 0) (nc := 5) (ns := 92) nw_GWL_34 (by decide +kernel) rfl rfl rfl ?_
  refine X.nameMS (fun S244 hS244 => ?_)
  have h := lt_at hS244 h
  refine X.nameMI (fun I245 hI245 => ?_)
  have h := lt_at hI245 h
  refine X.nameML (fun L246 hL246 => ?_)
  have h := lt_at hL246 h
  refine X.nameMR (fun R247 hR247 => ?_)
  have h := lt_at hR247 h
  refine X.nameN (fun n248 hn248 => ?_)
  have h := lt_at hn248 h
  refine X.dupr (pc := 233) (by decide +kernel) ?_
  obtain ⟨hc249, h⟩ := asrt_some h
  obtain ⟨I250, hv251, h⟩ := bnd1_some h
  refine X.callIv (pc := 234) (nc := 5) (ns := 92) (c_Fee_new hE (dle hd (Nat.le_of_ble_eq_true rfl)) hc249 hv251) cv_GWL_36 (by decide +kernel) (ddd hd (Nat.le_of_ble_eq_true rfl)) rfl (Nat.le_of_ble_eq_true rfl) rfl rfl ?_
  obtain ⟨hc252, h⟩ := asrt_some h
  obtain ⟨hi253, h⟩ := asrt_some h
  refine X.aastore (pc := 237) (by decide +kernel) (Or.inl ⟨hc252, rfl⟩) hc249 hi253 ?_
  refine X.nameMR (fun R254 hR254 => ?_)
  have h := lt_at hR254 h
  refine X.aload_0 (pc := 238) (by decide +kernel) ?_
  obtain ⟨hc255, h⟩ := asrt_some h
  obtain ⟨b256, hb256, h⟩ := bnd1_some h
  refine X.getR (pc := 239) (k := 12) fw_GWL_57 (by decide +kernel) (fun _ => rfl) hc255 hb256 ?_
  refine X.iload_4 (pc := 242) (by decide +kernel) ?_
  refine X.new (pc := 244) (ci := 5) (nc := 4) (ns := 85) nw_GWL_55 (by decide +kernel) rfl rfl rfl ?_
  refine X.nameMS (fun S257 hS257 => ?_)
  have h := lt_at hS257 h
  refine X.nameMI (fun I258 hI258 => ?_)
  have h := lt_at hI258 h
  refine X.nameML (fun L259 hL259 => ?_)
  have h := lt_at hL259 h
  refine X.nameMR (fun R260 hR260 => ?_)
  have h := lt_at hR260 h
  refine X.nameN (fun n261 hn261 => ?_)
  have h := lt_at hn261 h
  refine X.dupr (pc := 247) (by decide +kernel) ?_
  obtain ⟨hc262, h⟩ := asrt_some h
  obtain ⟨I263, L264, R265, S266, n267, hv268, h⟩ := bnd5_some h
  refine X.callIv (pc := 248) (nc := 3) (ns := 49) (c_Party_new hE (dle hd (Nat.le_of_ble_eq_true rfl)) hc262 hv268) cv_GWL_82 (by decide +kernel) (ddd hd (Nat.le_of_ble_eq_true rfl)) rfl (Nat.le_of_ble_eq_true rfl) rfl rfl ?_
  obtain ⟨hc269, h⟩ := asrt_some h
  obtain ⟨hi270, h⟩ := asrt_some h
  obtain ⟨hc271, h⟩ := asrt_some h
  refine X.aastore (pc := 251) (by decide +kernel) (Or.inr ⟨hc269, rfl⟩) hc271 hi270 ?_
  refine X.nameMR (fun R272 hR272 => ?_)
  have h := lt_at hR272 h
  refine X.aload_0 (pc := 252) (by decide +kernel) ?_
  obtain ⟨hc273, h⟩ := asrt_some h
  obtain ⟨b274, hb274, h⟩ := bnd1_some h
  refine X.getR (pc := 253) (k := 13) fw_GWL_61 (by decide +kernel) (fun _ => rfl) hc273 hb274 ?_
  refine X.iload_4 (pc := 256) (by decide +kernel) ?_
  refine X.iconst (pc := 258) (i := (-1)) (v := (-1)) ic_m1 (by decide +kernel) ?_
  obtain ⟨hc275, h⟩ := asrt_some h
  obtain ⟨hi276, h⟩ := asrt_some h
  refine X.iastore (pc := 259) (by decide +kernel) hc275 hi276 ?_
  refine X.nameMI (fun I277 hI277 => ?_)
  have h := lt_at hI277 h
  refine X.iinc_4 (pc := 260) (z := 1) (v := 1) ic_1 (by decide +kernel) (by decide) rfl ?_
  refine X.fgt (o' := [some (.ref (e_b E + t)), some (.ref (e_b E + n126)), some (.ref (e_b E + n140)), some (.ref (e_b E + n152)), some (.int 2)]) (by exact ⟨rfl, ⟨rfl, ⟨rfl, ⟨rfl, ⟨(by decide), trivial⟩⟩⟩⟩⟩) ?_
  refine X.goto (pc := 263) (off := (-45)) (tgt := 218) (by decide +kernel) rfl ?_
  refine X.iload_4 (pc := 218) (by decide +kernel) ?_
  refine X.iconst (pc := 220) (i := 3) (v := 3) ic_3 (by decide +kernel) ?_
  refine X.icmp_ge_f (pc := 221) (off := 45) (tgt := 266) (by decide) rfl (by decide +kernel) ?_
  refine X.aload_0 (pc := 224) (by decide +kernel) ?_
  obtain ⟨b278, hb278, h⟩ := bnd1_some h
  refine X.getR (pc := 225) (k := 10) fw_GWL_47 (by decide +kernel) (fun _ => rfl) hc273 hb278 ?_
  refine X.iload_4 (pc := 228) (by decide +kernel) ?_
  refine X.new (pc := 230) (ci := 0) (nc := 2) (ns := 43) nw_GWL_34 (by decide +kernel) rfl rfl rfl ?_
  refine X.nameMS (fun S279 hS279 => ?_)
  have h := lt_at hS279 h
  refine X.nameMI (fun I280 hI280 => ?_)
  have h := lt_at hI280 h
  refine X.nameML (fun L281 hL281 => ?_)
  have h := lt_at hL281 h
  refine X.nameMR (fun R282 hR282 => ?_)
  have h := lt_at hR282 h
  refine X.nameN (fun n283 hn283 => ?_)
  have h := lt_at hn283 h
  refine X.dupr (pc := 233) (by decide +kernel) ?_
  obtain ⟨hc284, h⟩ := asrt_some h
  obtain ⟨I285, hv286, h⟩ := bnd1_some h
  refine X.callIv (pc := 234) (nc := 2) (ns := 43) (c_Fee_new hE (dle hd (Nat.le_of_ble_eq_true rfl)) hc284 hv286) cv_GWL_36 (by decide +kernel) (ddd hd (Nat.le_of_ble_eq_true rfl)) rfl (Nat.le_of_ble_eq_true rfl) rfl rfl ?_
  obtain ⟨hc287, h⟩ := asrt_some h
  obtain ⟨hi288, h⟩ := asrt_some h
  refine X.aastore (pc := 237) (by decide +kernel) (Or.inl ⟨hc287, rfl⟩) hc284 hi288 ?_
  refine X.nameMR (fun R289 hR289 => ?_)
  have h := lt_at hR289 h
  refine X.aload_0 (pc := 238) (by decide +kernel) ?_
  obtain ⟨hc290, h⟩ := asrt_some h
  obtain ⟨b291, hb291, h⟩ := bnd1_some h
  refine X.getR (pc := 239) (k := 12) fw_GWL_57 (by decide +kernel) (fun _ => rfl) hc290 hb291 ?_
  refine X.iload_4 (pc := 242) (by decide +kernel) ?_
  refine X.new (pc := 244) (ci := 5) (nc := 1) (ns := 36) nw_GWL_55 (by decide +kernel) rfl rfl rfl ?_
  refine X.nameMS (fun S292 hS292 => ?_)
  have h := lt_at hS292 h
  refine X.nameMI (fun I293 hI293 => ?_)
  have h := lt_at hI293 h
  refine X.nameML (fun L294 hL294 => ?_)
  have h := lt_at hL294 h
  refine X.nameMR (fun R295 hR295 => ?_)
  have h := lt_at hR295 h
  refine X.nameN (fun n296 hn296 => ?_)
  have h := lt_at hn296 h
  refine X.dupr (pc := 247) (by decide +kernel) ?_
  obtain ⟨hc297, h⟩ := asrt_some h
  obtain ⟨I298, L299, R300, S301, n302, hv303, h⟩ := bnd5_some h
  refine X.callIv (pc := 248) (nc := 0) (ns := 0) (c_Party_new hE (dle hd (Nat.le_of_ble_eq_true rfl)) hc297 hv303) cv_GWL_82 (by decide +kernel) (ddd hd (Nat.le_of_ble_eq_true rfl)) rfl (Nat.le_of_ble_eq_true rfl) rfl rfl ?_
  obtain ⟨hc304, h⟩ := asrt_some h
  obtain ⟨hi305, h⟩ := asrt_some h
  obtain ⟨hc306, h⟩ := asrt_some h
  refine X.aastore (pc := 251) (by decide +kernel) (Or.inr ⟨hc304, rfl⟩) hc306 hi305 ?_
  refine X.nameMR (fun R307 hR307 => ?_)
  have h := lt_at hR307 h
  refine X.aload_0 (pc := 252) (by decide +kernel) ?_
  obtain ⟨hc308, h⟩ := asrt_some h
  obtain ⟨b309, hb309, h⟩ := bnd1_some h
  refine X.getR (pc := 253) (k := 13) fw_GWL_61 (by decide +kernel) (fun _ => rfl) hc308 hb309 ?_
  refine X.iload_4 (pc := 256) (by decide +kernel) ?_
  refine X.iconst (pc := 258) (i := (-1)) (v := (-1)) ic_m1 (by decide +kernel) ?_
  obtain ⟨hc310, h⟩ := asrt_some h
  obtain ⟨hi311, h⟩ := asrt_some h
  refine X.iastore (pc := 259) (by decide +kernel) hc310 hi311 ?_
  refine X.nameMI (fun I312 hI312 => ?_)
  have h := lt_at hI312 h
  refine X.iinc_4 (pc := 260) (z := 1) (v := 1) ic_1 (by decide +kernel) (by decide) rfl ?_
  refine X.fgt (o' := [some (.ref (e_b E + t)), some (.ref (e_b E + n126)), some (.ref (e_b E + n140)), some (.ref (e_b E + n152)), some (.int 3)]) (by exact ⟨rfl, ⟨rfl, ⟨rfl, ⟨rfl, ⟨(by decide), trivial⟩⟩⟩⟩⟩) ?_
  refine X.goto (pc := 263) (off := (-45)) (tgt := 218) (by decide +kernel) rfl ?_
  refine X.iload_4 (pc := 218) (by decide +kernel) ?_
  refine X.iconst (pc := 220) (i := 3) (v := 3) ic_3 (by decide +kernel) ?_
  refine X.icmp_ge_t (pc := 221) (off := 45) (tgt := 266) (by decide) rfl (by decide +kernel) ?_
  have j0 := Option.some.inj h
  obtain ⟨i0, j1⟩ := Prod.mk.inj j0
  obtain ⟨i1, j2⟩ := Prod.mk.inj j1
  obtain ⟨i2, j3⟩ := Prod.mk.inj j2
  obtain ⟨i3, j4⟩ := Prod.mk.inj j3
  subst i0
  subst i1
  subst i2
  subst i3
  subst j4
  exact X.vreturn (pc := 266) (by decide +kernel) rfl ⟨rfl, rfl, rfl, rfl, rfl, rfl⟩
set_option maxRecDepth 100000 in
noncomputable def l_Signs_addFour_16 (S : MS) (R : MR) (v0 : Nat) (v1 : Int32) : Nat → MI → Int32 → Option MI
  | 0, _, _ => none
  | f + 1, I, v2 =>
    ifb (v2 < 0)
      (some I)
      (bnd1 (R v0 0) fun b3 =>
      lt ((ius v1 v2) &&& 255) fun (x4 : Int32) =>
      asrt ((S b3).1 = 20) <|
      asrt (vp_in (I v0 1) (S b3).2) <|
      lt (wI I b3 (Int32.toNatClampNeg (I v0 1)) x4) fun (I7 : MI) =>
      lt ((I7 v0 1) + 1) fun (x8 : Int32) =>
      lt (wI I7 v0 1 x8) fun (I9 : MI) =>
      l_Signs_addFour_16 S R v0 v1 f I9 (v2 + (-8)))
set_option maxRecDepth 100000 in
set_option maxHeartbeats 4000000 in
theorem xl_Signs_addFour_16 {E : Env} (hE : OKE E) {tg : Bool} {d : Nat} (hd : 0 ≤ d) {S : MS} {L : ML} {R : MR} {n : Nat} {v0 : Nat} {v1 : Int32} {K : KT} :
    ∀ {f : Nat} {I : MI} {v2 : Int32} {I' : MI}, (S v0).1 = 8 → l_Signs_addFour_16 S R v0 v1 f I v2 = some I' → X E y_Signs_addFour b_Signs_addFour 3 (some .boolean) tg d 0 0 52 [none, none, none] [] S I' L R n K → X E y_Signs_addFour b_Signs_addFour 3 (some .boolean) tg d 0 0 16 [some (.ref (e_b E + v0)), some (.int v1), some (.int v2)] [] S I L R n K := by
  intro f
  induction f with
  | zero =>
    intro I v2 I' hS h hk
    rw [l_Signs_addFour_16] at h
    cases h
  | succ f ih =>
    intro I v2 I' hS h hk
    rw [l_Signs_addFour_16] at h
    refine X.iload_2 (pc := 16) (by decide +kernel) ?_
    rcases ifb_some h with ⟨hq2, h⟩ | ⟨hq2, h⟩
    · refine X.if_lt_t (pc := 17) (off := 35) (tgt := 52) hq2 rfl (by decide +kernel) ?_
      have j0 := Option.some.inj h
      subst j0
      refine X.fgt (o' := [none, none, none]) trivial ?_
      exact hk
    · refine X.if_lt_f (pc := 17) (off := 35) (tgt := 52) hq2 rfl (by decide +kernel) ?_
      refine X.aload_0 (pc := 20) (by decide +kernel) ?_
      obtain ⟨b3, hb3, h⟩ := bnd1_some h
      refine X.getR (pc := 21) (k := 0) fw_Signs_9 (by decide +kernel) (fun _ => rfl) hS hb3 ?_
      refine X.aload_0 (pc := 24) (by decide +kernel) ?_
      refine X.getI (pc := 25) (k := 1) fw_Signs_15 (by decide +kernel) (fun _ => rfl) hS ?_
      refine X.iload_1 (pc := 28) (by decide +kernel) ?_
      refine X.iload_2 (pc := 29) (by decide +kernel) ?_
      refine X.iushr (pc := 30) (by decide +kernel) ?_
      refine X.sipush (pc := 31) (i := 255) (v := 255) sp_255 (by decide +kernel) ?_
      refine X.iand (pc := 34) (by decide +kernel) ?_
      refine X.nameI (fun x4 hx4 => ?_)
      have h := lt_at hx4 h
      obtain ⟨hc5, h⟩ := asrt_some h
      obtain ⟨hi6, h⟩ := asrt_some h
      refine X.iastore (pc := 35) (by decide +kernel) hc5 hi6 ?_
      refine X.nameMI (fun I7 hI7 => ?_)
      have h := lt_at hI7 h
      refine X.aload_0 (pc := 36) (by decide +kernel) ?_
      refine X.dupr (pc := 37) (by decide +kernel) ?_
      refine X.getI (pc := 38) (k := 1) fw_Signs_15 (by decide +kernel) (fun _ => rfl) hS ?_
      refine X.iconst (pc := 41) (i := 1) (v := 1) ic_1 (by decide +kernel) ?_
      refine X.iadd (pc := 42) (by decide +kernel) ?_
      refine X.nameI (fun x8 hx8 => ?_)
      have h := lt_at hx8 h
      refine X.putI (pc := 43) (k := 1) fw_Signs_15 (by decide +kernel) rfl rfl hS ?_
      refine X.nameMI (fun I9 hI9 => ?_)
      have h := lt_at hI9 h
      refine X.iinc_2 (pc := 46) (z := (-8)) (v := (-8)) ic_m8 (by decide +kernel) (by decide) rfl ?_
      refine X.goto (pc := 49) (off := (-33)) (tgt := 16) (by decide +kernel) rfl ?_
      exact ih hS h hk
set_option maxRecDepth 100000 in
noncomputable def f_Signs_addFour (g : Nat) (S : MS) (R : MR) (I : MI) (t : Nat) (p1 : Int32) : Option (Int32 × MI) :=
  ifb (((I t 1) + 4) ≤ 80)
    (bnd1 (l_Signs_addFour_16 S R t p1 g I 24) fun I10 =>
    some (1, I10))
    (some (0, I))
set_option maxRecDepth 100000 in
set_option maxHeartbeats 4000000 in
theorem c_Signs_addFour {E : Env} (hE : OKE E) {tg : Bool} {d : Nat} (hd : 0 ≤ d) {g : Nat} {S : MS} {I : MI} {L : ML} {R : MR} {n : Nat} {t : Nat} {p1 : Int32} {v : Int32} {I' : MI} (hS : (S t).1 = 8) (h : f_Signs_addFour g S R I t p1 = some (v, I')) : C E y_Signs_addFour b_Signs_addFour 3 (some .boolean) tg d 0 0 [.ref (e_b E + t), .int p1] S I L R n (Kq (some (.int v)) S I' L R n) := by
  refine C.of (o := [some (.ref (e_b E + t)), some (.int p1), none]) (by decide) rfl (Nat.le_of_ble_eq_true rfl) ?_
  rw [f_Signs_addFour] at h
  refine X.aload_0 (pc := 0) (by decide +kernel) ?_
  refine X.getI (pc := 1) (k := 1) fw_Signs_15 (by decide +kernel) (fun _ => rfl) hS ?_
  refine X.iconst (pc := 4) (i := 4) (v := 4) ic_4 (by decide +kernel) ?_
  refine X.iadd (pc := 5) (by decide +kernel) ?_
  refine X.bipush (pc := 6) (i := 80) (v := 80) bp_80 (by decide +kernel) ?_
  rcases ifb_some h with ⟨hq1, h⟩ | ⟨hq1, h⟩
  · refine X.icmp_le_t (pc := 8) (off := 5) (tgt := 13) hq1 rfl (by decide +kernel) ?_
    refine X.bipush (pc := 13) (i := 24) (v := 24) bp_24 (by decide +kernel) ?_
    refine X.istore_2 (pc := 15) (by decide +kernel) (by decide) rfl ?_
    obtain ⟨I10, hv11, h⟩ := bnd1_some h
    refine xl_Signs_addFour_16 hE hd hS hv11 ?_
    refine X.iconst (pc := 52) (i := 1) (v := 1) ic_1 (by decide +kernel) ?_
    have j0 := Option.some.inj h
    obtain ⟨i0, j1⟩ := Prod.mk.inj j0
    subst i0
    subst j1
    exact X.ireturn (pc := 53) (by decide +kernel) ⟨_, rfl, nz01 (Or.inr rfl)⟩ ⟨rfl, rfl, rfl, rfl, rfl, rfl⟩
  · refine X.icmp_le_f (pc := 8) (off := 5) (tgt := 13) hq1 rfl (by decide +kernel) ?_
    refine X.iconst (pc := 11) (i := 0) (v := 0) ic_0 (by decide +kernel) ?_
    have j0 := Option.some.inj h
    obtain ⟨i0, j1⟩ := Prod.mk.inj j0
    subst i0
    subst j1
    exact X.ireturn (pc := 12) (by decide +kernel) ⟨_, rfl, nz01 (Or.inl rfl)⟩ ⟨rfl, rfl, rfl, rfl, rfl, rfl⟩
set_option maxRecDepth 100000 in
noncomputable def f_Signs_length (S : MS) (I : MI) (t : Nat) : Option Int32 :=
  lt (I t 1) fun (x1 : Int32) =>
  some x1
set_option maxRecDepth 100000 in
set_option maxHeartbeats 4000000 in
theorem c_Signs_length {E : Env} (hE : OKE E) {tg : Bool} {d : Nat} (hd : 0 ≤ d) {S : MS} {I : MI} {L : ML} {R : MR} {n : Nat} {t : Nat} {v : Int32} (hS : (S t).1 = 8) (h : f_Signs_length S I t = some v) : C E y_Signs_length b_Signs_length 1 (some .int) tg d 0 0 [.ref (e_b E + t)] S I L R n (Kq (some (.int v)) S I L R n) := by
  refine C.of (o := [some (.ref (e_b E + t))]) (by decide) rfl (Nat.le_of_ble_eq_true rfl) ?_
  rw [f_Signs_length] at h
  refine X.aload_0 (pc := 0) (by decide +kernel) ?_
  refine X.getI (pc := 1) (k := 1) fw_Signs_15 (by decide +kernel) (fun _ => rfl) hS ?_
  refine X.nameI (fun x1 hx1 => ?_)
  have h := lt_at hx1 h
  have j0 := Option.some.inj h
  subst j0
  exact X.ireturn (pc := 4) (by decide +kernel) ⟨_, rfl, rfl⟩ ⟨rfl, rfl, rfl, rfl, rfl, rfl⟩
set_option maxRecDepth 100000 in
noncomputable def f_GWL_sign (g : Nat) (S : MS) (R : MR) (I : MI) (t : Nat) (p1 : Int32) : Option (Int32 × MI) :=
  bnd1 (R t 0) fun b1 =>
  asrt ((S b1).1 = 8) <|
  bnd2 (f_Signs_addFour g S R I b1 p1) fun x3 I4 =>
  bnd1 (ifb (x3 = 0)
      (some (-1))
      (bnd1 (f_Signs_length S I4 b1) fun x10 =>
      some x10)) fun (y7 : Int32) =>
  some (y7, I4)
set_option maxRecDepth 100000 in
set_option maxHeartbeats 4000000 in
theorem c_GWL_sign {E : Env} (hE : OKE E) {tg : Bool} {d : Nat} (hd : 1 ≤ d) {g : Nat} {S : MS} {I : MI} {L : ML} {R : MR} {n : Nat} {t : Nat} {p1 : Int32} {v : Int32} {I' : MI} (hS : (S t).1 = 11) (h : f_GWL_sign g S R I t p1 = some (v, I')) : C E y_GWL_sign b_GWL_sign 2 (some .int) tg d 0 0 [.ref (e_b E + t), .int p1] S I L R n (Kq (some (.int v)) S I' L R n) := by
  refine C.of (o := [some (.ref (e_b E + t)), some (.int p1)]) (by decide) rfl (Nat.le_of_ble_eq_true rfl) ?_
  rw [f_GWL_sign] at h
  refine X.aload_0 (pc := 0) (by decide +kernel) ?_
  obtain ⟨b1, hb1, h⟩ := bnd1_some h
  refine X.getR (pc := 1) (k := 0) fw_GWL_10 (by decide +kernel) (fun _ => rfl) hS hb1 ?_
  refine X.iload_1 (pc := 4) (by decide +kernel) ?_
  obtain ⟨hc2, h⟩ := asrt_some h
  obtain ⟨x3, I4, hv5, h⟩ := bnd2_some h
  refine X.callVi (pc := 5) (nc := 0) (ns := 0) (c_Signs_addFour hE (dle hd (Nat.le_of_ble_eq_true rfl)) hc2 hv5) cv_GWL_119 (by decide +kernel) hc2 ⟨by decide, rfl⟩ (ddd hd (Nat.le_of_ble_eq_true rfl)) rfl (Nat.le_of_ble_eq_true rfl) rfl rfl ?_
  obtain ⟨y7, hr8, h⟩ := bnd1_some h
  have hj9 : X E y_GWL_sign b_GWL_sign 2 (some .int) tg d 0 0 22 [none, none] [.int y7] S I4 L R n (Kq (some (.int v)) S I' L R n) := by
    have j0 := Option.some.inj h
    obtain ⟨i0, j1⟩ := Prod.mk.inj j0
    subst i0
    subst j1
    exact X.ireturn (pc := 22) (by decide +kernel) ⟨_, rfl, rfl⟩ ⟨rfl, rfl, rfl, rfl, rfl, rfl⟩
  have h := hr8
  rcases ifb_some h with ⟨hq6, h⟩ | ⟨hq6, h⟩
  · refine X.if_eq_t (pc := 8) (off := 13) (tgt := 21) hq6 rfl (by decide +kernel) ?_
    refine X.iconst (pc := 21) (i := (-1)) (v := (-1)) ic_m1 (by decide +kernel) ?_
    have j0 := Option.some.inj h
    subst j0
    refine X.fgt (o' := [none, none]) trivial ?_
    exact hj9
  · refine X.if_eq_f (pc := 8) (off := 13) (tgt := 21) hq6 rfl (by decide +kernel) ?_
    refine X.aload_0 (pc := 11) (by decide +kernel) ?_
    refine X.getR (pc := 12) (k := 0) fw_GWL_10 (by decide +kernel) (fun _ => rfl) hS hb1 ?_
    obtain ⟨x10, hv11, h⟩ := bnd1_some h
    refine X.callVi (pc := 15) (nc := 0) (ns := 0) (c_Signs_length hE (dle hd (Nat.le_of_ble_eq_true rfl)) hc2 hv11) cv_GWL_123 (by decide +kernel) hc2 ⟨by decide, rfl⟩ (ddd hd (Nat.le_of_ble_eq_true rfl)) rfl (Nat.le_of_ble_eq_true rfl) rfl rfl ?_
    refine X.goto (pc := 18) (off := 4) (tgt := 22) (by decide +kernel) rfl ?_
    have j0 := Option.some.inj h
    subst j0
    refine X.fgt (o' := [none, none]) trivial ?_
    exact hj9
set_option maxRecDepth 100000 in
noncomputable def f_Signs_cut (S : MS) (I : MI) (t : Nat) (p1 : Int32) : Option (Int32 × MI) :=
  ifb (p1 < 0)
    (some (0, I))
    (ifb (p1 ≤ (I t 1))
      (lt (wI I t 1 p1) fun (I3 : MI) =>
      some (1, I3))
      (some (0, I)))
set_option maxRecDepth 100000 in
set_option maxHeartbeats 4000000 in
theorem c_Signs_cut {E : Env} (hE : OKE E) {tg : Bool} {d : Nat} (hd : 0 ≤ d) {S : MS} {I : MI} {L : ML} {R : MR} {n : Nat} {t : Nat} {p1 : Int32} {v : Int32} {I' : MI} (hS : (S t).1 = 8) (h : f_Signs_cut S I t p1 = some (v, I')) : C E y_Signs_cut b_Signs_cut 2 (some .boolean) tg d 0 0 [.ref (e_b E + t), .int p1] S I L R n (Kq (some (.int v)) S I' L R n) := by
  refine C.of (o := [some (.ref (e_b E + t)), some (.int p1)]) (by decide) rfl (Nat.le_of_ble_eq_true rfl) ?_
  rw [f_Signs_cut] at h
  refine X.iload_1 (pc := 0) (by decide +kernel) ?_
  rcases ifb_some h with ⟨hq1, h⟩ | ⟨hq1, h⟩
  · refine X.if_lt_t (pc := 1) (off := 11) (tgt := 12) hq1 rfl (by decide +kernel) ?_
    refine X.iconst (pc := 12) (i := 0) (v := 0) ic_0 (by decide +kernel) ?_
    have j0 := Option.some.inj h
    obtain ⟨i0, j1⟩ := Prod.mk.inj j0
    subst i0
    subst j1
    exact X.ireturn (pc := 13) (by decide +kernel) ⟨_, rfl, nz01 (Or.inl rfl)⟩ ⟨rfl, rfl, rfl, rfl, rfl, rfl⟩
  · refine X.if_lt_f (pc := 1) (off := 11) (tgt := 12) hq1 rfl (by decide +kernel) ?_
    refine X.iload_1 (pc := 4) (by decide +kernel) ?_
    refine X.aload_0 (pc := 5) (by decide +kernel) ?_
    refine X.getI (pc := 6) (k := 1) fw_Signs_15 (by decide +kernel) (fun _ => rfl) hS ?_
    rcases ifb_some h with ⟨hq2, h⟩ | ⟨hq2, h⟩
    · refine X.icmp_le_t (pc := 9) (off := 5) (tgt := 14) hq2 rfl (by decide +kernel) ?_
      refine X.aload_0 (pc := 14) (by decide +kernel) ?_
      refine X.iload_1 (pc := 15) (by decide +kernel) ?_
      refine X.putI (pc := 16) (k := 1) fw_Signs_15 (by decide +kernel) rfl rfl hS ?_
      refine X.nameMI (fun I3 hI3 => ?_)
      have h := lt_at hI3 h
      refine X.iconst (pc := 19) (i := 1) (v := 1) ic_1 (by decide +kernel) ?_
      have j0 := Option.some.inj h
      obtain ⟨i0, j1⟩ := Prod.mk.inj j0
      subst i0
      subst j1
      exact X.ireturn (pc := 20) (by decide +kernel) ⟨_, rfl, nz01 (Or.inr rfl)⟩ ⟨rfl, rfl, rfl, rfl, rfl, rfl⟩
    · refine X.icmp_le_f (pc := 9) (off := 5) (tgt := 14) hq2 rfl (by decide +kernel) ?_
      refine X.iconst (pc := 12) (i := 0) (v := 0) ic_0 (by decide +kernel) ?_
      have j0 := Option.some.inj h
      obtain ⟨i0, j1⟩ := Prod.mk.inj j0
      subst i0
      subst j1
      exact X.ireturn (pc := 13) (by decide +kernel) ⟨_, rfl, nz01 (Or.inl rfl)⟩ ⟨rfl, rfl, rfl, rfl, rfl, rfl⟩
set_option maxRecDepth 100000 in
noncomputable def f_GWL_end (S : MS) (R : MR) (I : MI) (t : Nat) (p1 : Int32) : Option (Int32 × MI) :=
  bnd1 (R t 0) fun b1 =>
  asrt ((S b1).1 = 8) <|
  bnd2 (f_Signs_cut S I b1 p1) fun x3 I4 =>
  asrt (x3 = 0 ∨ x3 = 1) <|
  some (x3, I4)
set_option maxRecDepth 100000 in
set_option maxHeartbeats 4000000 in
theorem c_GWL_end {E : Env} (hE : OKE E) {tg : Bool} {d : Nat} (hd : 1 ≤ d) {S : MS} {I : MI} {L : ML} {R : MR} {n : Nat} {t : Nat} {p1 : Int32} {v : Int32} {I' : MI} (hS : (S t).1 = 11) (h : f_GWL_end S R I t p1 = some (v, I')) : C E y_GWL_end b_GWL_end 2 (some .boolean) tg d 0 0 [.ref (e_b E + t), .int p1] S I L R n (Kq (some (.int v)) S I' L R n) := by
  refine C.of (o := [some (.ref (e_b E + t)), some (.int p1)]) (by decide) rfl (Nat.le_of_ble_eq_true rfl) ?_
  rw [f_GWL_end] at h
  refine X.aload_0 (pc := 0) (by decide +kernel) ?_
  obtain ⟨b1, hb1, h⟩ := bnd1_some h
  refine X.getR (pc := 1) (k := 0) fw_GWL_10 (by decide +kernel) (fun _ => rfl) hS hb1 ?_
  refine X.iload_1 (pc := 4) (by decide +kernel) ?_
  obtain ⟨hc2, h⟩ := asrt_some h
  obtain ⟨x3, I4, hv5, h⟩ := bnd2_some h
  refine X.callVi (pc := 5) (nc := 0) (ns := 0) (c_Signs_cut hE (dle hd (Nat.le_of_ble_eq_true rfl)) hc2 hv5) cv_GWL_127 (by decide +kernel) hc2 ⟨by decide, rfl⟩ (ddd hd (Nat.le_of_ble_eq_true rfl)) rfl (Nat.le_of_ble_eq_true rfl) rfl rfl ?_
  obtain ⟨hb6, h⟩ := asrt_some h
  have j0 := Option.some.inj h
  obtain ⟨i0, j1⟩ := Prod.mk.inj j0
  subst i0
  subst j1
  exact X.ireturn (pc := 8) (by decide +kernel) ⟨_, rfl, nz01 hb6⟩ ⟨rfl, rfl, rfl, rfl, rfl, rfl⟩
set_option maxRecDepth 100000 in
noncomputable def f_Signs_at (S : MS) (R : MR) (I : MI) (t : Nat) (p1 : Int32) : Option Int32 :=
  bnd1 (ifb (p1 < 0)
      (some (-1))
      (ifb ((I t 1) ≤ p1)
        (some (-1))
        (ifb (80 ≤ p1)
          (some (-1))
          (bnd1 (R t 0) fun b7 =>
          asrt ((S b7).1 = 20) <|
          asrt (vp_in p1 (S b7).2) <|
          some (I b7 (Int32.toNatClampNeg p1)))))) fun (y2 : Int32) =>
  some y2
set_option maxRecDepth 100000 in
set_option maxHeartbeats 4000000 in
theorem c_Signs_at {E : Env} (hE : OKE E) {tg : Bool} {d : Nat} (hd : 0 ≤ d) {S : MS} {I : MI} {L : ML} {R : MR} {n : Nat} {t : Nat} {p1 : Int32} {v : Int32} (hS : (S t).1 = 8) (h : f_Signs_at S R I t p1 = some v) : C E y_Signs_at b_Signs_at 2 (some .int) tg d 0 0 [.ref (e_b E + t), .int p1] S I L R n (Kq (some (.int v)) S I L R n) := by
  refine C.of (o := [some (.ref (e_b E + t)), some (.int p1)]) (by decide) rfl (Nat.le_of_ble_eq_true rfl) ?_
  rw [f_Signs_at] at h
  refine X.iload_1 (pc := 0) (by decide +kernel) ?_
  obtain ⟨y2, hr3, h⟩ := bnd1_some h
  have hj4 : X E y_Signs_at b_Signs_at 2 (some .int) tg d 0 0 28 [none, none] [.int y2] S I L R n (Kq (some (.int v)) S I L R n) := by
    have j0 := Option.some.inj h
    subst j0
    exact X.ireturn (pc := 28) (by decide +kernel) ⟨_, rfl, rfl⟩ ⟨rfl, rfl, rfl, rfl, rfl, rfl⟩
  have h := hr3
  rcases ifb_some h with ⟨hq1, h⟩ | ⟨hq1, h⟩
  · refine X.if_lt_t (pc := 1) (off := 26) (tgt := 27) hq1 rfl (by decide +kernel) ?_
    refine X.iconst (pc := 27) (i := (-1)) (v := (-1)) ic_m1 (by decide +kernel) ?_
    have j0 := Option.some.inj h
    subst j0
    refine X.fgt (o' := [none, none]) trivial ?_
    exact hj4
  · refine X.if_lt_f (pc := 1) (off := 26) (tgt := 27) hq1 rfl (by decide +kernel) ?_
    refine X.iload_1 (pc := 4) (by decide +kernel) ?_
    refine X.aload_0 (pc := 5) (by decide +kernel) ?_
    refine X.getI (pc := 6) (k := 1) fw_Signs_15 (by decide +kernel) (fun _ => rfl) hS ?_
    rcases ifb_some h with ⟨hq5, h⟩ | ⟨hq5, h⟩
    · refine X.icmp_ge_t (pc := 9) (off := 18) (tgt := 27) hq5 rfl (by decide +kernel) ?_
      refine X.iconst (pc := 27) (i := (-1)) (v := (-1)) ic_m1 (by decide +kernel) ?_
      have j0 := Option.some.inj h
      subst j0
      refine X.fgt (o' := [none, none]) trivial ?_
      exact hj4
    · refine X.icmp_ge_f (pc := 9) (off := 18) (tgt := 27) hq5 rfl (by decide +kernel) ?_
      refine X.iload_1 (pc := 12) (by decide +kernel) ?_
      refine X.bipush (pc := 13) (i := 80) (v := 80) bp_80 (by decide +kernel) ?_
      rcases ifb_some h with ⟨hq6, h⟩ | ⟨hq6, h⟩
      · refine X.icmp_ge_t (pc := 15) (off := 12) (tgt := 27) hq6 rfl (by decide +kernel) ?_
        refine X.iconst (pc := 27) (i := (-1)) (v := (-1)) ic_m1 (by decide +kernel) ?_
        have j0 := Option.some.inj h
        subst j0
        refine X.fgt (o' := [none, none]) trivial ?_
        exact hj4
      · refine X.icmp_ge_f (pc := 15) (off := 12) (tgt := 27) hq6 rfl (by decide +kernel) ?_
        refine X.aload_0 (pc := 18) (by decide +kernel) ?_
        obtain ⟨b7, hb7, h⟩ := bnd1_some h
        refine X.getR (pc := 19) (k := 0) fw_Signs_9 (by decide +kernel) (fun _ => rfl) hS hb7 ?_
        refine X.iload_1 (pc := 22) (by decide +kernel) ?_
        obtain ⟨hc9, h⟩ := asrt_some h
        obtain ⟨hi8, h⟩ := asrt_some h
        refine X.iaload (pc := 23) (by decide +kernel) hc9 hi8 ?_
        refine X.goto (pc := 24) (off := 4) (tgt := 28) (by decide +kernel) rfl ?_
        have j0 := Option.some.inj h
        subst j0
        refine X.fgt (o' := [none, none]) trivial ?_
        exact hj4
set_option maxRecDepth 100000 in
noncomputable def f_Land_kindTold (p1 : Int32) : Option Int32 :=
  ifb (p1 = 35)
    (some 2)
    (ifb (p1 = 46)
      (some 0)
      (ifb (p1 = 72)
        (some 3)
        (ifb (p1 = 111)
          (some 1)
          (some (-1)))))
set_option maxRecDepth 100000 in
set_option maxHeartbeats 4000000 in
theorem c_Land_kindTold {E : Env} (hE : OKE E) {tg : Bool} {d : Nat} (hd : 0 ≤ d) {S : MS} {I : MI} {L : ML} {R : MR} {n : Nat} {p1 : Int32} {v : Int32} (h : f_Land_kindTold p1 = some v) : C E y_Land_kindTold b_Land_kindTold 1 (some .int) tg d 0 0 [.int p1] S I L R n (Kq (some (.int v)) S I L R n) := by
  refine C.of (o := [some (.int p1)]) (by decide) rfl (Nat.le_of_ble_eq_true rfl) ?_
  rw [f_Land_kindTold] at h
  refine X.iload_0 (pc := 0) (by decide +kernel) ?_
  rcases ifb_some h with ⟨hq1_0, h⟩ | ⟨hq1_0, h⟩
  · refine X.lookup (pc := 1) (dflt := 51) (ps := #[(35, 47), (46, 43), (72, 49), (111, 45)]) (len := 43) (off := 47) (tgt := 48) (by decide +kernel) (by decide +kernel) (by rw [hq1_0]; decide +kernel) rfl ?_
    refine X.iconst (pc := 48) (i := 2) (v := 2) ic_2 (by decide +kernel) ?_
    have j0 := Option.some.inj h
    subst j0
    exact X.ireturn (pc := 49) (by decide +kernel) ⟨_, rfl, rfl⟩ ⟨rfl, rfl, rfl, rfl, rfl, rfl⟩
  · rcases ifb_some h with ⟨hq1_1, h⟩ | ⟨hq1_1, h⟩
    · refine X.lookup (pc := 1) (dflt := 51) (ps := #[(35, 47), (46, 43), (72, 49), (111, 45)]) (len := 43) (off := 43) (tgt := 44) (by decide +kernel) (by decide +kernel) (by rw [hq1_1]; decide +kernel) rfl ?_
      refine X.iconst (pc := 44) (i := 0) (v := 0) ic_0 (by decide +kernel) ?_
      have j0 := Option.some.inj h
      subst j0
      exact X.ireturn (pc := 45) (by decide +kernel) ⟨_, rfl, rfl⟩ ⟨rfl, rfl, rfl, rfl, rfl, rfl⟩
    · rcases ifb_some h with ⟨hq1_2, h⟩ | ⟨hq1_2, h⟩
      · refine X.lookup (pc := 1) (dflt := 51) (ps := #[(35, 47), (46, 43), (72, 49), (111, 45)]) (len := 43) (off := 49) (tgt := 50) (by decide +kernel) (by decide +kernel) (by rw [hq1_2]; decide +kernel) rfl ?_
        refine X.iconst (pc := 50) (i := 3) (v := 3) ic_3 (by decide +kernel) ?_
        have j0 := Option.some.inj h
        subst j0
        exact X.ireturn (pc := 51) (by decide +kernel) ⟨_, rfl, rfl⟩ ⟨rfl, rfl, rfl, rfl, rfl, rfl⟩
      · rcases ifb_some h with ⟨hq1_3, h⟩ | ⟨hq1_3, h⟩
        · refine X.lookup (pc := 1) (dflt := 51) (ps := #[(35, 47), (46, 43), (72, 49), (111, 45)]) (len := 43) (off := 45) (tgt := 46) (by decide +kernel) (by decide +kernel) (by rw [hq1_3]; decide +kernel) rfl ?_
          refine X.iconst (pc := 46) (i := 1) (v := 1) ic_1 (by decide +kernel) ?_
          have j0 := Option.some.inj h
          subst j0
          exact X.ireturn (pc := 47) (by decide +kernel) ⟨_, rfl, rfl⟩ ⟨rfl, rfl, rfl, rfl, rfl, rfl⟩
        · refine X.lookup (pc := 1) (dflt := 51) (ps := #[(35, 47), (46, 43), (72, 49), (111, 45)]) (len := 43) (off := 51) (tgt := 52) (by decide +kernel) (by decide +kernel) ?_ rfl ?_
          · show Op.lookupswitch.offset [(35, 47), (46, 43), (72, 49), (111, 45)] 51 _ = _
            rw [lv_osw (a := 35) hq1_0 (by decide), lv_osw (a := 46) hq1_1 (by decide), lv_osw (a := 72) hq1_2 (by decide), lv_osw (a := 111) hq1_3 (by decide)]
            rfl
          refine X.iconst (pc := 52) (i := (-1)) (v := (-1)) ic_m1 (by decide +kernel) ?_
          have j0 := Option.some.inj h
          subst j0
          exact X.ireturn (pc := 53) (by decide +kernel) ⟨_, rfl, rfl⟩ ⟨rfl, rfl, rfl, rfl, rfl, rfl⟩
set_option maxRecDepth 100000 in
noncomputable def f_Land_isWhole (p1 : Int32) (p2 : Int32) (p3 : Int32) : Option Int32 :=
  bnd1 (ifb (p1 = 0)
      (ifb (p2 ≤ 0)
        (some 0)
        (some 1))
      (ifb (p2 = p3)
        (some 1)
        (some 0))) fun (y2 : Int32) =>
  asrt (y2 = 0 ∨ y2 = 1) <|
  some y2
set_option maxRecDepth 100000 in
set_option maxHeartbeats 4000000 in
theorem c_Land_isWhole {E : Env} (hE : OKE E) {tg : Bool} {d : Nat} (hd : 0 ≤ d) {S : MS} {I : MI} {L : ML} {R : MR} {n : Nat} {p1 : Int32} {p2 : Int32} {p3 : Int32} {v : Int32} (h : f_Land_isWhole p1 p2 p3 = some v) : C E y_Land_isWhole b_Land_isWhole 3 (some .boolean) tg d 0 0 [.int p1, .int p2, .int p3] S I L R n (Kq (some (.int v)) S I L R n) := by
  refine C.of (o := [some (.int p1), some (.int p2), some (.int p3)]) (by decide) rfl (Nat.le_of_ble_eq_true rfl) ?_
  rw [f_Land_isWhole] at h
  refine X.iload_0 (pc := 0) (by decide +kernel) ?_
  obtain ⟨y2, hr3, h⟩ := bnd1_some h
  have hj4 : X E y_Land_isWhole b_Land_isWhole 3 (some .boolean) tg d 0 0 26 [none, none, none] [.int y2] S I L R n (Kq (some (.int v)) S I L R n) := by
    obtain ⟨hb7, h⟩ := asrt_some h
    have j0 := Option.some.inj h
    subst j0
    exact X.ireturn (pc := 26) (by decide +kernel) ⟨_, rfl, nz01 hb7⟩ ⟨rfl, rfl, rfl, rfl, rfl, rfl⟩
  have h := hr3
  rcases ifb_some h with ⟨hq1, h⟩ | ⟨hq1, h⟩
  · refine X.if_ne_f (pc := 1) (off := 15) (tgt := 16) hq1 rfl (by decide +kernel) ?_
    refine X.iload_1 (pc := 4) (by decide +kernel) ?_
    rcases ifb_some h with ⟨hq5, h⟩ | ⟨hq5, h⟩
    · refine X.if_le_t (pc := 5) (off := 7) (tgt := 12) hq5 rfl (by decide +kernel) ?_
      refine X.iconst (pc := 12) (i := 0) (v := 0) ic_0 (by decide +kernel) ?_
      refine X.goto (pc := 13) (off := 13) (tgt := 26) (by decide +kernel) rfl ?_
      have j0 := Option.some.inj h
      subst j0
      refine X.fgt (o' := [none, none, none]) trivial ?_
      exact hj4
    · refine X.if_le_f (pc := 5) (off := 7) (tgt := 12) hq5 rfl (by decide +kernel) ?_
      refine X.iconst (pc := 8) (i := 1) (v := 1) ic_1 (by decide +kernel) ?_
      refine X.goto (pc := 9) (off := 17) (tgt := 26) (by decide +kernel) rfl ?_
      have j0 := Option.some.inj h
      subst j0
      refine X.fgt (o' := [none, none, none]) trivial ?_
      exact hj4
  · refine X.if_ne_t (pc := 1) (off := 15) (tgt := 16) hq1 rfl (by decide +kernel) ?_
    refine X.iload_1 (pc := 16) (by decide +kernel) ?_
    refine X.iload_2 (pc := 17) (by decide +kernel) ?_
    rcases ifb_some h with ⟨hq6, h⟩ | ⟨hq6, h⟩
    · refine X.icmp_ne_f (pc := 18) (off := 7) (tgt := 25) hq6 rfl (by decide +kernel) ?_
      refine X.iconst (pc := 21) (i := 1) (v := 1) ic_1 (by decide +kernel) ?_
      refine X.goto (pc := 22) (off := 4) (tgt := 26) (by decide +kernel) rfl ?_
      have j0 := Option.some.inj h
      subst j0
      refine X.fgt (o' := [none, none, none]) trivial ?_
      exact hj4
    · refine X.icmp_ne_t (pc := 18) (off := 7) (tgt := 25) hq6 rfl (by decide +kernel) ?_
      refine X.iconst (pc := 25) (i := 0) (v := 0) ic_0 (by decide +kernel) ?_
      have j0 := Option.some.inj h
      subst j0
      refine X.fgt (o' := [none, none, none]) trivial ?_
      exact hj4
set_option maxRecDepth 100000 in
noncomputable def l_Land_faultOf_11 (S : MS) (R : MR) (I : MI) (v1 : Nat) : Nat → Int32 → Int32 → Int32 → Int32 → Option Int32
  | 0, _, _, _, _ => none
  | f + 1, v2, v3, v4, v5 =>
    asrt ((S v1).1 = 8) <|
    bnd1 (f_Signs_length S I v1) fun x2 =>
    ifb (x2 ≤ v5)
      (bnd1 (f_Land_isWhole v3 v4 v2) fun x5 =>
      bnd1 (ifb (x5 = 0)
          (bnd1 (f_Signs_length S I v1) fun x11 =>
          some x11)
          (some (-1))) fun (y8 : Int32) =>
      some y8)
      (bnd1 (f_Signs_at S R I v1 v5) fun x13 =>
      bnd1 (f_Land_kindTold x13) fun x15 =>
      ifb (x15 = (-1))
        (ifb (x13 = 47)
          (bnd1 (f_Land_isWhole v3 v4 v2) fun x19 =>
          ifb (x19 = 0)
            (some v5)
            (l_Land_faultOf_11 S R I v1 f v4 (v3 + 1) 0 (v5 + 1)))
          (some v5))
        (ifb (v3 = 6)
          (some v5)
          (ifb (v4 = v2)
            (some v5)
            (l_Land_faultOf_11 S R I v1 f v2 v3 (v4 + 1) (v5 + 1)))))
set_option maxRecDepth 100000 in
set_option maxHeartbeats 4000000 in
theorem xl_Land_faultOf_11 {E : Env} (hE : OKE E) {tg : Bool} {d : Nat} (hd : 1 ≤ d) {S : MS} {I : MI} {L : ML} {R : MR} {n : Nat} {v1 : Nat} :
    ∀ {f : Nat}  {v2 : Int32} {v3 : Int32} {v4 : Int32} {v5 : Int32} {v : Int32}, l_Land_faultOf_11 S R I v1 f v2 v3 v4 v5 = some v → X E y_Land_faultOf b_Land_faultOf 7 (some .int) tg d 0 0 11 [none, some (.ref (e_b E + v1)), some (.int v2), some (.int v3), some (.int v4), some (.int v5), none] [] S I L R n (Kq (some (.int v)) S I L R n) := by
  intro f
  induction f with
  | zero =>
    intro v2 v3 v4 v5 v h
    rw [l_Land_faultOf_11] at h
    cases h
  | succ f ih =>
    intro v2 v3 v4 v5 v h
    rw [l_Land_faultOf_11] at h
    refine X.iload_5 (pc := 11) (by decide +kernel) ?_
    refine X.aload_1 (pc := 13) (by decide +kernel) ?_
    obtain ⟨hc1, h⟩ := asrt_some h
    obtain ⟨x2, hv3, h⟩ := bnd1_some h
    refine X.callVi (pc := 14) (nc := 0) (ns := 0) (c_Signs_length hE (dle hd (Nat.le_of_ble_eq_true rfl)) hc1 hv3) cv_Land_35 (by decide +kernel) hc1 ⟨by decide, rfl⟩ (ddd hd (Nat.le_of_ble_eq_true rfl)) rfl (Nat.le_of_ble_eq_true rfl) rfl rfl ?_
    rcases ifb_some h with ⟨hq4, h⟩ | ⟨hq4, h⟩
    · refine X.icmp_ge_t (pc := 17) (off := 79) (tgt := 96) hq4 rfl (by decide +kernel) ?_
      refine X.iload_3 (pc := 96) (by decide +kernel) ?_
      refine X.iload_4 (pc := 97) (by decide +kernel) ?_
      refine X.iload_2 (pc := 99) (by decide +kernel) ?_
      obtain ⟨x5, hv6, h⟩ := bnd1_some h
      refine X.callSi (pc := 100) (nc := 0) (ns := 0) (c_Land_isWhole hE (dle hd (Nat.le_of_ble_eq_true rfl)) hv6) cv_Land_47 (by decide +kernel) (ddd hd (Nat.le_of_ble_eq_true rfl)) rfl (Nat.le_of_ble_eq_true rfl) rfl rfl ?_
      obtain ⟨y8, hr9, h⟩ := bnd1_some h
      have hj10 : X E y_Land_faultOf b_Land_faultOf 7 (some .int) tg d 0 0 114 [none, none, none, none, none, none, none] [.int y8] S I L R n (Kq (some (.int v)) S I L R n) := by
        have j0 := Option.some.inj h
        subst j0
        exact X.ireturn (pc := 114) (by decide +kernel) ⟨_, rfl, rfl⟩ ⟨rfl, rfl, rfl, rfl, rfl, rfl⟩
      have h := hr9
      rcases ifb_some h with ⟨hq7, h⟩ | ⟨hq7, h⟩
      · refine X.if_eq_t (pc := 103) (off := 7) (tgt := 110) hq7 rfl (by decide +kernel) ?_
        refine X.aload_1 (pc := 110) (by decide +kernel) ?_
        obtain ⟨x11, hv12, h⟩ := bnd1_some h
        refine X.callVi (pc := 111) (nc := 0) (ns := 0) (c_Signs_length hE (dle hd (Nat.le_of_ble_eq_true rfl)) hc1 hv12) cv_Land_35 (by decide +kernel) hc1 ⟨by decide, rfl⟩ (ddd hd (Nat.le_of_ble_eq_true rfl)) rfl (Nat.le_of_ble_eq_true rfl) rfl rfl ?_
        have j0 := Option.some.inj h
        subst j0
        refine X.fgt (o' := [none, none, none, none, none, none, none]) trivial ?_
        exact hj10
      · refine X.if_eq_f (pc := 103) (off := 7) (tgt := 110) hq7 rfl (by decide +kernel) ?_
        refine X.iconst (pc := 106) (i := (-1)) (v := (-1)) ic_m1 (by decide +kernel) ?_
        refine X.goto (pc := 107) (off := 7) (tgt := 114) (by decide +kernel) rfl ?_
        have j0 := Option.some.inj h
        subst j0
        refine X.fgt (o' := [none, none, none, none, none, none, none]) trivial ?_
        exact hj10
    · refine X.icmp_ge_f (pc := 17) (off := 79) (tgt := 96) hq4 rfl (by decide +kernel) ?_
      refine X.aload_1 (pc := 20) (by decide +kernel) ?_
      refine X.iload_5 (pc := 21) (by decide +kernel) ?_
      obtain ⟨x13, hv14, h⟩ := bnd1_some h
      refine X.callVi (pc := 23) (nc := 0) (ns := 0) (c_Signs_at hE (dle hd (Nat.le_of_ble_eq_true rfl)) hc1 hv14) cv_Land_41 (by decide +kernel) hc1 ⟨by decide, rfl⟩ (ddd hd (Nat.le_of_ble_eq_true rfl)) rfl (Nat.le_of_ble_eq_true rfl) rfl rfl ?_
      refine X.istore_6 (pc := 26) (by decide +kernel) (by decide) rfl ?_
      refine X.iload_6 (pc := 28) (by decide +kernel) ?_
      obtain ⟨x15, hv16, h⟩ := bnd1_some h
      refine X.callSi (pc := 30) (nc := 0) (ns := 0) (c_Land_kindTold hE (dle hd (Nat.le_of_ble_eq_true rfl)) hv16) cv_Land_44 (by decide +kernel) (ddd hd (Nat.le_of_ble_eq_true rfl)) rfl (Nat.le_of_ble_eq_true rfl) rfl rfl ?_
      refine X.iconst (pc := 33) (i := (-1)) (v := (-1)) ic_m1 (by decide +kernel) ?_
      rcases ifb_some h with ⟨hq17, h⟩ | ⟨hq17, h⟩
      · refine X.icmp_eq_t (pc := 34) (off := 24) (tgt := 58) hq17 rfl (by decide +kernel) ?_
        refine X.iload_6 (pc := 58) (by decide +kernel) ?_
        refine X.bipush (pc := 60) (i := 47) (v := 47) bp_47 (by decide +kernel) ?_
        rcases ifb_some h with ⟨hq18, h⟩ | ⟨hq18, h⟩
        · refine X.icmp_ne_f (pc := 62) (off := 25) (tgt := 87) hq18 rfl (by decide +kernel) ?_
          refine X.iload_3 (pc := 65) (by decide +kernel) ?_
          refine X.iload_4 (pc := 66) (by decide +kernel) ?_
          refine X.iload_2 (pc := 68) (by decide +kernel) ?_
          obtain ⟨x19, hv20, h⟩ := bnd1_some h
          refine X.callSi (pc := 69) (nc := 0) (ns := 0) (c_Land_isWhole hE (dle hd (Nat.le_of_ble_eq_true rfl)) hv20) cv_Land_47 (by decide +kernel) (ddd hd (Nat.le_of_ble_eq_true rfl)) rfl (Nat.le_of_ble_eq_true rfl) rfl rfl ?_
          rcases ifb_some h with ⟨hq21, h⟩ | ⟨hq21, h⟩
          · refine X.if_eq_t (pc := 72) (off := 15) (tgt := 87) hq21 rfl (by decide +kernel) ?_
            refine X.iload_5 (pc := 87) (by decide +kernel) ?_
            have j0 := Option.some.inj h
            subst j0
            exact X.ireturn (pc := 89) (by decide +kernel) ⟨_, rfl, rfl⟩ ⟨rfl, rfl, rfl, rfl, rfl, rfl⟩
          · refine X.if_eq_f (pc := 72) (off := 15) (tgt := 87) hq21 rfl (by decide +kernel) ?_
            refine X.iload_4 (pc := 75) (by decide +kernel) ?_
            refine X.istore_2 (pc := 77) (by decide +kernel) (by decide) rfl ?_
            refine X.iinc_3 (pc := 78) (z := 1) (v := 1) ic_1 (by decide +kernel) (by decide) rfl ?_
            refine X.iconst (pc := 81) (i := 0) (v := 0) ic_0 (by decide +kernel) ?_
            refine X.istore_4 (pc := 82) (by decide +kernel) (by decide) rfl ?_
            refine X.goto (pc := 84) (off := 6) (tgt := 90) (by decide +kernel) rfl ?_
            refine X.iinc_5 (pc := 90) (z := 1) (v := 1) ic_1 (by decide +kernel) (by decide) rfl ?_
            refine X.goto (pc := 93) (off := (-82)) (tgt := 11) (by decide +kernel) rfl ?_
            refine X.fgt (o' := [none, some (.ref (e_b E + v1)), some (.int v4), some (.int (v3 + 1)), some (.int 0), some (.int (v5 + 1)), none]) ⟨rfl, ⟨rfl, ⟨rfl, ⟨rfl, ⟨rfl, trivial⟩⟩⟩⟩⟩ ?_
            exact ih h
        · refine X.icmp_ne_t (pc := 62) (off := 25) (tgt := 87) hq18 rfl (by decide +kernel) ?_
          refine X.iload_5 (pc := 87) (by decide +kernel) ?_
          have j0 := Option.some.inj h
          subst j0
          exact X.ireturn (pc := 89) (by decide +kernel) ⟨_, rfl, rfl⟩ ⟨rfl, rfl, rfl, rfl, rfl, rfl⟩
      · refine X.icmp_eq_f (pc := 34) (off := 24) (tgt := 58) hq17 rfl (by decide +kernel) ?_
        refine X.iload_3 (pc := 37) (by decide +kernel) ?_
        refine X.bipush (pc := 38) (i := 6) (v := 6) bp_6 (by decide +kernel) ?_
        rcases ifb_some h with ⟨hq22, h⟩ | ⟨hq22, h⟩
        · refine X.icmp_eq_t (pc := 40) (off := 9) (tgt := 49) hq22 rfl (by decide +kernel) ?_
          refine X.iload_5 (pc := 49) (by decide +kernel) ?_
          have j0 := Option.some.inj h
          subst j0
          exact X.ireturn (pc := 51) (by decide +kernel) ⟨_, rfl, rfl⟩ ⟨rfl, rfl, rfl, rfl, rfl, rfl⟩
        · refine X.icmp_eq_f (pc := 40) (off := 9) (tgt := 49) hq22 rfl (by decide +kernel) ?_
          refine X.iload_4 (pc := 43) (by decide +kernel) ?_
          refine X.iload_2 (pc := 45) (by decide +kernel) ?_
          rcases ifb_some h with ⟨hq23, h⟩ | ⟨hq23, h⟩
          · refine X.icmp_ne_f (pc := 46) (off := 6) (tgt := 52) hq23 rfl (by decide +kernel) ?_
            refine X.iload_5 (pc := 49) (by decide +kernel) ?_
            have j0 := Option.some.inj h
            subst j0
            exact X.ireturn (pc := 51) (by decide +kernel) ⟨_, rfl, rfl⟩ ⟨rfl, rfl, rfl, rfl, rfl, rfl⟩
          · refine X.icmp_ne_t (pc := 46) (off := 6) (tgt := 52) hq23 rfl (by decide +kernel) ?_
            refine X.iinc_4 (pc := 52) (z := 1) (v := 1) ic_1 (by decide +kernel) (by decide) rfl ?_
            refine X.goto (pc := 55) (off := 35) (tgt := 90) (by decide +kernel) rfl ?_
            refine X.iinc_5 (pc := 90) (z := 1) (v := 1) ic_1 (by decide +kernel) (by decide) rfl ?_
            refine X.goto (pc := 93) (off := (-82)) (tgt := 11) (by decide +kernel) rfl ?_
            refine X.fgt (o' := [none, some (.ref (e_b E + v1)), some (.int v2), some (.int v3), some (.int (v4 + 1)), some (.int (v5 + 1)), none]) ⟨rfl, ⟨rfl, ⟨rfl, ⟨rfl, ⟨rfl, trivial⟩⟩⟩⟩⟩ ?_
            exact ih h
set_option maxRecDepth 100000 in
noncomputable def f_Land_faultOf (g : Nat) (S : MS) (R : MR) (I : MI) (t : Nat) (p1 : Nat) : Option Int32 :=
  l_Land_faultOf_11 S R I p1 g 6 0 0 0
set_option maxRecDepth 100000 in
set_option maxHeartbeats 4000000 in
theorem c_Land_faultOf {E : Env} (hE : OKE E) {tg : Bool} {d : Nat} (hd : 1 ≤ d) {g : Nat} {S : MS} {I : MI} {L : ML} {R : MR} {n : Nat} {t : Nat} {p1 : Nat} {v : Int32} (hS : (S t).1 = 2) (h : f_Land_faultOf g S R I t p1 = some v) : C E y_Land_faultOf b_Land_faultOf 7 (some .int) tg d 0 0 [.ref (e_b E + t), .ref (e_b E + p1)] S I L R n (Kq (some (.int v)) S I L R n) := by
  refine C.of (o := [some (.ref (e_b E + t)), some (.ref (e_b E + p1)), none, none, none, none, none]) (by decide) rfl (Nat.le_of_ble_eq_true rfl) ?_
  rw [f_Land_faultOf] at h
  refine X.bipush (pc := 0) (i := 6) (v := 6) bp_6 (by decide +kernel) ?_
  refine X.istore_2 (pc := 2) (by decide +kernel) (by decide) rfl ?_
  refine X.iconst (pc := 3) (i := 0) (v := 0) ic_0 (by decide +kernel) ?_
  refine X.istore_3 (pc := 4) (by decide +kernel) (by decide) rfl ?_
  refine X.iconst (pc := 5) (i := 0) (v := 0) ic_0 (by decide +kernel) ?_
  refine X.istore_4 (pc := 6) (by decide +kernel) (by decide) rfl ?_
  refine X.iconst (pc := 8) (i := 0) (v := 0) ic_0 (by decide +kernel) ?_
  refine X.istore_5 (pc := 9) (by decide +kernel) (by decide) rfl ?_
  refine X.fgt (o' := [none, some (.ref (e_b E + p1)), some (.int 6), some (.int 0), some (.int 0), some (.int 0), none]) ⟨rfl, ⟨rfl, ⟨rfl, ⟨rfl, ⟨rfl, trivial⟩⟩⟩⟩⟩ ?_
  exact xl_Land_faultOf_11 hE hd h
set_option maxRecDepth 100000 in
noncomputable def f_Land_kindOf (S : MS) (R : MR) (I : MI) (t : Nat) (p1 : Int32) : Option Int32 :=
  bnd1 (ifb (p1 < 0)
      (some (-1))
      (ifb (((I t 0) * (I t 1)) ≤ p1)
        (some (-1))
        (ifb (36 ≤ p1)
          (some (-1))
          (bnd1 (R t 2) fun b7 =>
          asrt ((S b7).1 = 20) <|
          asrt (vp_in p1 (S b7).2) <|
          some (I b7 (Int32.toNatClampNeg p1)))))) fun (y2 : Int32) =>
  some y2
set_option maxRecDepth 100000 in
set_option maxHeartbeats 4000000 in
theorem c_Land_kindOf {E : Env} (hE : OKE E) {tg : Bool} {d : Nat} (hd : 0 ≤ d) {S : MS} {I : MI} {L : ML} {R : MR} {n : Nat} {t : Nat} {p1 : Int32} {v : Int32} (hS : (S t).1 = 2) (h : f_Land_kindOf S R I t p1 = some v) : C E y_Land_kindOf b_Land_kindOf 2 (some .int) tg d 0 0 [.ref (e_b E + t), .int p1] S I L R n (Kq (some (.int v)) S I L R n) := by
  refine C.of (o := [some (.ref (e_b E + t)), some (.int p1)]) (by decide) rfl (Nat.le_of_ble_eq_true rfl) ?_
  rw [f_Land_kindOf] at h
  refine X.iload_1 (pc := 0) (by decide +kernel) ?_
  obtain ⟨y2, hr3, h⟩ := bnd1_some h
  have hj4 : X E y_Land_kindOf b_Land_kindOf 2 (some .int) tg d 0 0 33 [none, none] [.int y2] S I L R n (Kq (some (.int v)) S I L R n) := by
    have j0 := Option.some.inj h
    subst j0
    exact X.ireturn (pc := 33) (by decide +kernel) ⟨_, rfl, rfl⟩ ⟨rfl, rfl, rfl, rfl, rfl, rfl⟩
  have h := hr3
  rcases ifb_some h with ⟨hq1, h⟩ | ⟨hq1, h⟩
  · refine X.if_lt_t (pc := 1) (off := 31) (tgt := 32) hq1 rfl (by decide +kernel) ?_
    refine X.iconst (pc := 32) (i := (-1)) (v := (-1)) ic_m1 (by decide +kernel) ?_
    have j0 := Option.some.inj h
    subst j0
    refine X.fgt (o' := [none, none]) trivial ?_
    exact hj4
  · refine X.if_lt_f (pc := 1) (off := 31) (tgt := 32) hq1 rfl (by decide +kernel) ?_
    refine X.iload_1 (pc := 4) (by decide +kernel) ?_
    refine X.aload_0 (pc := 5) (by decide +kernel) ?_
    refine X.getI (pc := 6) (k := 0) fw_Land_9 (by decide +kernel) (fun _ => rfl) hS ?_
    refine X.aload_0 (pc := 9) (by decide +kernel) ?_
    refine X.getI (pc := 10) (k := 1) fw_Land_15 (by decide +kernel) (fun _ => rfl) hS ?_
    refine X.imul (pc := 13) (by decide +kernel) ?_
    rcases ifb_some h with ⟨hq5, h⟩ | ⟨hq5, h⟩
    · refine X.icmp_ge_t (pc := 14) (off := 18) (tgt := 32) hq5 rfl (by decide +kernel) ?_
      refine X.iconst (pc := 32) (i := (-1)) (v := (-1)) ic_m1 (by decide +kernel) ?_
      have j0 := Option.some.inj h
      subst j0
      refine X.fgt (o' := [none, none]) trivial ?_
      exact hj4
    · refine X.icmp_ge_f (pc := 14) (off := 18) (tgt := 32) hq5 rfl (by decide +kernel) ?_
      refine X.iload_1 (pc := 17) (by decide +kernel) ?_
      refine X.bipush (pc := 18) (i := 36) (v := 36) bp_36 (by decide +kernel) ?_
      rcases ifb_some h with ⟨hq6, h⟩ | ⟨hq6, h⟩
      · refine X.icmp_ge_t (pc := 20) (off := 12) (tgt := 32) hq6 rfl (by decide +kernel) ?_
        refine X.iconst (pc := 32) (i := (-1)) (v := (-1)) ic_m1 (by decide +kernel) ?_
        have j0 := Option.some.inj h
        subst j0
        refine X.fgt (o' := [none, none]) trivial ?_
        exact hj4
      · refine X.icmp_ge_f (pc := 20) (off := 12) (tgt := 32) hq6 rfl (by decide +kernel) ?_
        refine X.aload_0 (pc := 23) (by decide +kernel) ?_
        obtain ⟨b7, hb7, h⟩ := bnd1_some h
        refine X.getR (pc := 24) (k := 2) fw_Land_18 (by decide +kernel) (fun _ => rfl) hS hb7 ?_
        refine X.iload_1 (pc := 27) (by decide +kernel) ?_
        obtain ⟨hc9, h⟩ := asrt_some h
        obtain ⟨hi8, h⟩ := asrt_some h
        refine X.iaload (pc := 28) (by decide +kernel) hc9 hi8 ?_
        refine X.goto (pc := 29) (off := 4) (tgt := 33) (by decide +kernel) rfl ?_
        have j0 := Option.some.inj h
        subst j0
        refine X.fgt (o' := [none, none]) trivial ?_
        exact hj4
set_option maxRecDepth 100000 in
noncomputable def f_Land_across (S : MS) (R : MR) (I : MI) (t : Nat) (p1 : Int32) (p2 : Int32) (p3 : Int32) : Option Int32 :=
  bnd1 (ifb (p3 = 2)
      (some 1)
      (ifb (p3 = 0)
        (some (-1))
        (some 0))) fun (y2 : Int32) =>
  lt (p1 + y2) fun (x6 : Int32) =>
  bnd1 (ifb (p3 = 1)
      (some 1)
      (ifb (p3 = 3)
        (some (-1))
        (some 0))) fun (y8 : Int32) =>
  lt (p2 + y8) fun (x12 : Int32) =>
  bnd1 (ifb (x6 < 0)
      (some 0)
      (ifb ((I t 1) ≤ x6)
        (some 0)
        (ifb (x12 < 0)
          (some 0)
          (ifb ((I t 0) ≤ x12)
            (some 0)
            (some 1))))) fun (y14 : Int32) =>
  lt ((x6 * (I t 0)) + x12) fun (x20 : Int32) =>
  bnd1 (ifb (y14 = 0)
      (some ((p1 * (I t 0)) + p2))
      (bnd1 (f_Land_kindOf S R I t x20) fun x25 =>
      ifb (x25 = 2)
        (some ((p1 * (I t 0)) + p2))
        (some x20))) fun (y22 : Int32) =>
  some y22
set_option maxRecDepth 100000 in
set_option maxHeartbeats 4000000 in
theorem c_Land_across {E : Env} (hE : OKE E) {tg : Bool} {d : Nat} (hd : 1 ≤ d) {S : MS} {I : MI} {L : ML} {R : MR} {n : Nat} {t : Nat} {p1 : Int32} {p2 : Int32} {p3 : Int32} {v : Int32} (hS : (S t).1 = 2) (h : f_Land_across S R I t p1 p2 p3 = some v) : C E y_Land_across b_Land_across 8 (some .int) tg d 0 0 [.ref (e_b E + t), .int p1, .int p2, .int p3] S I L R n (Kq (some (.int v)) S I L R n) := by
  refine C.of (o := [some (.ref (e_b E + t)), some (.int p1), some (.int p2), some (.int p3), none, none, none, none]) (by decide) rfl (Nat.le_of_ble_eq_true rfl) ?_
  rw [f_Land_across] at h
  refine X.iload_1 (pc := 0) (by decide +kernel) ?_
  refine X.iload_3 (pc := 1) (by decide +kernel) ?_
  refine X.iconst (pc := 2) (i := 2) (v := 2) ic_2 (by decide +kernel) ?_
  obtain ⟨y2, hr3, h⟩ := bnd1_some h
  have hj4 : X E y_Land_across b_Land_across 8 (some .int) tg d 0 0 19 [some (.ref (e_b E + t)), some (.int p1), some (.int p2), some (.int p3), none, none, none, none] [.int y2, .int p1] S I L R n (Kq (some (.int v)) S I L R n) := by
    refine X.iadd (pc := 19) (by decide +kernel) ?_
    refine X.nameI (fun x6 hx6 => ?_)
    have h := lt_at hx6 h
    refine X.istore_4 (pc := 20) (by decide +kernel) (by decide) rfl ?_
    refine X.iload_2 (pc := 22) (by decide +kernel) ?_
    refine X.iload_3 (pc := 23) (by decide +kernel) ?_
    refine X.iconst (pc := 24) (i := 1) (v := 1) ic_1 (by decide +kernel) ?_
    obtain ⟨y8, hr9, h⟩ := bnd1_some h
    have hj10 : X E y_Land_across b_Land_across 8 (some .int) tg d 0 0 42 [some (.ref (e_b E + t)), some (.int p1), some (.int p2), none, some (.int x6), none, none, none] [.int y8, .int p2] S I L R n (Kq (some (.int v)) S I L R n) := by
      refine X.iadd (pc := 42) (by decide +kernel) ?_
      refine X.nameI (fun x12 hx12 => ?_)
      have h := lt_at hx12 h
      refine X.istore_5 (pc := 43) (by decide +kernel) (by decide) rfl ?_
      refine X.iload_4 (pc := 45) (by decide +kernel) ?_
      obtain ⟨y14, hr15, h⟩ := bnd1_some h
      have hj16 : X E y_Land_across b_Land_across 8 (some .int) tg d 0 0 78 [some (.ref (e_b E + t)), some (.int p1), some (.int p2), none, some (.int x6), some (.int x12), none, none] [.int y14] S I L R n (Kq (some (.int v)) S I L R n) := by
        refine X.istore_6 (pc := 78) (by decide +kernel) (by decide) rfl ?_
        refine X.iload_4 (pc := 80) (by decide +kernel) ?_
        refine X.aload_0 (pc := 82) (by decide +kernel) ?_
        refine X.getI (pc := 83) (k := 0) fw_Land_9 (by decide +kernel) (fun _ => rfl) hS ?_
        refine X.imul (pc := 86) (by decide +kernel) ?_
        refine X.iload_5 (pc := 87) (by decide +kernel) ?_
        refine X.iadd (pc := 89) (by decide +kernel) ?_
        refine X.nameI (fun x20 hx20 => ?_)
        have h := lt_at hx20 h
        refine X.istore_7 (pc := 90) (by decide +kernel) (by decide) rfl ?_
        refine X.iload_6 (pc := 92) (by decide +kernel) ?_
        obtain ⟨y22, hr23, h⟩ := bnd1_some h
        have hj24 : X E y_Land_across b_Land_across 8 (some .int) tg d 0 0 120 [none, none, none, none, none, none, none, none] [.int y22] S I L R n (Kq (some (.int v)) S I L R n) := by
          have j0 := Option.some.inj h
          subst j0
          exact X.ireturn (pc := 120) (by decide +kernel) ⟨_, rfl, rfl⟩ ⟨rfl, rfl, rfl, rfl, rfl, rfl⟩
        have h := hr23
        rcases ifb_some h with ⟨hq21, h⟩ | ⟨hq21, h⟩
        · refine X.if_eq_t (pc := 94) (off := 18) (tgt := 112) hq21 rfl (by decide +kernel) ?_
          refine X.iload_1 (pc := 112) (by decide +kernel) ?_
          refine X.aload_0 (pc := 113) (by decide +kernel) ?_
          refine X.getI (pc := 114) (k := 0) fw_Land_9 (by decide +kernel) (fun _ => rfl) hS ?_
          refine X.imul (pc := 117) (by decide +kernel) ?_
          refine X.iload_2 (pc := 118) (by decide +kernel) ?_
          refine X.iadd (pc := 119) (by decide +kernel) ?_
          have j0 := Option.some.inj h
          subst j0
          refine X.fgt (o' := [none, none, none, none, none, none, none, none]) trivial ?_
          exact hj24
        · refine X.if_eq_f (pc := 94) (off := 18) (tgt := 112) hq21 rfl (by decide +kernel) ?_
          refine X.aload_0 (pc := 97) (by decide +kernel) ?_
          refine X.iload_7 (pc := 98) (by decide +kernel) ?_
          obtain ⟨x25, hv26, h⟩ := bnd1_some h
          refine X.callVi (pc := 100) (nc := 0) (ns := 0) (c_Land_kindOf hE (dle hd (Nat.le_of_ble_eq_true rfl)) hS hv26) cv_Land_28 (by decide +kernel) hS ⟨by decide, rfl⟩ (ddd hd (Nat.le_of_ble_eq_true rfl)) rfl (Nat.le_of_ble_eq_true rfl) rfl rfl ?_
          refine X.iconst (pc := 103) (i := 2) (v := 2) ic_2 (by decide +kernel) ?_
          rcases ifb_some h with ⟨hq27, h⟩ | ⟨hq27, h⟩
          · refine X.icmp_eq_t (pc := 104) (off := 8) (tgt := 112) hq27 rfl (by decide +kernel) ?_
            refine X.iload_1 (pc := 112) (by decide +kernel) ?_
            refine X.aload_0 (pc := 113) (by decide +kernel) ?_
            refine X.getI (pc := 114) (k := 0) fw_Land_9 (by decide +kernel) (fun _ => rfl) hS ?_
            refine X.imul (pc := 117) (by decide +kernel) ?_
            refine X.iload_2 (pc := 118) (by decide +kernel) ?_
            refine X.iadd (pc := 119) (by decide +kernel) ?_
            have j0 := Option.some.inj h
            subst j0
            refine X.fgt (o' := [none, none, none, none, none, none, none, none]) trivial ?_
            exact hj24
          · refine X.icmp_eq_f (pc := 104) (off := 8) (tgt := 112) hq27 rfl (by decide +kernel) ?_
            refine X.iload_7 (pc := 107) (by decide +kernel) ?_
            refine X.goto (pc := 109) (off := 11) (tgt := 120) (by decide +kernel) rfl ?_
            have j0 := Option.some.inj h
            subst j0
            refine X.fgt (o' := [none, none, none, none, none, none, none, none]) trivial ?_
            exact hj24
      have h := hr15
      rcases ifb_some h with ⟨hq13, h⟩ | ⟨hq13, h⟩
      · refine X.if_lt_t (pc := 47) (off := 30) (tgt := 77) hq13 rfl (by decide +kernel) ?_
        refine X.iconst (pc := 77) (i := 0) (v := 0) ic_0 (by decide +kernel) ?_
        have j0 := Option.some.inj h
        subst j0
        exact hj16
      · refine X.if_lt_f (pc := 47) (off := 30) (tgt := 77) hq13 rfl (by decide +kernel) ?_
        refine X.iload_4 (pc := 50) (by decide +kernel) ?_
        refine X.aload_0 (pc := 52) (by decide +kernel) ?_
        refine X.getI (pc := 53) (k := 1) fw_Land_15 (by decide +kernel) (fun _ => rfl) hS ?_
        rcases ifb_some h with ⟨hq17, h⟩ | ⟨hq17, h⟩
        · refine X.icmp_ge_t (pc := 56) (off := 21) (tgt := 77) hq17 rfl (by decide +kernel) ?_
          refine X.iconst (pc := 77) (i := 0) (v := 0) ic_0 (by decide +kernel) ?_
          have j0 := Option.some.inj h
          subst j0
          exact hj16
        · refine X.icmp_ge_f (pc := 56) (off := 21) (tgt := 77) hq17 rfl (by decide +kernel) ?_
          refine X.iload_5 (pc := 59) (by decide +kernel) ?_
          rcases ifb_some h with ⟨hq18, h⟩ | ⟨hq18, h⟩
          · refine X.if_lt_t (pc := 61) (off := 16) (tgt := 77) hq18 rfl (by decide +kernel) ?_
            refine X.iconst (pc := 77) (i := 0) (v := 0) ic_0 (by decide +kernel) ?_
            have j0 := Option.some.inj h
            subst j0
            exact hj16
          · refine X.if_lt_f (pc := 61) (off := 16) (tgt := 77) hq18 rfl (by decide +kernel) ?_
            refine X.iload_5 (pc := 64) (by decide +kernel) ?_
            refine X.aload_0 (pc := 66) (by decide +kernel) ?_
            refine X.getI (pc := 67) (k := 0) fw_Land_9 (by decide +kernel) (fun _ => rfl) hS ?_
            rcases ifb_some h with ⟨hq19, h⟩ | ⟨hq19, h⟩
            · refine X.icmp_ge_t (pc := 70) (off := 7) (tgt := 77) hq19 rfl (by decide +kernel) ?_
              refine X.iconst (pc := 77) (i := 0) (v := 0) ic_0 (by decide +kernel) ?_
              have j0 := Option.some.inj h
              subst j0
              exact hj16
            · refine X.icmp_ge_f (pc := 70) (off := 7) (tgt := 77) hq19 rfl (by decide +kernel) ?_
              refine X.iconst (pc := 73) (i := 1) (v := 1) ic_1 (by decide +kernel) ?_
              refine X.goto (pc := 74) (off := 4) (tgt := 78) (by decide +kernel) rfl ?_
              have j0 := Option.some.inj h
              subst j0
              exact hj16
    have h := hr9
    rcases ifb_some h with ⟨hq7, h⟩ | ⟨hq7, h⟩
    · refine X.icmp_ne_f (pc := 25) (off := 7) (tgt := 32) hq7 rfl (by decide +kernel) ?_
      refine X.iconst (pc := 28) (i := 1) (v := 1) ic_1 (by decide +kernel) ?_
      refine X.goto (pc := 29) (off := 13) (tgt := 42) (by decide +kernel) rfl ?_
      have j0 := Option.some.inj h
      subst j0
      refine X.fgt (o' := [some (.ref (e_b E + t)), some (.int p1), some (.int p2), none, some (.int x6), none, none, none]) ⟨rfl, ⟨rfl, ⟨rfl, ⟨rfl, trivial⟩⟩⟩⟩ ?_
      exact hj10
    · refine X.icmp_ne_t (pc := 25) (off := 7) (tgt := 32) hq7 rfl (by decide +kernel) ?_
      refine X.iload_3 (pc := 32) (by decide +kernel) ?_
      refine X.iconst (pc := 33) (i := 3) (v := 3) ic_3 (by decide +kernel) ?_
      rcases ifb_some h with ⟨hq11, h⟩ | ⟨hq11, h⟩
      · refine X.icmp_ne_f (pc := 34) (off := 7) (tgt := 41) hq11 rfl (by decide +kernel) ?_
        refine X.iconst (pc := 37) (i := (-1)) (v := (-1)) ic_m1 (by decide +kernel) ?_
        refine X.goto (pc := 38) (off := 4) (tgt := 42) (by decide +kernel) rfl ?_
        have j0 := Option.some.inj h
        subst j0
        refine X.fgt (o' := [some (.ref (e_b E + t)), some (.int p1), some (.int p2), none, some (.int x6), none, none, none]) ⟨rfl, ⟨rfl, ⟨rfl, ⟨rfl, trivial⟩⟩⟩⟩ ?_
        exact hj10
      · refine X.icmp_ne_t (pc := 34) (off := 7) (tgt := 41) hq11 rfl (by decide +kernel) ?_
        refine X.iconst (pc := 41) (i := 0) (v := 0) ic_0 (by decide +kernel) ?_
        have j0 := Option.some.inj h
        subst j0
        refine X.fgt (o' := [some (.ref (e_b E + t)), some (.int p1), some (.int p2), none, some (.int x6), none, none, none]) ⟨rfl, ⟨rfl, ⟨rfl, ⟨rfl, trivial⟩⟩⟩⟩ ?_
        exact hj10
  have h := hr3
  rcases ifb_some h with ⟨hq1, h⟩ | ⟨hq1, h⟩
  · refine X.icmp_ne_f (pc := 3) (off := 7) (tgt := 10) hq1 rfl (by decide +kernel) ?_
    refine X.iconst (pc := 6) (i := 1) (v := 1) ic_1 (by decide +kernel) ?_
    refine X.goto (pc := 7) (off := 12) (tgt := 19) (by decide +kernel) rfl ?_
    have j0 := Option.some.inj h
    subst j0
    exact hj4
  · refine X.icmp_ne_t (pc := 3) (off := 7) (tgt := 10) hq1 rfl (by decide +kernel) ?_
    refine X.iload_3 (pc := 10) (by decide +kernel) ?_
    rcases ifb_some h with ⟨hq5, h⟩ | ⟨hq5, h⟩
    · refine X.if_ne_f (pc := 11) (off := 7) (tgt := 18) hq5 rfl (by decide +kernel) ?_
      refine X.iconst (pc := 14) (i := (-1)) (v := (-1)) ic_m1 (by decide +kernel) ?_
      refine X.goto (pc := 15) (off := 4) (tgt := 19) (by decide +kernel) rfl ?_
      have j0 := Option.some.inj h
      subst j0
      exact hj4
    · refine X.if_ne_t (pc := 11) (off := 7) (tgt := 18) hq5 rfl (by decide +kernel) ?_
      refine X.iconst (pc := 18) (i := 0) (v := 0) ic_0 (by decide +kernel) ?_
      have j0 := Option.some.inj h
      subst j0
      exact hj4
set_option maxRecDepth 100000 in
noncomputable def l_Land_survey_27 (S : MS) (R : MR) (v0 : Nat) (v1 : Int32) (v2 : Int32) : Nat → MI → Int32 → Option MI
  | 0, _, _ => none
  | f + 1, I, v3 =>
    ifb (4 ≤ v3)
      (some I)
      (lt ((((v1 * (I v0 0)) + v2) * 4) + v3) fun (x5 : Int32) =>
      bnd1 (ifb (144 ≤ x5)
          (some I)
          (bnd1 (R v0 3) fun b10 =>
          bnd1 (f_Land_across S R I v0 v1 v2 v3) fun x11 =>
          lt ((x11 * 4) + v3) fun (x13 : Int32) =>
          asrt ((S b10).1 = 20) <|
          asrt (vp_in x5 (S b10).2) <|
          lt (wI I b10 (Int32.toNatClampNeg x5) x13) fun (I16 : MI) =>
          some I16)) fun (I7 : MI) =>
      l_Land_survey_27 S R v0 v1 v2 f I7 (v3 + 1))
set_option maxRecDepth 100000 in
set_option maxHeartbeats 4000000 in
theorem xl_Land_survey_27 {E : Env} (hE : OKE E) {tg : Bool} {d : Nat} (hd : 2 ≤ d) {S : MS} {L : ML} {R : MR} {n : Nat} {v0 : Nat} {v1 : Int32} {v2 : Int32} {K : KT} :
    ∀ {f : Nat} {I : MI} {v3 : Int32} {I' : MI}, (S v0).1 = 2 → l_Land_survey_27 S R v0 v1 v2 f I v3 = some I' → X E y_Land_survey b_Land_survey 5 none tg d 0 0 78 [some (.ref (e_b E + v0)), some (.int v1), some (.int v2), none, none] [] S I' L R n K → X E y_Land_survey b_Land_survey 5 none tg d 0 0 27 [some (.ref (e_b E + v0)), some (.int v1), some (.int v2), some (.int v3), none] [] S I L R n K := by
  intro f
  induction f with
  | zero =>
    intro I v3 I' hS h hk
    rw [l_Land_survey_27] at h
    cases h
  | succ f ih =>
    intro I v3 I' hS h hk
    rw [l_Land_survey_27] at h
    refine X.iload_3 (pc := 27) (by decide +kernel) ?_
    refine X.iconst (pc := 28) (i := 4) (v := 4) ic_4 (by decide +kernel) ?_
    rcases ifb_some h with ⟨hq4, h⟩ | ⟨hq4, h⟩
    · refine X.icmp_ge_t (pc := 29) (off := 49) (tgt := 78) hq4 rfl (by decide +kernel) ?_
      have j0 := Option.some.inj h
      subst j0
      refine X.fgt (o' := [some (.ref (e_b E + v0)), some (.int v1), some (.int v2), none, none]) ⟨rfl, ⟨rfl, ⟨rfl, trivial⟩⟩⟩ ?_
      exact hk
    · refine X.icmp_ge_f (pc := 29) (off := 49) (tgt := 78) hq4 rfl (by decide +kernel) ?_
      refine X.iload_1 (pc := 32) (by decide +kernel) ?_
      refine X.aload_0 (pc := 33) (by decide +kernel) ?_
      refine X.getI (pc := 34) (k := 0) fw_Land_9 (by decide +kernel) (fun _ => rfl) hS ?_
      refine X.imul (pc := 37) (by decide +kernel) ?_
      refine X.iload_2 (pc := 38) (by decide +kernel) ?_
      refine X.iadd (pc := 39) (by decide +kernel) ?_
      refine X.iconst (pc := 40) (i := 4) (v := 4) ic_4 (by decide +kernel) ?_
      refine X.imul (pc := 41) (by decide +kernel) ?_
      refine X.iload_3 (pc := 42) (by decide +kernel) ?_
      refine X.iadd (pc := 43) (by decide +kernel) ?_
      refine X.nameI (fun x5 hx5 => ?_)
      have h := lt_at hx5 h
      refine X.istore_4 (pc := 44) (by decide +kernel) (by decide) rfl ?_
      refine X.iload_4 (pc := 46) (by decide +kernel) ?_
      refine X.sipush (pc := 48) (i := 144) (v := 144) sp_144 (by decide +kernel) ?_
      obtain ⟨I7, hr8, h⟩ := bnd1_some h
      have hj9 : X E y_Land_survey b_Land_survey 5 none tg d 0 0 72 [some (.ref (e_b E + v0)), some (.int v1), some (.int v2), some (.int v3), none] [] S I7 L R n K := by
        refine X.iinc_3 (pc := 72) (z := 1) (v := 1) ic_1 (by decide +kernel) (by decide) rfl ?_
        refine X.goto (pc := 75) (off := (-48)) (tgt := 27) (by decide +kernel) rfl ?_
        exact ih hS h hk
      have h := hr8
      rcases ifb_some h with ⟨hq6, h⟩ | ⟨hq6, h⟩
      · refine X.icmp_ge_t (pc := 51) (off := 21) (tgt := 72) hq6 rfl (by decide +kernel) ?_
        have j0 := Option.some.inj h
        subst j0
        refine X.fgt (o' := [some (.ref (e_b E + v0)), some (.int v1), some (.int v2), some (.int v3), none]) ⟨rfl, ⟨rfl, ⟨rfl, ⟨rfl, trivial⟩⟩⟩⟩ ?_
        exact hj9
      · refine X.icmp_ge_f (pc := 51) (off := 21) (tgt := 72) hq6 rfl (by decide +kernel) ?_
        refine X.aload_0 (pc := 54) (by decide +kernel) ?_
        obtain ⟨b10, hb10, h⟩ := bnd1_some h
        refine X.getR (pc := 55) (k := 3) fw_Land_22 (by decide +kernel) (fun _ => rfl) hS hb10 ?_
        refine X.iload_4 (pc := 58) (by decide +kernel) ?_
        refine X.aload_0 (pc := 60) (by decide +kernel) ?_
        refine X.iload_1 (pc := 61) (by decide +kernel) ?_
        refine X.iload_2 (pc := 62) (by decide +kernel) ?_
        refine X.iload_3 (pc := 63) (by decide +kernel) ?_
        obtain ⟨x11, hv12, h⟩ := bnd1_some h
        refine X.callVi (pc := 64) (nc := 0) (ns := 0) (c_Land_across hE (dle hd (Nat.le_of_ble_eq_true rfl)) hS hv12) cv_Land_55 (by decide +kernel) hS ⟨by decide, rfl⟩ (ddd hd (Nat.le_of_ble_eq_true rfl)) rfl (Nat.le_of_ble_eq_true rfl) rfl rfl ?_
        refine X.iconst (pc := 67) (i := 4) (v := 4) ic_4 (by decide +kernel) ?_
        refine X.imul (pc := 68) (by decide +kernel) ?_
        refine X.iload_3 (pc := 69) (by decide +kernel) ?_
        refine X.iadd (pc := 70) (by decide +kernel) ?_
        refine X.nameI (fun x13 hx13 => ?_)
        have h := lt_at hx13 h
        obtain ⟨hc14, h⟩ := asrt_some h
        obtain ⟨hi15, h⟩ := asrt_some h
        refine X.iastore (pc := 71) (by decide +kernel) hc14 hi15 ?_
        refine X.nameMI (fun I16 hI16 => ?_)
        have h := lt_at hI16 h
        have j0 := Option.some.inj h
        subst j0
        refine X.fgt (o' := [some (.ref (e_b E + v0)), some (.int v1), some (.int v2), some (.int v3), none]) ⟨rfl, ⟨rfl, ⟨rfl, ⟨rfl, trivial⟩⟩⟩⟩ ?_
        exact hj9
set_option maxRecDepth 100000 in
noncomputable def l_Land_survey_17 (g : Nat) (S : MS) (R : MR) (v0 : Nat) (v1 : Int32) : Nat → MI → Int32 → Option MI
  | 0, _, _ => none
  | f + 1, I, v2 =>
    ifb ((I v0 0) ≤ v2)
      (some I)
      (bnd1 (l_Land_survey_27 S R v0 v1 v2 g I 0) fun I17 =>
      l_Land_survey_17 g S R v0 v1 f I17 (v2 + 1))
set_option maxRecDepth 100000 in
set_option maxHeartbeats 4000000 in
theorem xl_Land_survey_17 {E : Env} (hE : OKE E) {tg : Bool} {d : Nat} (hd : 2 ≤ d) {g : Nat} {S : MS} {L : ML} {R : MR} {n : Nat} {v0 : Nat} {v1 : Int32} {K : KT} :
    ∀ {f : Nat} {I : MI} {v2 : Int32} {I' : MI}, (S v0).1 = 2 → l_Land_survey_17 g S R v0 v1 f I v2 = some I' → X E y_Land_survey b_Land_survey 5 none tg d 0 0 84 [some (.ref (e_b E + v0)), some (.int v1), none, none, none] [] S I' L R n K → X E y_Land_survey b_Land_survey 5 none tg d 0 0 17 [some (.ref (e_b E + v0)), some (.int v1), some (.int v2), none, none] [] S I L R n K := by
  intro f
  induction f with
  | zero =>
    intro I v2 I' hS h hk
    rw [l_Land_survey_17] at h
    cases h
  | succ f ih =>
    intro I v2 I' hS h hk
    rw [l_Land_survey_17] at h
    refine X.iload_2 (pc := 17) (by decide +kernel) ?_
    refine X.aload_0 (pc := 18) (by decide +kernel) ?_
    refine X.getI (pc := 19) (k := 0) fw_Land_9 (by decide +kernel) (fun _ => rfl) hS ?_
    rcases ifb_some h with ⟨hq3, h⟩ | ⟨hq3, h⟩
    · refine X.icmp_ge_t (pc := 22) (off := 62) (tgt := 84) hq3 rfl (by decide +kernel) ?_
      have j0 := Option.some.inj h
      subst j0
      refine X.fgt (o' := [some (.ref (e_b E + v0)), some (.int v1), none, none, none]) ⟨rfl, ⟨rfl, trivial⟩⟩ ?_
      exact hk
    · refine X.icmp_ge_f (pc := 22) (off := 62) (tgt := 84) hq3 rfl (by decide +kernel) ?_
      refine X.iconst (pc := 25) (i := 0) (v := 0) ic_0 (by decide +kernel) ?_
      refine X.istore_3 (pc := 26) (by decide +kernel) (by decide) rfl ?_
      obtain ⟨I17, hv18, h⟩ := bnd1_some h
      refine xl_Land_survey_27 hE hd hS hv18 ?_
      refine X.iinc_2 (pc := 78) (z := 1) (v := 1) ic_1 (by decide +kernel) (by decide) rfl ?_
      refine X.goto (pc := 81) (off := (-64)) (tgt := 17) (by decide +kernel) rfl ?_
      exact ih hS h hk
set_option maxRecDepth 100000 in
noncomputable def l_Land_survey_7 (g : Nat) (S : MS) (R : MR) (v0 : Nat) : Nat → MI → Int32 → Option MI
  | 0, _, _ => none
  | f + 1, I, v1 =>
    ifb ((I v0 1) ≤ v1)
      (some I)
      (bnd1 (l_Land_survey_17 g S R v0 v1 g I 0) fun I19 =>
      l_Land_survey_7 g S R v0 f I19 (v1 + 1))
set_option maxRecDepth 100000 in
set_option maxHeartbeats 4000000 in
theorem xl_Land_survey_7 {E : Env} (hE : OKE E) {tg : Bool} {d : Nat} (hd : 2 ≤ d) {g : Nat} {S : MS} {L : ML} {R : MR} {n : Nat} {v0 : Nat} {K : KT} :
    ∀ {f : Nat} {I : MI} {v1 : Int32} {I' : MI}, (S v0).1 = 2 → l_Land_survey_7 g S R v0 f I v1 = some I' → X E y_Land_survey b_Land_survey 5 none tg d 0 0 90 [none, none, none, none, none] [] S I' L R n K → X E y_Land_survey b_Land_survey 5 none tg d 0 0 7 [some (.ref (e_b E + v0)), some (.int v1), none, none, none] [] S I L R n K := by
  intro f
  induction f with
  | zero =>
    intro I v1 I' hS h hk
    rw [l_Land_survey_7] at h
    cases h
  | succ f ih =>
    intro I v1 I' hS h hk
    rw [l_Land_survey_7] at h
    refine X.iload_1 (pc := 7) (by decide +kernel) ?_
    refine X.aload_0 (pc := 8) (by decide +kernel) ?_
    refine X.getI (pc := 9) (k := 1) fw_Land_15 (by decide +kernel) (fun _ => rfl) hS ?_
    rcases ifb_some h with ⟨hq2, h⟩ | ⟨hq2, h⟩
    · refine X.icmp_ge_t (pc := 12) (off := 78) (tgt := 90) hq2 rfl (by decide +kernel) ?_
      have j0 := Option.some.inj h
      subst j0
      refine X.fgt (o' := [none, none, none, none, none]) trivial ?_
      exact hk
    · refine X.icmp_ge_f (pc := 12) (off := 78) (tgt := 90) hq2 rfl (by decide +kernel) ?_
      refine X.iconst (pc := 15) (i := 0) (v := 0) ic_0 (by decide +kernel) ?_
      refine X.istore_2 (pc := 16) (by decide +kernel) (by decide) rfl ?_
      obtain ⟨I19, hv20, h⟩ := bnd1_some h
      refine xl_Land_survey_17 hE hd hS hv20 ?_
      refine X.iinc_1 (pc := 84) (z := 1) (v := 1) ic_1 (by decide +kernel) (by decide) rfl ?_
      refine X.goto (pc := 87) (off := (-80)) (tgt := 7) (by decide +kernel) rfl ?_
      exact ih hS h hk
set_option maxRecDepth 100000 in
noncomputable def f_Land_survey (g : Nat) (S : MS) (R : MR) (I : MI) (t : Nat) : Option MI :=
  lt (wI I t 5 0) fun (I1 : MI) =>
  bnd1 (l_Land_survey_7 g S R t g I1 0) fun I21 =>
  some I21
set_option maxRecDepth 100000 in
set_option maxHeartbeats 4000000 in
theorem c_Land_survey {E : Env} (hE : OKE E) {tg : Bool} {d : Nat} (hd : 2 ≤ d) {g : Nat} {S : MS} {I : MI} {L : ML} {R : MR} {n : Nat} {t : Nat} {I' : MI} (hS : (S t).1 = 2) (h : f_Land_survey g S R I t = some I') : C E y_Land_survey b_Land_survey 5 none tg d 0 0 [.ref (e_b E + t)] S I L R n (Kq none S I' L R n) := by
  refine C.of (o := [some (.ref (e_b E + t)), none, none, none, none]) (by decide) rfl (Nat.le_of_ble_eq_true rfl) ?_
  rw [f_Land_survey] at h
  refine X.aload_0 (pc := 0) (by decide +kernel) ?_
  refine X.iconst (pc := 1) (i := 0) (v := 0) ic_0 (by decide +kernel) ?_
  refine X.putZ (pc := 2) (k := 5) fw_Land_51 (by decide +kernel) rfl rfl hS (Or.inl rfl) ?_
  refine X.nameMI (fun I1 hI1 => ?_)
  have h := lt_at hI1 h
  refine X.iconst (pc := 5) (i := 0) (v := 0) ic_0 (by decide +kernel) ?_
  refine X.istore_1 (pc := 6) (by decide +kernel) (by decide) rfl ?_
  obtain ⟨I21, hv22, h⟩ := bnd1_some h
  refine xl_Land_survey_7 hE hd hS hv22 ?_
  have j0 := Option.some.inj h
  subst j0
  exact X.vreturn (pc := 90) (by decide +kernel) rfl ⟨rfl, rfl, rfl, rfl, rfl, rfl⟩
set_option maxRecDepth 100000 in
noncomputable def l_Land_learn_14 (S : MS) (R : MR) (v0 : Nat) (v1 : Nat) : Nat → MI → Int32 → Int32 → Option MI
  | 0, _, _, _ => none
  | f + 1, I, v2, v3 =>
    asrt ((S v1).1 = 8) <|
    bnd1 (f_Signs_length S I v1) fun x4 =>
    ifb (x4 ≤ v3)
      (some I)
      (bnd1 (f_Signs_at S R I v1 v3) fun x7 =>
      bnd1 (f_Land_kindTold x7) fun x9 =>
      bnd2 (ifb (x9 = (-1))
          (lt ((I v0 1) + 1) fun (x16 : Int32) =>
          lt (wI I v0 1 x16) fun (I17 : MI) =>
          lt (wI I17 v0 0 0) fun (I18 : MI) =>
          some (v2, I18))
          (ifb (36 ≤ v2)
            (some (v2, I))
            (bnd1 (R v0 2) fun b20 =>
            asrt ((S b20).1 = 20) <|
            asrt (vp_in v2 (S b20).2) <|
            lt (wI I b20 (Int32.toNatClampNeg v2) x9) fun (I23 : MI) =>
            lt ((I23 v0 0) + 1) fun (x24 : Int32) =>
            lt (wI I23 v0 0 x24) fun (I25 : MI) =>
            some (v2 + 1, I25)))) fun (z12 : Int32) (I13 : MI) =>
      l_Land_learn_14 S R v0 v1 f I13 z12 (v3 + 1))
set_option maxRecDepth 100000 in
set_option maxHeartbeats 4000000 in
theorem xl_Land_learn_14 {E : Env} (hE : OKE E) {tg : Bool} {d : Nat} (hd : 3 ≤ d) {S : MS} {L : ML} {R : MR} {n : Nat} {v0 : Nat} {v1 : Nat} {K : KT} :
    ∀ {f : Nat} {I : MI} {v2 : Int32} {v3 : Int32} {I' : MI}, (S v0).1 = 2 → l_Land_learn_14 S R v0 v1 f I v2 v3 = some I' → X E y_Land_learn b_Land_learn 5 none tg d 0 0 89 [some (.ref (e_b E + v0)), none, none, none, none] [] S I' L R n K → X E y_Land_learn b_Land_learn 5 none tg d 0 0 14 [some (.ref (e_b E + v0)), some (.ref (e_b E + v1)), some (.int v2), some (.int v3), none] [] S I L R n K := by
  intro f
  induction f with
  | zero =>
    intro I v2 v3 I' hS h hk
    rw [l_Land_learn_14] at h
    cases h
  | succ f ih =>
    intro I v2 v3 I' hS h hk
    rw [l_Land_learn_14] at h
    refine X.iload_3 (pc := 14) (by decide +kernel) ?_
    refine X.aload_1 (pc := 15) (by decide +kernel) ?_
    obtain ⟨hc3, h⟩ := asrt_some h
    obtain ⟨x4, hv5, h⟩ := bnd1_some h
    refine X.callVi (pc := 16) (nc := 0) (ns := 0) (c_Signs_length hE (dle hd (Nat.le_of_ble_eq_true rfl)) hc3 hv5) cv_Land_35 (by decide +kernel) hc3 ⟨by decide, rfl⟩ (ddd hd (Nat.le_of_ble_eq_true rfl)) rfl (Nat.le_of_ble_eq_true rfl) rfl rfl ?_
    rcases ifb_some h with ⟨hq6, h⟩ | ⟨hq6, h⟩
    · refine X.icmp_ge_t (pc := 19) (off := 70) (tgt := 89) hq6 rfl (by decide +kernel) ?_
      have j0 := Option.some.inj h
      subst j0
      refine X.fgt (o' := [some (.ref (e_b E + v0)), none, none, none, none]) ⟨rfl, trivial⟩ ?_
      exact hk
    · refine X.icmp_ge_f (pc := 19) (off := 70) (tgt := 89) hq6 rfl (by decide +kernel) ?_
      refine X.aload_1 (pc := 22) (by decide +kernel) ?_
      refine X.iload_3 (pc := 23) (by decide +kernel) ?_
      obtain ⟨x7, hv8, h⟩ := bnd1_some h
      refine X.callVi (pc := 24) (nc := 0) (ns := 0) (c_Signs_at hE (dle hd (Nat.le_of_ble_eq_true rfl)) hc3 hv8) cv_Land_41 (by decide +kernel) hc3 ⟨by decide, rfl⟩ (ddd hd (Nat.le_of_ble_eq_true rfl)) rfl (Nat.le_of_ble_eq_true rfl) rfl rfl ?_
      obtain ⟨x9, hv10, h⟩ := bnd1_some h
      refine X.callSi (pc := 27) (nc := 0) (ns := 0) (c_Land_kindTold hE (dle hd (Nat.le_of_ble_eq_true rfl)) hv10) cv_Land_44 (by decide +kernel) (ddd hd (Nat.le_of_ble_eq_true rfl)) rfl (Nat.le_of_ble_eq_true rfl) rfl rfl ?_
      refine X.istore_4 (pc := 30) (by decide +kernel) (by decide) rfl ?_
      refine X.iload_4 (pc := 32) (by decide +kernel) ?_
      refine X.iconst (pc := 34) (i := (-1)) (v := (-1)) ic_m1 (by decide +kernel) ?_
      obtain ⟨z12, I13, hr14, h⟩ := bnd2_some h
      have hj15 : X E y_Land_learn b_Land_learn 5 none tg d 0 0 83 [some (.ref (e_b E + v0)), some (.ref (e_b E + v1)), some (.int z12), some (.int v3), none] [] S I13 L R n K := by
        refine X.iinc_3 (pc := 83) (z := 1) (v := 1) ic_1 (by decide +kernel) (by decide) rfl ?_
        refine X.goto (pc := 86) (off := (-72)) (tgt := 14) (by decide +kernel) rfl ?_
        exact ih hS h hk
      have h := hr14
      rcases ifb_some h with ⟨hq11, h⟩ | ⟨hq11, h⟩
      · refine X.icmp_ne_f (pc := 35) (off := 21) (tgt := 56) hq11 rfl (by decide +kernel) ?_
        refine X.aload_0 (pc := 38) (by decide +kernel) ?_
        refine X.dupr (pc := 39) (by decide +kernel) ?_
        refine X.getI (pc := 40) (k := 1) fw_Land_15 (by decide +kernel) (fun _ => rfl) hS ?_
        refine X.iconst (pc := 43) (i := 1) (v := 1) ic_1 (by decide +kernel) ?_
        refine X.iadd (pc := 44) (by decide +kernel) ?_
        refine X.nameI (fun x16 hx16 => ?_)
        have h := lt_at hx16 h
        refine X.putI (pc := 45) (k := 1) fw_Land_15 (by decide +kernel) rfl rfl hS ?_
        refine X.nameMI (fun I17 hI17 => ?_)
        have h := lt_at hI17 h
        refine X.aload_0 (pc := 48) (by decide +kernel) ?_
        refine X.iconst (pc := 49) (i := 0) (v := 0) ic_0 (by decide +kernel) ?_
        refine X.putI (pc := 50) (k := 0) fw_Land_9 (by decide +kernel) rfl rfl hS ?_
        refine X.nameMI (fun I18 hI18 => ?_)
        have h := lt_at hI18 h
        refine X.goto (pc := 53) (off := 30) (tgt := 83) (by decide +kernel) rfl ?_
        have j0 := Option.some.inj h
        obtain ⟨i0, j1⟩ := Prod.mk.inj j0
        subst i0
        subst j1
        refine X.fgt (o' := [some (.ref (e_b E + v0)), some (.ref (e_b E + v1)), some (.int v2), some (.int v3), none]) ⟨rfl, ⟨rfl, ⟨rfl, ⟨rfl, trivial⟩⟩⟩⟩ ?_
        exact hj15
      · refine X.icmp_ne_t (pc := 35) (off := 21) (tgt := 56) hq11 rfl (by decide +kernel) ?_
        refine X.iload_2 (pc := 56) (by decide +kernel) ?_
        refine X.bipush (pc := 57) (i := 36) (v := 36) bp_36 (by decide +kernel) ?_
        rcases ifb_some h with ⟨hq19, h⟩ | ⟨hq19, h⟩
        · refine X.icmp_ge_t (pc := 59) (off := 24) (tgt := 83) hq19 rfl (by decide +kernel) ?_
          have j0 := Option.some.inj h
          obtain ⟨i0, j1⟩ := Prod.mk.inj j0
          subst i0
          subst j1
          refine X.fgt (o' := [some (.ref (e_b E + v0)), some (.ref (e_b E + v1)), some (.int v2), some (.int v3), none]) ⟨rfl, ⟨rfl, ⟨rfl, ⟨rfl, trivial⟩⟩⟩⟩ ?_
          exact hj15
        · refine X.icmp_ge_f (pc := 59) (off := 24) (tgt := 83) hq19 rfl (by decide +kernel) ?_
          refine X.aload_0 (pc := 62) (by decide +kernel) ?_
          obtain ⟨b20, hb20, h⟩ := bnd1_some h
          refine X.getR (pc := 63) (k := 2) fw_Land_18 (by decide +kernel) (fun _ => rfl) hS hb20 ?_
          refine X.iload_2 (pc := 66) (by decide +kernel) ?_
          refine X.iload_4 (pc := 67) (by decide +kernel) ?_
          obtain ⟨hc21, h⟩ := asrt_some h
          obtain ⟨hi22, h⟩ := asrt_some h
          refine X.iastore (pc := 69) (by decide +kernel) hc21 hi22 ?_
          refine X.nameMI (fun I23 hI23 => ?_)
          have h := lt_at hI23 h
          refine X.iinc_2 (pc := 70) (z := 1) (v := 1) ic_1 (by decide +kernel) (by decide) rfl ?_
          refine X.aload_0 (pc := 73) (by decide +kernel) ?_
          refine X.dupr (pc := 74) (by decide +kernel) ?_
          refine X.getI (pc := 75) (k := 0) fw_Land_9 (by decide +kernel) (fun _ => rfl) hS ?_
          refine X.iconst (pc := 78) (i := 1) (v := 1) ic_1 (by decide +kernel) ?_
          refine X.iadd (pc := 79) (by decide +kernel) ?_
          refine X.nameI (fun x24 hx24 => ?_)
          have h := lt_at hx24 h
          refine X.putI (pc := 80) (k := 0) fw_Land_9 (by decide +kernel) rfl rfl hS ?_
          refine X.nameMI (fun I25 hI25 => ?_)
          have h := lt_at hI25 h
          have j0 := Option.some.inj h
          obtain ⟨i0, j1⟩ := Prod.mk.inj j0
          subst i0
          subst j1
          refine X.fgt (o' := [some (.ref (e_b E + v0)), some (.ref (e_b E + v1)), some (.int (v2 + 1)), some (.int v3), none]) ⟨rfl, ⟨rfl, ⟨rfl, ⟨rfl, trivial⟩⟩⟩⟩ ?_
          exact hj15
set_option maxRecDepth 100000 in
noncomputable def f_Land_learn (g : Nat) (S : MS) (R : MR) (I : MI) (t : Nat) (p1 : Nat) : Option MI :=
  lt (wI I t 1 1) fun (I1 : MI) =>
  lt (wI I1 t 0 0) fun (I2 : MI) =>
  bnd1 (l_Land_learn_14 S R t p1 g I2 0 0) fun I26 =>
  bnd1 (f_Land_survey g S R I26 t) fun I28 =>
  some I28
set_option maxRecDepth 100000 in
set_option maxHeartbeats 4000000 in
theorem c_Land_learn {E : Env} (hE : OKE E) {tg : Bool} {d : Nat} (hd : 3 ≤ d) {g : Nat} {S : MS} {I : MI} {L : ML} {R : MR} {n : Nat} {t : Nat} {p1 : Nat} {I' : MI} (hS : (S t).1 = 2) (h : f_Land_learn g S R I t p1 = some I') : C E y_Land_learn b_Land_learn 5 none tg d 0 0 [.ref (e_b E + t), .ref (e_b E + p1)] S I L R n (Kq none S I' L R n) := by
  refine C.of (o := [some (.ref (e_b E + t)), some (.ref (e_b E + p1)), none, none, none]) (by decide) rfl (Nat.le_of_ble_eq_true rfl) ?_
  rw [f_Land_learn] at h
  refine X.iconst (pc := 0) (i := 0) (v := 0) ic_0 (by decide +kernel) ?_
  refine X.istore_2 (pc := 1) (by decide +kernel) (by decide) rfl ?_
  refine X.aload_0 (pc := 2) (by decide +kernel) ?_
  refine X.iconst (pc := 3) (i := 1) (v := 1) ic_1 (by decide +kernel) ?_
  refine X.putI (pc := 4) (k := 1) fw_Land_15 (by decide +kernel) rfl rfl hS ?_
  refine X.nameMI (fun I1 hI1 => ?_)
  have h := lt_at hI1 h
  refine X.aload_0 (pc := 7) (by decide +kernel) ?_
  refine X.iconst (pc := 8) (i := 0) (v := 0) ic_0 (by decide +kernel) ?_
  refine X.putI (pc := 9) (k := 0) fw_Land_9 (by decide +kernel) rfl rfl hS ?_
  refine X.nameMI (fun I2 hI2 => ?_)
  have h := lt_at hI2 h
  refine X.iconst (pc := 12) (i := 0) (v := 0) ic_0 (by decide +kernel) ?_
  refine X.istore_3 (pc := 13) (by decide +kernel) (by decide) rfl ?_
  obtain ⟨I26, hv27, h⟩ := bnd1_some h
  refine xl_Land_learn_14 hE hd hS hv27 ?_
  refine X.aload_0 (pc := 89) (by decide +kernel) ?_
  obtain ⟨I28, hv29, h⟩ := bnd1_some h
  refine X.callVv (pc := 90) (nc := 0) (ns := 0) (c_Land_survey hE (dle hd (Nat.le_of_ble_eq_true rfl)) hS hv29) cv_Land_32 (by decide +kernel) hS ⟨by decide, rfl⟩ (ddd hd (Nat.le_of_ble_eq_true rfl)) rfl (Nat.le_of_ble_eq_true rfl) rfl rfl ?_
  have j0 := Option.some.inj h
  subst j0
  exact X.vreturn (pc := 93) (by decide +kernel) rfl ⟨rfl, rfl, rfl, rfl, rfl, rfl⟩
set_option maxRecDepth 100000 in
noncomputable def f_Party_begin (S : MS) (I : MI) (t : Nat) (p1 : Int32) (p2 : Int32) : Option MI :=
  lt (wI I t 0 p1) fun (I1 : MI) =>
  lt (wI I1 t 1 p2) fun (I2 : MI) =>
  lt (wI I2 t 4 0) fun (I3 : MI) =>
  lt (wI I3 t 5 0) fun (I4 : MI) =>
  some I4
set_option maxRecDepth 100000 in
set_option maxHeartbeats 4000000 in
theorem c_Party_begin {E : Env} (hE : OKE E) {tg : Bool} {d : Nat} (hd : 0 ≤ d) {S : MS} {I : MI} {L : ML} {R : MR} {n : Nat} {t : Nat} {p1 : Int32} {p2 : Int32} {I' : MI} (hS : (S t).1 = 5) (h : f_Party_begin S I t p1 p2 = some I') : C E y_Party_begin b_Party_begin 3 none tg d 0 0 [.ref (e_b E + t), .int p1, .int p2] S I L R n (Kq none S I' L R n) := by
  refine C.of (o := [some (.ref (e_b E + t)), some (.int p1), some (.int p2)]) (by decide) rfl (Nat.le_of_ble_eq_true rfl) ?_
  rw [f_Party_begin] at h
  refine X.aload_0 (pc := 0) (by decide +kernel) ?_
  refine X.iload_1 (pc := 1) (by decide +kernel) ?_
  refine X.putI (pc := 2) (k := 0) fw_Party_28 (by decide +kernel) rfl rfl hS ?_
  refine X.nameMI (fun I1 hI1 => ?_)
  have h := lt_at hI1 h
  refine X.aload_0 (pc := 5) (by decide +kernel) ?_
  refine X.iload_2 (pc := 6) (by decide +kernel) ?_
  refine X.putI (pc := 7) (k := 1) fw_Party_31 (by decide +kernel) rfl rfl hS ?_
  refine X.nameMI (fun I2 hI2 => ?_)
  have h := lt_at hI2 h
  refine X.aload_0 (pc := 10) (by decide +kernel) ?_
  refine X.iconst (pc := 11) (i := 0) (v := 0) ic_0 (by decide +kernel) ?_
  refine X.putI (pc := 12) (k := 4) fw_Party_34 (by decide +kernel) rfl rfl hS ?_
  refine X.nameMI (fun I3 hI3 => ?_)
  have h := lt_at hI3 h
  refine X.aload_0 (pc := 15) (by decide +kernel) ?_
  refine X.iconst (pc := 16) (i := 0) (v := 0) ic_0 (by decide +kernel) ?_
  refine X.putI (pc := 17) (k := 5) fw_Party_37 (by decide +kernel) rfl rfl hS ?_
  refine X.nameMI (fun I4 hI4 => ?_)
  have h := lt_at hI4 h
  have j0 := Option.some.inj h
  subst j0
  exact X.vreturn (pc := 20) (by decide +kernel) rfl ⟨rfl, rfl, rfl, rfl, rfl, rfl⟩
set_option maxRecDepth 100000 in
noncomputable def l_Party_washTracks_4 (S : MS) (R : MR) (v0 : Nat) : Nat → MI → Int32 → Int32 → Option (Int32 × MI)
  | 0, _, _, _ => none
  | f + 1, I, v1, v2 =>
    ifb (36 ≤ v2)
      (some (v1, I))
      (bnd1 (R v0 6) fun b2 =>
      asrt ((S b2).1 = 20) <|
      asrt (vp_in v2 (S b2).2) <|
      bnd1 (ifb ((I b2 (Int32.toNatClampNeg v2)) = (-1))
          (some 0)
          (some 1)) fun (y6 : Int32) =>
      lt (v1 + y6) fun (x9 : Int32) =>
      asrt (vp_in v2 (S b2).2) <|
      lt (wI I b2 (Int32.toNatClampNeg v2) (-1)) fun (I11 : MI) =>
      l_Party_washTracks_4 S R v0 f I11 x9 (v2 + 1))
set_option maxRecDepth 100000 in
set_option maxHeartbeats 4000000 in
theorem xl_Party_washTracks_4 {E : Env} (hE : OKE E) {tg : Bool} {d : Nat} (hd : 0 ≤ d) {S : MS} {L : ML} {R : MR} {n : Nat} {v0 : Nat} {K : KT} :
    ∀ {f : Nat} {I : MI} {v1 : Int32} {v2 : Int32} {o1 : Int32} {I' : MI}, (S v0).1 = 5 → l_Party_washTracks_4 S R v0 f I v1 v2 = some (o1, I') → X E y_Party_washTracks b_Party_washTracks 3 (some .int) tg d 0 0 41 [none, some (.int o1), none] [] S I' L R n K → X E y_Party_washTracks b_Party_washTracks 3 (some .int) tg d 0 0 4 [some (.ref (e_b E + v0)), some (.int v1), some (.int v2)] [] S I L R n K := by
  intro f
  induction f with
  | zero =>
    intro I v1 v2 o1 I' hS h hk
    rw [l_Party_washTracks_4] at h
    cases h
  | succ f ih =>
    intro I v1 v2 o1 I' hS h hk
    rw [l_Party_washTracks_4] at h
    refine X.iload_2 (pc := 4) (by decide +kernel) ?_
    refine X.bipush (pc := 5) (i := 36) (v := 36) bp_36 (by decide +kernel) ?_
    rcases ifb_some h with ⟨hq1, h⟩ | ⟨hq1, h⟩
    · refine X.icmp_ge_t (pc := 7) (off := 34) (tgt := 41) hq1 rfl (by decide +kernel) ?_
      have j0 := Option.some.inj h
      obtain ⟨i0, j1⟩ := Prod.mk.inj j0
      subst i0
      subst j1
      refine X.fgt (o' := [none, some (.int v1), none]) ⟨rfl, trivial⟩ ?_
      exact hk
    · refine X.icmp_ge_f (pc := 7) (off := 34) (tgt := 41) hq1 rfl (by decide +kernel) ?_
      refine X.iload_1 (pc := 10) (by decide +kernel) ?_
      refine X.aload_0 (pc := 11) (by decide +kernel) ?_
      obtain ⟨b2, hb2, h⟩ := bnd1_some h
      refine X.getR (pc := 12) (k := 6) fw_Party_18 (by decide +kernel) (fun _ => rfl) hS hb2 ?_
      refine X.iload_2 (pc := 15) (by decide +kernel) ?_
      obtain ⟨hc4, h⟩ := asrt_some h
      obtain ⟨hi3, h⟩ := asrt_some h
      refine X.iaload (pc := 16) (by decide +kernel) hc4 hi3 ?_
      refine X.iconst (pc := 17) (i := (-1)) (v := (-1)) ic_m1 (by decide +kernel) ?_
      obtain ⟨y6, hr7, h⟩ := bnd1_some h
      have hj8 : X E y_Party_washTracks b_Party_washTracks 3 (some .int) tg d 0 0 26 [some (.ref (e_b E + v0)), none, some (.int v2)] [.int y6, .int v1] S I L R n K := by
        refine X.iadd (pc := 26) (by decide +kernel) ?_
        refine X.nameI (fun x9 hx9 => ?_)
        have h := lt_at hx9 h
        refine X.istore_1 (pc := 27) (by decide +kernel) (by decide) rfl ?_
        refine X.aload_0 (pc := 28) (by decide +kernel) ?_
        refine X.getR (pc := 29) (k := 6) fw_Party_18 (by decide +kernel) (fun _ => rfl) hS hb2 ?_
        refine X.iload_2 (pc := 32) (by decide +kernel) ?_
        refine X.iconst (pc := 33) (i := (-1)) (v := (-1)) ic_m1 (by decide +kernel) ?_
        obtain ⟨hi10, h⟩ := asrt_some h
        refine X.iastore (pc := 34) (by decide +kernel) hc4 hi10 ?_
        refine X.nameMI (fun I11 hI11 => ?_)
        have h := lt_at hI11 h
        refine X.iinc_2 (pc := 35) (z := 1) (v := 1) ic_1 (by decide +kernel) (by decide) rfl ?_
        refine X.goto (pc := 38) (off := (-34)) (tgt := 4) (by decide +kernel) rfl ?_
        exact ih hS h hk
      have h := hr7
      rcases ifb_some h with ⟨hq5, h⟩ | ⟨hq5, h⟩
      · refine X.icmp_ne_f (pc := 18) (off := 7) (tgt := 25) hq5 rfl (by decide +kernel) ?_
        refine X.iconst (pc := 21) (i := 0) (v := 0) ic_0 (by decide +kernel) ?_
        refine X.goto (pc := 22) (off := 4) (tgt := 26) (by decide +kernel) rfl ?_
        have j0 := Option.some.inj h
        subst j0
        refine X.fgt (o' := [some (.ref (e_b E + v0)), none, some (.int v2)]) ⟨rfl, ⟨rfl, trivial⟩⟩ ?_
        exact hj8
      · refine X.icmp_ne_t (pc := 18) (off := 7) (tgt := 25) hq5 rfl (by decide +kernel) ?_
        refine X.iconst (pc := 25) (i := 1) (v := 1) ic_1 (by decide +kernel) ?_
        have j0 := Option.some.inj h
        subst j0
        refine X.fgt (o' := [some (.ref (e_b E + v0)), none, some (.int v2)]) ⟨rfl, ⟨rfl, trivial⟩⟩ ?_
        exact hj8
set_option maxRecDepth 100000 in
noncomputable def f_Party_washTracks (g : Nat) (S : MS) (R : MR) (I : MI) (t : Nat) : Option (Int32 × MI) :=
  bnd2 (l_Party_washTracks_4 S R t g I 0 0) fun x12 I13 =>
  some (x12, I13)
set_option maxRecDepth 100000 in
set_option maxHeartbeats 4000000 in
theorem c_Party_washTracks {E : Env} (hE : OKE E) {tg : Bool} {d : Nat} (hd : 0 ≤ d) {g : Nat} {S : MS} {I : MI} {L : ML} {R : MR} {n : Nat} {t : Nat} {v : Int32} {I' : MI} (hS : (S t).1 = 5) (h : f_Party_washTracks g S R I t = some (v, I')) : C E y_Party_washTracks b_Party_washTracks 3 (some .int) tg d 0 0 [.ref (e_b E + t)] S I L R n (Kq (some (.int v)) S I' L R n) := by
  refine C.of (o := [some (.ref (e_b E + t)), none, none]) (by decide) rfl (Nat.le_of_ble_eq_true rfl) ?_
  rw [f_Party_washTracks] at h
  refine X.iconst (pc := 0) (i := 0) (v := 0) ic_0 (by decide +kernel) ?_
  refine X.istore_1 (pc := 1) (by decide +kernel) (by decide) rfl ?_
  refine X.iconst (pc := 2) (i := 0) (v := 0) ic_0 (by decide +kernel) ?_
  refine X.istore_2 (pc := 3) (by decide +kernel) (by decide) rfl ?_
  obtain ⟨x12, I13, hv14, h⟩ := bnd2_some h
  refine xl_Party_washTracks_4 hE hd hS hv14 ?_
  refine X.iload_1 (pc := 41) (by decide +kernel) ?_
  have j0 := Option.some.inj h
  obtain ⟨i0, j1⟩ := Prod.mk.inj j0
  subst i0
  subst j1
  exact X.ireturn (pc := 42) (by decide +kernel) ⟨_, rfl, rfl⟩ ⟨rfl, rfl, rfl, rfl, rfl, rfl⟩
set_option maxRecDepth 100000 in
noncomputable def f_Prints_forget (S : MS) (I : MI) (t : Nat) : Option (Int32 × MI) :=
  lt (I t 6) fun (x1 : Int32) =>
  lt (wI I t 6 0) fun (I2 : MI) =>
  some (x1, I2)
set_option maxRecDepth 100000 in
set_option maxHeartbeats 4000000 in
theorem c_Prints_forget {E : Env} (hE : OKE E) {tg : Bool} {d : Nat} (hd : 0 ≤ d) {S : MS} {I : MI} {L : ML} {R : MR} {n : Nat} {t : Nat} {v : Int32} {I' : MI} (hS : (S t).1 = 7) (h : f_Prints_forget S I t = some (v, I')) : C E y_Prints_forget b_Prints_forget 2 (some .int) tg d 0 0 [.ref (e_b E + t)] S I L R n (Kq (some (.int v)) S I' L R n) := by
  refine C.of (o := [some (.ref (e_b E + t)), none]) (by decide) rfl (Nat.le_of_ble_eq_true rfl) ?_
  rw [f_Prints_forget] at h
  refine X.aload_0 (pc := 0) (by decide +kernel) ?_
  refine X.getI (pc := 1) (k := 6) fw_Prints_29 (by decide +kernel) (fun _ => rfl) hS ?_
  refine X.nameI (fun x1 hx1 => ?_)
  have h := lt_at hx1 h
  refine X.istore_1 (pc := 4) (by decide +kernel) (by decide) rfl ?_
  refine X.aload_0 (pc := 5) (by decide +kernel) ?_
  refine X.iconst (pc := 6) (i := 0) (v := 0) ic_0 (by decide +kernel) ?_
  refine X.putI (pc := 7) (k := 6) fw_Prints_29 (by decide +kernel) rfl rfl hS ?_
  refine X.nameMI (fun I2 hI2 => ?_)
  have h := lt_at hI2 h
  refine X.iload_1 (pc := 10) (by decide +kernel) ?_
  have j0 := Option.some.inj h
  obtain ⟨i0, j1⟩ := Prod.mk.inj j0
  subst i0
  subst j1
  exact X.ireturn (pc := 11) (by decide +kernel) ⟨_, rfl, rfl⟩ ⟨rfl, rfl, rfl, rfl, rfl, rfl⟩
set_option maxRecDepth 100000 in
noncomputable def f_Past_forget (S : MS) (I : MI) (t : Nat) : Option MI :=
  lt (wI I t 2 0) fun (I1 : MI) =>
  some I1
set_option maxRecDepth 100000 in
set_option maxHeartbeats 4000000 in
theorem c_Past_forget {E : Env} (hE : OKE E) {tg : Bool} {d : Nat} (hd : 0 ≤ d) {S : MS} {I : MI} {L : ML} {R : MR} {n : Nat} {t : Nat} {I' : MI} (hS : (S t).1 = 6) (h : f_Past_forget S I t = some I') : C E y_Past_forget b_Past_forget 1 none tg d 0 0 [.ref (e_b E + t)] S I L R n (Kq none S I' L R n) := by
  refine C.of (o := [some (.ref (e_b E + t))]) (by decide) rfl (Nat.le_of_ble_eq_true rfl) ?_
  rw [f_Past_forget] at h
  refine X.aload_0 (pc := 0) (by decide +kernel) ?_
  refine X.iconst (pc := 1) (i := 0) (v := 0) ic_0 (by decide +kernel) ?_
  refine X.putI (pc := 2) (k := 2) fw_Past_26 (by decide +kernel) rfl rfl hS ?_
  refine X.nameMI (fun I1 hI1 => ?_)
  have h := lt_at hI1 h
  have j0 := Option.some.inj h
  subst j0
  exact X.vreturn (pc := 5) (by decide +kernel) rfl ⟨rfl, rfl, rfl, rfl, rfl, rfl⟩
set_option maxRecDepth 100000 in
noncomputable def f_Signs_empty (S : MS) (I : MI) (t : Nat) : Option MI :=
  lt (wI I t 1 0) fun (I1 : MI) =>
  some I1
set_option maxRecDepth 100000 in
set_option maxHeartbeats 4000000 in
theorem c_Signs_empty {E : Env} (hE : OKE E) {tg : Bool} {d : Nat} (hd : 0 ≤ d) {S : MS} {I : MI} {L : ML} {R : MR} {n : Nat} {t : Nat} {I' : MI} (hS : (S t).1 = 8) (h : f_Signs_empty S I t = some I') : C E y_Signs_empty b_Signs_empty 1 none tg d 0 0 [.ref (e_b E + t)] S I L R n (Kq none S I' L R n) := by
  refine C.of (o := [some (.ref (e_b E + t))]) (by decide) rfl (Nat.le_of_ble_eq_true rfl) ?_
  rw [f_Signs_empty] at h
  refine X.aload_0 (pc := 0) (by decide +kernel) ?_
  refine X.iconst (pc := 1) (i := 0) (v := 0) ic_0 (by decide +kernel) ?_
  refine X.putI (pc := 2) (k := 1) fw_Signs_15 (by decide +kernel) rfl rfl hS ?_
  refine X.nameMI (fun I1 hI1 => ?_)
  have h := lt_at hI1 h
  have j0 := Option.some.inj h
  subst j0
  exact X.vreturn (pc := 5) (by decide +kernel) rfl ⟨rfl, rfl, rfl, rfl, rfl, rfl⟩
set_option maxRecDepth 100000 in
noncomputable def f_Land_size (S : MS) (I : MI) (t : Nat) : Option Int32 :=
  lt ((I t 0) * (I t 1)) fun (x1 : Int32) =>
  some x1
set_option maxRecDepth 100000 in
set_option maxHeartbeats 4000000 in
theorem c_Land_size {E : Env} (hE : OKE E) {tg : Bool} {d : Nat} (hd : 0 ≤ d) {S : MS} {I : MI} {L : ML} {R : MR} {n : Nat} {t : Nat} {v : Int32} (hS : (S t).1 = 2) (h : f_Land_size S I t = some v) : C E y_Land_size b_Land_size 1 (some .int) tg d 0 0 [.ref (e_b E + t)] S I L R n (Kq (some (.int v)) S I L R n) := by
  refine C.of (o := [some (.ref (e_b E + t))]) (by decide) rfl (Nat.le_of_ble_eq_true rfl) ?_
  rw [f_Land_size] at h
  refine X.aload_0 (pc := 0) (by decide +kernel) ?_
  refine X.getI (pc := 1) (k := 0) fw_Land_9 (by decide +kernel) (fun _ => rfl) hS ?_
  refine X.aload_0 (pc := 4) (by decide +kernel) ?_
  refine X.getI (pc := 5) (k := 1) fw_Land_15 (by decide +kernel) (fun _ => rfl) hS ?_
  refine X.imul (pc := 8) (by decide +kernel) ?_
  refine X.nameI (fun x1 hx1 => ?_)
  have h := lt_at hx1 h
  have j0 := Option.some.inj h
  subst j0
  exact X.ireturn (pc := 9) (by decide +kernel) ⟨_, rfl, rfl⟩ ⟨rfl, rfl, rfl, rfl, rfl, rfl⟩
set_option maxRecDepth 100000 in
noncomputable def f_GWL_moor (g : Nat) (S : MS) (R : MR) (I : MI) (t : Nat) : Option (Int32 × MI) :=
  bnd1 (R t 2) fun b1 =>
  bnd1 (R t 0) fun b2 =>
  asrt ((S b1).1 = 2) <|
  bnd1 (f_Land_faultOf g S R I b1 b2) fun x4 =>
  bnd1 (ifb (x4 = (-1))
      (bnd1 (f_Land_learn g S R I b1 b2) fun I10 =>
      bnd1 (R t 3) fun b12 =>
      asrt ((S b12).1 = 5) <|
      bnd1 (f_Party_begin S I10 b12 0 0) fun I14 =>
      bnd2 (f_Party_washTracks g S R I14 b12) fun x16 I17 =>
      bnd1 (R t 17) fun b19 =>
      asrt ((S b19).1 = 7) <|
      bnd2 (f_Prints_forget S I17 b19) fun x21 I22 =>
      bnd1 (R t 4) fun b24 =>
      asrt ((S b24).1 = 6) <|
      bnd1 (f_Past_forget S I22 b24) fun I26 =>
      bnd1 (R t 13) fun b28 =>
      bnd1 (f_JArr_fill g S I26 b28 (-1)) fun I29 =>
      some I29)
      (some I)) fun (I7 : MI) =>
  asrt ((S b2).1 = 8) <|
  bnd1 (f_Signs_empty S I7 b2) fun I32 =>
  bnd1 (ifb (x4 = (-1))
      (bnd1 (f_Land_size S I32 b1) fun x38 =>
      some x38)
      (some ((-1) - x4))) fun (y35 : Int32) =>
  some (y35, I32)
set_option maxRecDepth 100000 in
set_option maxHeartbeats 4000000 in
theorem c_GWL_moor {E : Env} (hE : OKE E) {tg : Bool} {d : Nat} (hd : 4 ≤ d) {g : Nat} {S : MS} {I : MI} {L : ML} {R : MR} {n : Nat} {t : Nat} {v : Int32} {I' : MI} (hS : (S t).1 = 11) (h : f_GWL_moor g S R I t = some (v, I')) : C E y_GWL_moor b_GWL_moor 2 (some .int) tg d 0 0 [.ref (e_b E + t)] S I L R n (Kq (some (.int v)) S I' L R n) := by
  refine C.of (o := [some (.ref (e_b E + t)), none]) (by decide) rfl (Nat.le_of_ble_eq_true rfl) ?_
  rw [f_GWL_moor] at h
  refine X.aload_0 (pc := 0) (by decide +kernel) ?_
  obtain ⟨b1, hb1, h⟩ := bnd1_some h
  refine X.getR (pc := 1) (k := 2) fw_GWL_83 (by decide +kernel) (fun _ => rfl) hS hb1 ?_
  refine X.aload_0 (pc := 4) (by decide +kernel) ?_
  obtain ⟨b2, hb2, h⟩ := bnd1_some h
  refine X.getR (pc := 5) (k := 0) fw_GWL_10 (by decide +kernel) (fun _ => rfl) hS hb2 ?_
  obtain ⟨hc3, h⟩ := asrt_some h
  obtain ⟨x4, hv5, h⟩ := bnd1_some h
  refine X.callVi (pc := 8) (nc := 0) (ns := 0) (c_Land_faultOf hE (dle hd (Nat.le_of_ble_eq_true rfl)) hc3 hv5) cv_GWL_130 (by decide +kernel) hc3 ⟨by decide, rfl⟩ (ddd hd (Nat.le_of_ble_eq_true rfl)) rfl (Nat.le_of_ble_eq_true rfl) rfl rfl ?_
  refine X.istore_1 (pc := 11) (by decide +kernel) (by decide) rfl ?_
  refine X.iload_1 (pc := 12) (by decide +kernel) ?_
  refine X.iconst (pc := 13) (i := (-1)) (v := (-1)) ic_m1 (by decide +kernel) ?_
  obtain ⟨I7, hr8, h⟩ := bnd1_some h
  have hj9 : X E y_GWL_moor b_GWL_moor 2 (some .int) tg d 0 0 68 [some (.ref (e_b E + t)), some (.int x4)] [] S I7 L R n (Kq (some (.int v)) S I' L R n) := by
    refine X.aload_0 (pc := 68) (by decide +kernel) ?_
    refine X.getR (pc := 69) (k := 0) fw_GWL_10 (by decide +kernel) (fun _ => rfl) hS hb2 ?_
    obtain ⟨hc31, h⟩ := asrt_some h
    obtain ⟨I32, hv33, h⟩ := bnd1_some h
    refine X.callVv (pc := 72) (nc := 0) (ns := 0) (c_Signs_empty hE (dle hd (Nat.le_of_ble_eq_true rfl)) hc31 hv33) cv_GWL_156 (by decide +kernel) hc31 ⟨by decide, rfl⟩ (ddd hd (Nat.le_of_ble_eq_true rfl)) rfl (Nat.le_of_ble_eq_true rfl) rfl rfl ?_
    refine X.iload_1 (pc := 75) (by decide +kernel) ?_
    refine X.iconst (pc := 76) (i := (-1)) (v := (-1)) ic_m1 (by decide +kernel) ?_
    obtain ⟨y35, hr36, h⟩ := bnd1_some h
    have hj37 : X E y_GWL_moor b_GWL_moor 2 (some .int) tg d 0 0 93 [none, none] [.int y35] S I32 L R n (Kq (some (.int v)) S I' L R n) := by
      have j0 := Option.some.inj h
      obtain ⟨i0, j1⟩ := Prod.mk.inj j0
      subst i0
      subst j1
      exact X.ireturn (pc := 93) (by decide +kernel) ⟨_, rfl, rfl⟩ ⟨rfl, rfl, rfl, rfl, rfl, rfl⟩
    have h := hr36
    rcases ifb_some h with ⟨hq34, h⟩ | ⟨hq34, h⟩
    · refine X.icmp_ne_f (pc := 77) (off := 13) (tgt := 90) hq34 rfl (by decide +kernel) ?_
      refine X.aload_0 (pc := 80) (by decide +kernel) ?_
      refine X.getR (pc := 81) (k := 2) fw_GWL_83 (by decide +kernel) (fun _ => rfl) hS hb1 ?_
      obtain ⟨x38, hv39, h⟩ := bnd1_some h
      refine X.callVi (pc := 84) (nc := 0) (ns := 0) (c_Land_size hE (dle hd (Nat.le_of_ble_eq_true rfl)) hc3 hv39) cv_GWL_159 (by decide +kernel) hc3 ⟨by decide, rfl⟩ (ddd hd (Nat.le_of_ble_eq_true rfl)) rfl (Nat.le_of_ble_eq_true rfl) rfl rfl ?_
      refine X.goto (pc := 87) (off := 6) (tgt := 93) (by decide +kernel) rfl ?_
      have j0 := Option.some.inj h
      subst j0
      refine X.fgt (o' := [none, none]) trivial ?_
      exact hj37
    · refine X.icmp_ne_t (pc := 77) (off := 13) (tgt := 90) hq34 rfl (by decide +kernel) ?_
      refine X.iconst (pc := 90) (i := (-1)) (v := (-1)) ic_m1 (by decide +kernel) ?_
      refine X.iload_1 (pc := 91) (by decide +kernel) ?_
      refine X.isub (pc := 92) (by decide +kernel) ?_
      have j0 := Option.some.inj h
      subst j0
      refine X.fgt (o' := [none, none]) trivial ?_
      exact hj37
  have h := hr8
  rcases ifb_some h with ⟨hq6, h⟩ | ⟨hq6, h⟩
  · refine X.icmp_ne_f (pc := 14) (off := 54) (tgt := 68) hq6 rfl (by decide +kernel) ?_
    refine X.aload_0 (pc := 17) (by decide +kernel) ?_
    refine X.getR (pc := 18) (k := 2) fw_GWL_83 (by decide +kernel) (fun _ => rfl) hS hb1 ?_
    refine X.aload_0 (pc := 21) (by decide +kernel) ?_
    refine X.getR (pc := 22) (k := 0) fw_GWL_10 (by decide +kernel) (fun _ => rfl) hS hb2 ?_
    obtain ⟨I10, hv11, h⟩ := bnd1_some h
    refine X.callVv (pc := 25) (nc := 0) (ns := 0) (c_Land_learn hE (dle hd (Nat.le_of_ble_eq_true rfl)) hc3 hv11) cv_GWL_134 (by decide +kernel) hc3 ⟨by decide, rfl⟩ (ddd hd (Nat.le_of_ble_eq_true rfl)) rfl (Nat.le_of_ble_eq_true rfl) rfl rfl ?_
    refine X.aload_0 (pc := 28) (by decide +kernel) ?_
    obtain ⟨b12, hb12, h⟩ := bnd1_some h
    refine X.getR (pc := 29) (k := 3) fw_GWL_87 (by decide +kernel) (fun _ => rfl) hS hb12 ?_
    refine X.iconst (pc := 32) (i := 0) (v := 0) ic_0 (by decide +kernel) ?_
    refine X.iconst (pc := 33) (i := 0) (v := 0) ic_0 (by decide +kernel) ?_
    obtain ⟨hc13, h⟩ := asrt_some h
    obtain ⟨I14, hv15, h⟩ := bnd1_some h
    refine X.callVv (pc := 34) (nc := 0) (ns := 0) (c_Party_begin hE (dle hd (Nat.le_of_ble_eq_true rfl)) hc13 hv15) cv_GWL_138 (by decide +kernel) hc13 ⟨by decide, rfl⟩ (ddd hd (Nat.le_of_ble_eq_true rfl)) rfl (Nat.le_of_ble_eq_true rfl) rfl rfl ?_
    refine X.aload_0 (pc := 37) (by decide +kernel) ?_
    refine X.getR (pc := 38) (k := 3) fw_GWL_87 (by decide +kernel) (fun _ => rfl) hS hb12 ?_
    obtain ⟨x16, I17, hv18, h⟩ := bnd2_some h
    refine X.callVi (pc := 41) (nc := 0) (ns := 0) (c_Party_washTracks hE (dle hd (Nat.le_of_ble_eq_true rfl)) hc13 hv18) cv_GWL_142 (by decide +kernel) hc13 ⟨by decide, rfl⟩ (ddd hd (Nat.le_of_ble_eq_true rfl)) rfl (Nat.le_of_ble_eq_true rfl) rfl rfl ?_
    refine X.pop (pc := 44) (by decide +kernel) ?_
    refine X.aload_0 (pc := 45) (by decide +kernel) ?_
    obtain ⟨b19, hb19, h⟩ := bnd1_some h
    refine X.getR (pc := 46) (k := 17) fw_GWL_115 (by decide +kernel) (fun _ => rfl) hS hb19 ?_
    obtain ⟨hc20, h⟩ := asrt_some h
    obtain ⟨x21, I22, hv23, h⟩ := bnd2_some h
    refine X.callVi (pc := 49) (nc := 0) (ns := 0) (c_Prints_forget hE (dle hd (Nat.le_of_ble_eq_true rfl)) hc20 hv23) cv_GWL_145 (by decide +kernel) hc20 ⟨by decide, rfl⟩ (ddd hd (Nat.le_of_ble_eq_true rfl)) rfl (Nat.le_of_ble_eq_true rfl) rfl rfl ?_
    refine X.pop (pc := 52) (by decide +kernel) ?_
    refine X.aload_0 (pc := 53) (by decide +kernel) ?_
    obtain ⟨b24, hb24, h⟩ := bnd1_some h
    refine X.getR (pc := 54) (k := 4) fw_GWL_26 (by decide +kernel) (fun _ => rfl) hS hb24 ?_
    obtain ⟨hc25, h⟩ := asrt_some h
    obtain ⟨I26, hv27, h⟩ := bnd1_some h
    refine X.callVv (pc := 57) (nc := 0) (ns := 0) (c_Past_forget hE (dle hd (Nat.le_of_ble_eq_true rfl)) hc25 hv27) cv_GWL_148 (by decide +kernel) hc25 ⟨by decide, rfl⟩ (ddd hd (Nat.le_of_ble_eq_true rfl)) rfl (Nat.le_of_ble_eq_true rfl) rfl rfl ?_
    refine X.aload_0 (pc := 60) (by decide +kernel) ?_
    obtain ⟨b28, hb28, h⟩ := bnd1_some h
    refine X.getR (pc := 61) (k := 13) fw_GWL_61 (by decide +kernel) (fun _ => rfl) hS hb28 ?_
    refine X.iconst (pc := 64) (i := (-1)) (v := (-1)) ic_m1 (by decide +kernel) ?_
    obtain ⟨I29, hv30, h⟩ := bnd1_some h
    refine X.callSv (pc := 65) (nc := 0) (ns := 0) (c_JArr_fill hE (dle hd (Nat.le_of_ble_eq_true rfl)) hv30) cv_GWL_150 (by decide +kernel) (ddd hd (Nat.le_of_ble_eq_true rfl)) rfl (Nat.le_of_ble_eq_true rfl) rfl rfl ?_
    have j0 := Option.some.inj h
    subst j0
    exact hj9
  · refine X.icmp_ne_t (pc := 14) (off := 54) (tgt := 68) hq6 rfl (by decide +kernel) ?_
    have j0 := Option.some.inj h
    subst j0
    exact hj9
set_option maxRecDepth 100000 in
noncomputable def f_Fee_want (S : MS) (I : MI) (t : Nat) (p1 : Int32) (p2 : Int32) (p3 : Int32) (p4 : Int32) : Option MI :=
  lt (wI I t 0 p1) fun (I1 : MI) =>
  lt (wI I1 t 1 p2) fun (I2 : MI) =>
  lt (wI I2 t 2 p3) fun (I3 : MI) =>
  lt (wI I3 t 3 p4) fun (I4 : MI) =>
  lt (wI I4 t 4 0) fun (I5 : MI) =>
  lt (wI I5 t 5 (-1)) fun (I6 : MI) =>
  some I6
set_option maxRecDepth 100000 in
set_option maxHeartbeats 4000000 in
theorem c_Fee_want {E : Env} (hE : OKE E) {tg : Bool} {d : Nat} (hd : 0 ≤ d) {S : MS} {I : MI} {L : ML} {R : MR} {n : Nat} {t : Nat} {p1 : Int32} {p2 : Int32} {p3 : Int32} {p4 : Int32} {I' : MI} (hS : (S t).1 = 0) (h : f_Fee_want S I t p1 p2 p3 p4 = some I') : C E y_Fee_want b_Fee_want 5 none tg d 0 0 [.ref (e_b E + t), .int p1, .int p2, .int p3, .int p4] S I L R n (Kq none S I' L R n) := by
  refine C.of (o := [some (.ref (e_b E + t)), some (.int p1), some (.int p2), some (.int p3), some (.int p4)]) (by decide) rfl (Nat.le_of_ble_eq_true rfl) ?_
  rw [f_Fee_want] at h
  refine X.aload_0 (pc := 0) (by decide +kernel) ?_
  refine X.iload_1 (pc := 1) (by decide +kernel) ?_
  refine X.putI (pc := 2) (k := 0) fw_Fee_15 (by decide +kernel) rfl rfl hS ?_
  refine X.nameMI (fun I1 hI1 => ?_)
  have h := lt_at hI1 h
  refine X.aload_0 (pc := 5) (by decide +kernel) ?_
  refine X.iload_2 (pc := 6) (by decide +kernel) ?_
  refine X.putI (pc := 7) (k := 1) fw_Fee_18 (by decide +kernel) rfl rfl hS ?_
  refine X.nameMI (fun I2 hI2 => ?_)
  have h := lt_at hI2 h
  refine X.aload_0 (pc := 10) (by decide +kernel) ?_
  refine X.iload_3 (pc := 11) (by decide +kernel) ?_
  refine X.putI (pc := 12) (k := 2) fw_Fee_21 (by decide +kernel) rfl rfl hS ?_
  refine X.nameMI (fun I3 hI3 => ?_)
  have h := lt_at hI3 h
  refine X.aload_0 (pc := 15) (by decide +kernel) ?_
  refine X.iload_4 (pc := 16) (by decide +kernel) ?_
  refine X.putI (pc := 18) (k := 3) fw_Fee_24 (by decide +kernel) rfl rfl hS ?_
  refine X.nameMI (fun I4 hI4 => ?_)
  have h := lt_at hI4 h
  refine X.aload_0 (pc := 21) (by decide +kernel) ?_
  refine X.iconst (pc := 22) (i := 0) (v := 0) ic_0 (by decide +kernel) ?_
  refine X.putI (pc := 23) (k := 4) fw_Fee_27 (by decide +kernel) rfl rfl hS ?_
  refine X.nameMI (fun I5 hI5 => ?_)
  have h := lt_at hI5 h
  refine X.aload_0 (pc := 26) (by decide +kernel) ?_
  refine X.iconst (pc := 27) (i := (-1)) (v := (-1)) ic_m1 (by decide +kernel) ?_
  refine X.putI (pc := 28) (k := 5) fw_Fee_9 (by decide +kernel) rfl rfl hS ?_
  refine X.nameMI (fun I6 hI6 => ?_)
  have h := lt_at hI6 h
  have j0 := Option.some.inj h
  subst j0
  exact X.vreturn (pc := 31) (by decide +kernel) rfl ⟨rfl, rfl, rfl, rfl, rfl, rfl⟩
set_option maxRecDepth 100000 in
noncomputable def f_Fee_isLetter (p1 : Int32) : Option Int32 :=
  bnd1 (ifb (p1 = 104)
      (some 1)
      (ifb (p1 = 120)
        (some 1)
        (ifb (p1 = 115)
          (some 1)
          (ifb (p1 = 97)
            (some 1)
            (some 0))))) fun (y2 : Int32) =>
  asrt (y2 = 0 ∨ y2 = 1) <|
  some y2
set_option maxRecDepth 100000 in
set_option maxHeartbeats 4000000 in
theorem c_Fee_isLetter {E : Env} (hE : OKE E) {tg : Bool} {d : Nat} (hd : 0 ≤ d) {S : MS} {I : MI} {L : ML} {R : MR} {n : Nat} {p1 : Int32} {v : Int32} (h : f_Fee_isLetter p1 = some v) : C E y_Fee_isLetter b_Fee_isLetter 1 (some .boolean) tg d 0 0 [.int p1] S I L R n (Kq (some (.int v)) S I L R n) := by
  refine C.of (o := [some (.int p1)]) (by decide) rfl (Nat.le_of_ble_eq_true rfl) ?_
  rw [f_Fee_isLetter] at h
  refine X.iload_0 (pc := 0) (by decide +kernel) ?_
  refine X.bipush (pc := 1) (i := 104) (v := 104) bp_104 (by decide +kernel) ?_
  obtain ⟨y2, hr3, h⟩ := bnd1_some h
  have hj4 : X E y_Fee_isLetter b_Fee_isLetter 1 (some .boolean) tg d 0 0 29 [none] [.int y2] S I L R n (Kq (some (.int v)) S I L R n) := by
    obtain ⟨hb8, h⟩ := asrt_some h
    have j0 := Option.some.inj h
    subst j0
    exact X.ireturn (pc := 29) (by decide +kernel) ⟨_, rfl, nz01 hb8⟩ ⟨rfl, rfl, rfl, rfl, rfl, rfl⟩
  have h := hr3
  rcases ifb_some h with ⟨hq1, h⟩ | ⟨hq1, h⟩
  · refine X.icmp_eq_t (pc := 3) (off := 21) (tgt := 24) hq1 rfl (by decide +kernel) ?_
    refine X.iconst (pc := 24) (i := 1) (v := 1) ic_1 (by decide +kernel) ?_
    refine X.goto (pc := 25) (off := 4) (tgt := 29) (by decide +kernel) rfl ?_
    have j0 := Option.some.inj h
    subst j0
    refine X.fgt (o' := [none]) trivial ?_
    exact hj4
  · refine X.icmp_eq_f (pc := 3) (off := 21) (tgt := 24) hq1 rfl (by decide +kernel) ?_
    refine X.iload_0 (pc := 6) (by decide +kernel) ?_
    refine X.bipush (pc := 7) (i := 120) (v := 120) bp_120 (by decide +kernel) ?_
    rcases ifb_some h with ⟨hq5, h⟩ | ⟨hq5, h⟩
    · refine X.icmp_eq_t (pc := 9) (off := 15) (tgt := 24) hq5 rfl (by decide +kernel) ?_
      refine X.iconst (pc := 24) (i := 1) (v := 1) ic_1 (by decide +kernel) ?_
      refine X.goto (pc := 25) (off := 4) (tgt := 29) (by decide +kernel) rfl ?_
      have j0 := Option.some.inj h
      subst j0
      refine X.fgt (o' := [none]) trivial ?_
      exact hj4
    · refine X.icmp_eq_f (pc := 9) (off := 15) (tgt := 24) hq5 rfl (by decide +kernel) ?_
      refine X.iload_0 (pc := 12) (by decide +kernel) ?_
      refine X.bipush (pc := 13) (i := 115) (v := 115) bp_115 (by decide +kernel) ?_
      rcases ifb_some h with ⟨hq6, h⟩ | ⟨hq6, h⟩
      · refine X.icmp_eq_t (pc := 15) (off := 9) (tgt := 24) hq6 rfl (by decide +kernel) ?_
        refine X.iconst (pc := 24) (i := 1) (v := 1) ic_1 (by decide +kernel) ?_
        refine X.goto (pc := 25) (off := 4) (tgt := 29) (by decide +kernel) rfl ?_
        have j0 := Option.some.inj h
        subst j0
        refine X.fgt (o' := [none]) trivial ?_
        exact hj4
      · refine X.icmp_eq_f (pc := 15) (off := 9) (tgt := 24) hq6 rfl (by decide +kernel) ?_
        refine X.iload_0 (pc := 18) (by decide +kernel) ?_
        refine X.bipush (pc := 19) (i := 97) (v := 97) bp_97 (by decide +kernel) ?_
        rcases ifb_some h with ⟨hq7, h⟩ | ⟨hq7, h⟩
        · refine X.icmp_ne_f (pc := 21) (off := 7) (tgt := 28) hq7 rfl (by decide +kernel) ?_
          refine X.iconst (pc := 24) (i := 1) (v := 1) ic_1 (by decide +kernel) ?_
          refine X.goto (pc := 25) (off := 4) (tgt := 29) (by decide +kernel) rfl ?_
          have j0 := Option.some.inj h
          subst j0
          refine X.fgt (o' := [none]) trivial ?_
          exact hj4
        · refine X.icmp_ne_t (pc := 21) (off := 7) (tgt := 28) hq7 rfl (by decide +kernel) ?_
          refine X.iconst (pc := 28) (i := 0) (v := 0) ic_0 (by decide +kernel) ?_
          have j0 := Option.some.inj h
          subst j0
          refine X.fgt (o' := [none]) trivial ?_
          exact hj4
set_option maxRecDepth 100000 in
noncomputable def f_Fee_addTo (S : MS) (I : MI) (t : Nat) (p1 : Int32) (p2 : Int32) : Option MI :=
  bnd1 (ifb (p1 = 104)
      (some p2)
      (some 0)) fun (y2 : Int32) =>
  lt ((I t 1) + y2) fun (x5 : Int32) =>
  lt (wI I t 1 x5) fun (I6 : MI) =>
  bnd1 (ifb (p1 = 120)
      (some p2)
      (some 0)) fun (y8 : Int32) =>
  lt ((I6 t 2) + y8) fun (x11 : Int32) =>
  lt (wI I6 t 2 x11) fun (I12 : MI) =>
  bnd1 (ifb (p1 = 115)
      (some p2)
      (some 0)) fun (y14 : Int32) =>
  lt ((I12 t 3) + y14) fun (x17 : Int32) =>
  lt (wI I12 t 3 x17) fun (I18 : MI) =>
  bnd1 (ifb (p1 = 97)
      (some p2)
      (some 0)) fun (y20 : Int32) =>
  lt ((I18 t 4) + y20) fun (x23 : Int32) =>
  lt (wI I18 t 4 x23) fun (I24 : MI) =>
  some I24
set_option maxRecDepth 100000 in
set_option maxHeartbeats 4000000 in
theorem c_Fee_addTo {E : Env} (hE : OKE E) {tg : Bool} {d : Nat} (hd : 0 ≤ d) {S : MS} {I : MI} {L : ML} {R : MR} {n : Nat} {t : Nat} {p1 : Int32} {p2 : Int32} {I' : MI} (hS : (S t).1 = 0) (h : f_Fee_addTo S I t p1 p2 = some I') : C E y_Fee_addTo b_Fee_addTo 3 none tg d 0 0 [.ref (e_b E + t), .int p1, .int p2] S I L R n (Kq none S I' L R n) := by
  refine C.of (o := [some (.ref (e_b E + t)), some (.int p1), some (.int p2)]) (by decide) rfl (Nat.le_of_ble_eq_true rfl) ?_
  rw [f_Fee_addTo] at h
  refine X.aload_0 (pc := 0) (by decide +kernel) ?_
  refine X.dupr (pc := 1) (by decide +kernel) ?_
  refine X.getI (pc := 2) (k := 1) fw_Fee_18 (by decide +kernel) (fun _ => rfl) hS ?_
  refine X.iload_1 (pc := 5) (by decide +kernel) ?_
  refine X.bipush (pc := 6) (i := 104) (v := 104) bp_104 (by decide +kernel) ?_
  obtain ⟨y2, hr3, h⟩ := bnd1_some h
  have hj4 : X E y_Fee_addTo b_Fee_addTo 3 none tg d 0 0 16 [some (.ref (e_b E + t)), some (.int p1), some (.int p2)] [.int y2, .int (I t 1), .ref (e_b E + t)] S I L R n (Kq none S I' L R n) := by
    refine X.iadd (pc := 16) (by decide +kernel) ?_
    refine X.nameI (fun x5 hx5 => ?_)
    have h := lt_at hx5 h
    refine X.putI (pc := 17) (k := 1) fw_Fee_18 (by decide +kernel) rfl rfl hS ?_
    refine X.nameMI (fun I6 hI6 => ?_)
    have h := lt_at hI6 h
    refine X.aload_0 (pc := 20) (by decide +kernel) ?_
    refine X.dupr (pc := 21) (by decide +kernel) ?_
    refine X.getI (pc := 22) (k := 2) fw_Fee_21 (by decide +kernel) (fun _ => rfl) hS ?_
    refine X.iload_1 (pc := 25) (by decide +kernel) ?_
    refine X.bipush (pc := 26) (i := 120) (v := 120) bp_120 (by decide +kernel) ?_
    obtain ⟨y8, hr9, h⟩ := bnd1_some h
    have hj10 : X E y_Fee_addTo b_Fee_addTo 3 none tg d 0 0 36 [some (.ref (e_b E + t)), some (.int p1), some (.int p2)] [.int y8, .int (I6 t 2), .ref (e_b E + t)] S I6 L R n (Kq none S I' L R n) := by
      refine X.iadd (pc := 36) (by decide +kernel) ?_
      refine X.nameI (fun x11 hx11 => ?_)
      have h := lt_at hx11 h
      refine X.putI (pc := 37) (k := 2) fw_Fee_21 (by decide +kernel) rfl rfl hS ?_
      refine X.nameMI (fun I12 hI12 => ?_)
      have h := lt_at hI12 h
      refine X.aload_0 (pc := 40) (by decide +kernel) ?_
      refine X.dupr (pc := 41) (by decide +kernel) ?_
      refine X.getI (pc := 42) (k := 3) fw_Fee_24 (by decide +kernel) (fun _ => rfl) hS ?_
      refine X.iload_1 (pc := 45) (by decide +kernel) ?_
      refine X.bipush (pc := 46) (i := 115) (v := 115) bp_115 (by decide +kernel) ?_
      obtain ⟨y14, hr15, h⟩ := bnd1_some h
      have hj16 : X E y_Fee_addTo b_Fee_addTo 3 none tg d 0 0 56 [some (.ref (e_b E + t)), some (.int p1), some (.int p2)] [.int y14, .int (I12 t 3), .ref (e_b E + t)] S I12 L R n (Kq none S I' L R n) := by
        refine X.iadd (pc := 56) (by decide +kernel) ?_
        refine X.nameI (fun x17 hx17 => ?_)
        have h := lt_at hx17 h
        refine X.putI (pc := 57) (k := 3) fw_Fee_24 (by decide +kernel) rfl rfl hS ?_
        refine X.nameMI (fun I18 hI18 => ?_)
        have h := lt_at hI18 h
        refine X.aload_0 (pc := 60) (by decide +kernel) ?_
        refine X.dupr (pc := 61) (by decide +kernel) ?_
        refine X.getI (pc := 62) (k := 4) fw_Fee_27 (by decide +kernel) (fun _ => rfl) hS ?_
        refine X.iload_1 (pc := 65) (by decide +kernel) ?_
        refine X.bipush (pc := 66) (i := 97) (v := 97) bp_97 (by decide +kernel) ?_
        obtain ⟨y20, hr21, h⟩ := bnd1_some h
        have hj22 : X E y_Fee_addTo b_Fee_addTo 3 none tg d 0 0 76 [none, none, none] [.int y20, .int (I18 t 4), .ref (e_b E + t)] S I18 L R n (Kq none S I' L R n) := by
          refine X.iadd (pc := 76) (by decide +kernel) ?_
          refine X.nameI (fun x23 hx23 => ?_)
          have h := lt_at hx23 h
          refine X.putI (pc := 77) (k := 4) fw_Fee_27 (by decide +kernel) rfl rfl hS ?_
          refine X.nameMI (fun I24 hI24 => ?_)
          have h := lt_at hI24 h
          have j0 := Option.some.inj h
          subst j0
          exact X.vreturn (pc := 80) (by decide +kernel) rfl ⟨rfl, rfl, rfl, rfl, rfl, rfl⟩
        have h := hr21
        rcases ifb_some h with ⟨hq19, h⟩ | ⟨hq19, h⟩
        · refine X.icmp_ne_f (pc := 68) (off := 7) (tgt := 75) hq19 rfl (by decide +kernel) ?_
          refine X.iload_2 (pc := 71) (by decide +kernel) ?_
          refine X.goto (pc := 72) (off := 4) (tgt := 76) (by decide +kernel) rfl ?_
          have j0 := Option.some.inj h
          subst j0
          refine X.fgt (o' := [none, none, none]) trivial ?_
          exact hj22
        · refine X.icmp_ne_t (pc := 68) (off := 7) (tgt := 75) hq19 rfl (by decide +kernel) ?_
          refine X.iconst (pc := 75) (i := 0) (v := 0) ic_0 (by decide +kernel) ?_
          have j0 := Option.some.inj h
          subst j0
          refine X.fgt (o' := [none, none, none]) trivial ?_
          exact hj22
      have h := hr15
      rcases ifb_some h with ⟨hq13, h⟩ | ⟨hq13, h⟩
      · refine X.icmp_ne_f (pc := 48) (off := 7) (tgt := 55) hq13 rfl (by decide +kernel) ?_
        refine X.iload_2 (pc := 51) (by decide +kernel) ?_
        refine X.goto (pc := 52) (off := 4) (tgt := 56) (by decide +kernel) rfl ?_
        have j0 := Option.some.inj h
        subst j0
        exact hj16
      · refine X.icmp_ne_t (pc := 48) (off := 7) (tgt := 55) hq13 rfl (by decide +kernel) ?_
        refine X.iconst (pc := 55) (i := 0) (v := 0) ic_0 (by decide +kernel) ?_
        have j0 := Option.some.inj h
        subst j0
        exact hj16
    have h := hr9
    rcases ifb_some h with ⟨hq7, h⟩ | ⟨hq7, h⟩
    · refine X.icmp_ne_f (pc := 28) (off := 7) (tgt := 35) hq7 rfl (by decide +kernel) ?_
      refine X.iload_2 (pc := 31) (by decide +kernel) ?_
      refine X.goto (pc := 32) (off := 4) (tgt := 36) (by decide +kernel) rfl ?_
      have j0 := Option.some.inj h
      subst j0
      exact hj10
    · refine X.icmp_ne_t (pc := 28) (off := 7) (tgt := 35) hq7 rfl (by decide +kernel) ?_
      refine X.iconst (pc := 35) (i := 0) (v := 0) ic_0 (by decide +kernel) ?_
      have j0 := Option.some.inj h
      subst j0
      exact hj10
  have h := hr3
  rcases ifb_some h with ⟨hq1, h⟩ | ⟨hq1, h⟩
  · refine X.icmp_ne_f (pc := 8) (off := 7) (tgt := 15) hq1 rfl (by decide +kernel) ?_
    refine X.iload_2 (pc := 11) (by decide +kernel) ?_
    refine X.goto (pc := 12) (off := 4) (tgt := 16) (by decide +kernel) rfl ?_
    have j0 := Option.some.inj h
    subst j0
    exact hj4
  · refine X.icmp_ne_t (pc := 8) (off := 7) (tgt := 15) hq1 rfl (by decide +kernel) ?_
    refine X.iconst (pc := 15) (i := 0) (v := 0) ic_0 (by decide +kernel) ?_
    have j0 := Option.some.inj h
    subst j0
    exact hj4
set_option maxRecDepth 100000 in
noncomputable def l_Fee_learn_29 (S : MS) (R : MR) (v0 : Nat) (v1 : Nat) : Nat → MI → Int32 → Int32 → Int32 → Int32 → Option (Int32 × MI)
  | 0, _, _, _, _, _ => none
  | f + 1, I, v2, v3, v4, v5 =>
    ifb (30 < v5)
      (some (30, I))
      (asrt ((S v1).1 = 8) <|
      bnd1 (f_Signs_at S R I v1 v5) fun x12 =>
      bnd1 (ifb (x12 = (-1))
          (some 1)
          (ifb (x12 = 43)
            (some 1)
            (ifb (x12 = 45)
              (some 1)
              (some 0)))) fun (y15 : Int32) =>
      ifb (v5 = 30)
        (ifb (x12 = (-1))
          (ifb (x12 < 48)
            (ifb (x12 = 42)
              (ifb (v2 = 1)
                (l_Fee_learn_29 S R v0 v1 f I 3 v3 v4 (v5 + 1))
                (ifb (v2 = 2)
                  (l_Fee_learn_29 S R v0 v1 f I 3 v3 v4 (v5 + 1))
                  (bnd1 (f_Fee_isLetter x12) fun x26 =>
                  ifb (x26 = 0)
                    (ifb (y15 = 0)
                      (some (v5, I))
                      (ifb (v2 = 0)
                        (some (v5, I))
                        (ifb (v2 = 3)
                          (some (v5, I))
                          (lt ((I v0 0) + (v3 * v4)) fun (x32 : Int32) =>
                          lt (wI I v0 0 x32) fun (I33 : MI) =>
                          ifb (x12 = (-1))
                            (some ((-1), I33))
                            (bnd1 (ifb (x12 = 45)
                                (some (-1))
                                (some 1)) fun (y36 : Int32) =>
                            l_Fee_learn_29 S R v0 v1 f I33 0 y36 0 (v5 + 1))))))
                    (ifb (v2 = 0)
                      (bnd1 (ifb (v2 = 0)
                          (some 1)
                          (some v4)) fun (y41 : Int32) =>
                      bnd1 (f_Fee_addTo S I v0 x12 (v3 * y41)) fun I44 =>
                      l_Fee_learn_29 S R v0 v1 f I44 4 v3 0 (v5 + 1))
                      (ifb (v2 = 3)
                        (bnd1 (ifb (v2 = 0)
                            (some 1)
                            (some v4)) fun (y48 : Int32) =>
                        bnd1 (f_Fee_addTo S I v0 x12 (v3 * y48)) fun I51 =>
                        l_Fee_learn_29 S R v0 v1 f I51 4 v3 0 (v5 + 1))
                        (ifb (y15 = 0)
                          (some (v5, I))
                          (ifb (v2 = 0)
                            (some (v5, I))
                            (ifb (v2 = 3)
                              (some (v5, I))
                              (lt ((I v0 0) + (v3 * v4)) fun (x56 : Int32) =>
                              lt (wI I v0 0 x56) fun (I57 : MI) =>
                              ifb (x12 = (-1))
                                (some ((-1), I57))
                                (bnd1 (ifb (x12 = 45)
                                    (some (-1))
                                    (some 1)) fun (y60 : Int32) =>
                                l_Fee_learn_29 S R v0 v1 f I57 0 y60 0 (v5 + 1)))))))))))
              (bnd1 (f_Fee_isLetter x12) fun x63 =>
              ifb (x63 = 0)
                (ifb (y15 = 0)
                  (some (v5, I))
                  (ifb (v2 = 0)
                    (some (v5, I))
                    (ifb (v2 = 3)
                      (some (v5, I))
                      (lt ((I v0 0) + (v3 * v4)) fun (x69 : Int32) =>
                      lt (wI I v0 0 x69) fun (I70 : MI) =>
                      ifb (x12 = (-1))
                        (some ((-1), I70))
                        (bnd1 (ifb (x12 = 45)
                            (some (-1))
                            (some 1)) fun (y73 : Int32) =>
                        l_Fee_learn_29 S R v0 v1 f I70 0 y73 0 (v5 + 1))))))
                (ifb (v2 = 0)
                  (bnd1 (ifb (v2 = 0)
                      (some 1)
                      (some v4)) fun (y78 : Int32) =>
                  bnd1 (f_Fee_addTo S I v0 x12 (v3 * y78)) fun I81 =>
                  l_Fee_learn_29 S R v0 v1 f I81 4 v3 0 (v5 + 1))
                  (ifb (v2 = 3)
                    (bnd1 (ifb (v2 = 0)
                        (some 1)
                        (some v4)) fun (y85 : Int32) =>
                    bnd1 (f_Fee_addTo S I v0 x12 (v3 * y85)) fun I88 =>
                    l_Fee_learn_29 S R v0 v1 f I88 4 v3 0 (v5 + 1))
                    (ifb (y15 = 0)
                      (some (v5, I))
                      (ifb (v2 = 0)
                        (some (v5, I))
                        (ifb (v2 = 3)
                          (some (v5, I))
                          (lt ((I v0 0) + (v3 * v4)) fun (x93 : Int32) =>
                          lt (wI I v0 0 x93) fun (I94 : MI) =>
                          ifb (x12 = (-1))
                            (some ((-1), I94))
                            (bnd1 (ifb (x12 = 45)
                                (some (-1))
                                (some 1)) fun (y97 : Int32) =>
                            l_Fee_learn_29 S R v0 v1 f I94 0 y97 0 (v5 + 1))))))))))
            (ifb (57 < x12)
              (ifb (x12 = 42)
                (ifb (v2 = 1)
                  (l_Fee_learn_29 S R v0 v1 f I 3 v3 v4 (v5 + 1))
                  (ifb (v2 = 2)
                    (l_Fee_learn_29 S R v0 v1 f I 3 v3 v4 (v5 + 1))
                    (bnd1 (f_Fee_isLetter x12) fun x104 =>
                    ifb (x104 = 0)
                      (ifb (y15 = 0)
                        (some (v5, I))
                        (ifb (v2 = 0)
                          (some (v5, I))
                          (ifb (v2 = 3)
                            (some (v5, I))
                            (lt ((I v0 0) + (v3 * v4)) fun (x110 : Int32) =>
                            lt (wI I v0 0 x110) fun (I111 : MI) =>
                            ifb (x12 = (-1))
                              (some ((-1), I111))
                              (bnd1 (ifb (x12 = 45)
                                  (some (-1))
                                  (some 1)) fun (y114 : Int32) =>
                              l_Fee_learn_29 S R v0 v1 f I111 0 y114 0 (v5 + 1))))))
                      (ifb (v2 = 0)
                        (bnd1 (ifb (v2 = 0)
                            (some 1)
                            (some v4)) fun (y119 : Int32) =>
                        bnd1 (f_Fee_addTo S I v0 x12 (v3 * y119)) fun I122 =>
                        l_Fee_learn_29 S R v0 v1 f I122 4 v3 0 (v5 + 1))
                        (ifb (v2 = 3)
                          (bnd1 (ifb (v2 = 0)
                              (some 1)
                              (some v4)) fun (y126 : Int32) =>
                          bnd1 (f_Fee_addTo S I v0 x12 (v3 * y126)) fun I129 =>
                          l_Fee_learn_29 S R v0 v1 f I129 4 v3 0 (v5 + 1))
                          (ifb (y15 = 0)
                            (some (v5, I))
                            (ifb (v2 = 0)
                              (some (v5, I))
                              (ifb (v2 = 3)
                                (some (v5, I))
                                (lt ((I v0 0) + (v3 * v4)) fun (x134 : Int32) =>
                                lt (wI I v0 0 x134) fun (I135 : MI) =>
                                ifb (x12 = (-1))
                                  (some ((-1), I135))
                                  (bnd1 (ifb (x12 = 45)
                                      (some (-1))
                                      (some 1)) fun (y138 : Int32) =>
                                  l_Fee_learn_29 S R v0 v1 f I135 0 y138 0 (v5 + 1)))))))))))
                (bnd1 (f_Fee_isLetter x12) fun x141 =>
                ifb (x141 = 0)
                  (ifb (y15 = 0)
                    (some (v5, I))
                    (ifb (v2 = 0)
                      (some (v5, I))
                      (ifb (v2 = 3)
                        (some (v5, I))
                        (lt ((I v0 0) + (v3 * v4)) fun (x147 : Int32) =>
                        lt (wI I v0 0 x147) fun (I148 : MI) =>
                        ifb (x12 = (-1))
                          (some ((-1), I148))
                          (bnd1 (ifb (x12 = 45)
                              (some (-1))
                              (some 1)) fun (y151 : Int32) =>
                          l_Fee_learn_29 S R v0 v1 f I148 0 y151 0 (v5 + 1))))))
                  (ifb (v2 = 0)
                    (bnd1 (ifb (v2 = 0)
                        (some 1)
                        (some v4)) fun (y156 : Int32) =>
                    bnd1 (f_Fee_addTo S I v0 x12 (v3 * y156)) fun I159 =>
                    l_Fee_learn_29 S R v0 v1 f I159 4 v3 0 (v5 + 1))
                    (ifb (v2 = 3)
                      (bnd1 (ifb (v2 = 0)
                          (some 1)
                          (some v4)) fun (y163 : Int32) =>
                      bnd1 (f_Fee_addTo S I v0 x12 (v3 * y163)) fun I166 =>
                      l_Fee_learn_29 S R v0 v1 f I166 4 v3 0 (v5 + 1))
                      (ifb (y15 = 0)
                        (some (v5, I))
                        (ifb (v2 = 0)
                          (some (v5, I))
                          (ifb (v2 = 3)
                            (some (v5, I))
                            (lt ((I v0 0) + (v3 * v4)) fun (x171 : Int32) =>
                            lt (wI I v0 0 x171) fun (I172 : MI) =>
                            ifb (x12 = (-1))
                              (some ((-1), I172))
                              (bnd1 (ifb (x12 = 45)
                                  (some (-1))
                                  (some 1)) fun (y175 : Int32) =>
                              l_Fee_learn_29 S R v0 v1 f I172 0 y175 0 (v5 + 1))))))))))
              (ifb (1 < v2)
                (ifb (x12 = 42)
                  (ifb (v2 = 1)
                    (l_Fee_learn_29 S R v0 v1 f I 3 v3 v4 (v5 + 1))
                    (ifb (v2 = 2)
                      (l_Fee_learn_29 S R v0 v1 f I 3 v3 v4 (v5 + 1))
                      (bnd1 (f_Fee_isLetter x12) fun x182 =>
                      ifb (x182 = 0)
                        (ifb (y15 = 0)
                          (some (v5, I))
                          (ifb (v2 = 0)
                            (some (v5, I))
                            (ifb (v2 = 3)
                              (some (v5, I))
                              (lt ((I v0 0) + (v3 * v4)) fun (x188 : Int32) =>
                              lt (wI I v0 0 x188) fun (I189 : MI) =>
                              ifb (x12 = (-1))
                                (some ((-1), I189))
                                (bnd1 (ifb (x12 = 45)
                                    (some (-1))
                                    (some 1)) fun (y192 : Int32) =>
                                l_Fee_learn_29 S R v0 v1 f I189 0 y192 0 (v5 + 1))))))
                        (ifb (v2 = 0)
                          (bnd1 (ifb (v2 = 0)
                              (some 1)
                              (some v4)) fun (y197 : Int32) =>
                          bnd1 (f_Fee_addTo S I v0 x12 (v3 * y197)) fun I200 =>
                          l_Fee_learn_29 S R v0 v1 f I200 4 v3 0 (v5 + 1))
                          (ifb (v2 = 3)
                            (bnd1 (ifb (v2 = 0)
                                (some 1)
                                (some v4)) fun (y204 : Int32) =>
                            bnd1 (f_Fee_addTo S I v0 x12 (v3 * y204)) fun I207 =>
                            l_Fee_learn_29 S R v0 v1 f I207 4 v3 0 (v5 + 1))
                            (ifb (y15 = 0)
                              (some (v5, I))
                              (ifb (v2 = 0)
                                (some (v5, I))
                                (ifb (v2 = 3)
                                  (some (v5, I))
                                  (lt ((I v0 0) + (v3 * v4)) fun (x212 : Int32) =>
                                  lt (wI I v0 0 x212) fun (I213 : MI) =>
                                  ifb (x12 = (-1))
                                    (some ((-1), I213))
                                    (bnd1 (ifb (x12 = 45)
                                        (some (-1))
                                        (some 1)) fun (y216 : Int32) =>
                                    l_Fee_learn_29 S R v0 v1 f I213 0 y216 0 (v5 + 1)))))))))))
                  (bnd1 (f_Fee_isLetter x12) fun x219 =>
                  ifb (x219 = 0)
                    (ifb (y15 = 0)
                      (some (v5, I))
                      (ifb (v2 = 0)
                        (some (v5, I))
                        (ifb (v2 = 3)
                          (some (v5, I))
                          (lt ((I v0 0) + (v3 * v4)) fun (x225 : Int32) =>
                          lt (wI I v0 0 x225) fun (I226 : MI) =>
                          ifb (x12 = (-1))
                            (some ((-1), I226))
                            (bnd1 (ifb (x12 = 45)
                                (some (-1))
                                (some 1)) fun (y229 : Int32) =>
                            l_Fee_learn_29 S R v0 v1 f I226 0 y229 0 (v5 + 1))))))
                    (ifb (v2 = 0)
                      (bnd1 (ifb (v2 = 0)
                          (some 1)
                          (some v4)) fun (y234 : Int32) =>
                      bnd1 (f_Fee_addTo S I v0 x12 (v3 * y234)) fun I237 =>
                      l_Fee_learn_29 S R v0 v1 f I237 4 v3 0 (v5 + 1))
                      (ifb (v2 = 3)
                        (bnd1 (ifb (v2 = 0)
                            (some 1)
                            (some v4)) fun (y241 : Int32) =>
                        bnd1 (f_Fee_addTo S I v0 x12 (v3 * y241)) fun I244 =>
                        l_Fee_learn_29 S R v0 v1 f I244 4 v3 0 (v5 + 1))
                        (ifb (y15 = 0)
                          (some (v5, I))
                          (ifb (v2 = 0)
                            (some (v5, I))
                            (ifb (v2 = 3)
                              (some (v5, I))
                              (lt ((I v0 0) + (v3 * v4)) fun (x249 : Int32) =>
                              lt (wI I v0 0 x249) fun (I250 : MI) =>
                              ifb (x12 = (-1))
                                (some ((-1), I250))
                                (bnd1 (ifb (x12 = 45)
                                    (some (-1))
                                    (some 1)) fun (y253 : Int32) =>
                                l_Fee_learn_29 S R v0 v1 f I250 0 y253 0 (v5 + 1))))))))))
                (lt (((v4 * 10) + x12) - 48) fun (x256 : Int32) =>
                l_Fee_learn_29 S R v0 v1 f I (v2 + 1) v3 x256 (v5 + 1)))))
          (some (v5, I)))
        (ifb (x12 < 48)
          (ifb (x12 = 42)
            (ifb (v2 = 1)
              (l_Fee_learn_29 S R v0 v1 f I 3 v3 v4 (v5 + 1))
              (ifb (v2 = 2)
                (l_Fee_learn_29 S R v0 v1 f I 3 v3 v4 (v5 + 1))
                (bnd1 (f_Fee_isLetter x12) fun x261 =>
                ifb (x261 = 0)
                  (ifb (y15 = 0)
                    (some (v5, I))
                    (ifb (v2 = 0)
                      (some (v5, I))
                      (ifb (v2 = 3)
                        (some (v5, I))
                        (lt ((I v0 0) + (v3 * v4)) fun (x267 : Int32) =>
                        lt (wI I v0 0 x267) fun (I268 : MI) =>
                        ifb (x12 = (-1))
                          (some ((-1), I268))
                          (bnd1 (ifb (x12 = 45)
                              (some (-1))
                              (some 1)) fun (y271 : Int32) =>
                          l_Fee_learn_29 S R v0 v1 f I268 0 y271 0 (v5 + 1))))))
                  (ifb (v2 = 0)
                    (bnd1 (ifb (v2 = 0)
                        (some 1)
                        (some v4)) fun (y276 : Int32) =>
                    bnd1 (f_Fee_addTo S I v0 x12 (v3 * y276)) fun I279 =>
                    l_Fee_learn_29 S R v0 v1 f I279 4 v3 0 (v5 + 1))
                    (ifb (v2 = 3)
                      (bnd1 (ifb (v2 = 0)
                          (some 1)
                          (some v4)) fun (y283 : Int32) =>
                      bnd1 (f_Fee_addTo S I v0 x12 (v3 * y283)) fun I286 =>
                      l_Fee_learn_29 S R v0 v1 f I286 4 v3 0 (v5 + 1))
                      (ifb (y15 = 0)
                        (some (v5, I))
                        (ifb (v2 = 0)
                          (some (v5, I))
                          (ifb (v2 = 3)
                            (some (v5, I))
                            (lt ((I v0 0) + (v3 * v4)) fun (x291 : Int32) =>
                            lt (wI I v0 0 x291) fun (I292 : MI) =>
                            ifb (x12 = (-1))
                              (some ((-1), I292))
                              (bnd1 (ifb (x12 = 45)
                                  (some (-1))
                                  (some 1)) fun (y295 : Int32) =>
                              l_Fee_learn_29 S R v0 v1 f I292 0 y295 0 (v5 + 1)))))))))))
            (bnd1 (f_Fee_isLetter x12) fun x298 =>
            ifb (x298 = 0)
              (ifb (y15 = 0)
                (some (v5, I))
                (ifb (v2 = 0)
                  (some (v5, I))
                  (ifb (v2 = 3)
                    (some (v5, I))
                    (lt ((I v0 0) + (v3 * v4)) fun (x304 : Int32) =>
                    lt (wI I v0 0 x304) fun (I305 : MI) =>
                    ifb (x12 = (-1))
                      (some ((-1), I305))
                      (bnd1 (ifb (x12 = 45)
                          (some (-1))
                          (some 1)) fun (y308 : Int32) =>
                      l_Fee_learn_29 S R v0 v1 f I305 0 y308 0 (v5 + 1))))))
              (ifb (v2 = 0)
                (bnd1 (ifb (v2 = 0)
                    (some 1)
                    (some v4)) fun (y313 : Int32) =>
                bnd1 (f_Fee_addTo S I v0 x12 (v3 * y313)) fun I316 =>
                l_Fee_learn_29 S R v0 v1 f I316 4 v3 0 (v5 + 1))
                (ifb (v2 = 3)
                  (bnd1 (ifb (v2 = 0)
                      (some 1)
                      (some v4)) fun (y320 : Int32) =>
                  bnd1 (f_Fee_addTo S I v0 x12 (v3 * y320)) fun I323 =>
                  l_Fee_learn_29 S R v0 v1 f I323 4 v3 0 (v5 + 1))
                  (ifb (y15 = 0)
                    (some (v5, I))
                    (ifb (v2 = 0)
                      (some (v5, I))
                      (ifb (v2 = 3)
                        (some (v5, I))
                        (lt ((I v0 0) + (v3 * v4)) fun (x328 : Int32) =>
                        lt (wI I v0 0 x328) fun (I329 : MI) =>
                        ifb (x12 = (-1))
                          (some ((-1), I329))
                          (bnd1 (ifb (x12 = 45)
                              (some (-1))
                              (some 1)) fun (y332 : Int32) =>
                          l_Fee_learn_29 S R v0 v1 f I329 0 y332 0 (v5 + 1))))))))))
          (ifb (57 < x12)
            (ifb (x12 = 42)
              (ifb (v2 = 1)
                (l_Fee_learn_29 S R v0 v1 f I 3 v3 v4 (v5 + 1))
                (ifb (v2 = 2)
                  (l_Fee_learn_29 S R v0 v1 f I 3 v3 v4 (v5 + 1))
                  (bnd1 (f_Fee_isLetter x12) fun x339 =>
                  ifb (x339 = 0)
                    (ifb (y15 = 0)
                      (some (v5, I))
                      (ifb (v2 = 0)
                        (some (v5, I))
                        (ifb (v2 = 3)
                          (some (v5, I))
                          (lt ((I v0 0) + (v3 * v4)) fun (x345 : Int32) =>
                          lt (wI I v0 0 x345) fun (I346 : MI) =>
                          ifb (x12 = (-1))
                            (some ((-1), I346))
                            (bnd1 (ifb (x12 = 45)
                                (some (-1))
                                (some 1)) fun (y349 : Int32) =>
                            l_Fee_learn_29 S R v0 v1 f I346 0 y349 0 (v5 + 1))))))
                    (ifb (v2 = 0)
                      (bnd1 (ifb (v2 = 0)
                          (some 1)
                          (some v4)) fun (y354 : Int32) =>
                      bnd1 (f_Fee_addTo S I v0 x12 (v3 * y354)) fun I357 =>
                      l_Fee_learn_29 S R v0 v1 f I357 4 v3 0 (v5 + 1))
                      (ifb (v2 = 3)
                        (bnd1 (ifb (v2 = 0)
                            (some 1)
                            (some v4)) fun (y361 : Int32) =>
                        bnd1 (f_Fee_addTo S I v0 x12 (v3 * y361)) fun I364 =>
                        l_Fee_learn_29 S R v0 v1 f I364 4 v3 0 (v5 + 1))
                        (ifb (y15 = 0)
                          (some (v5, I))
                          (ifb (v2 = 0)
                            (some (v5, I))
                            (ifb (v2 = 3)
                              (some (v5, I))
                              (lt ((I v0 0) + (v3 * v4)) fun (x369 : Int32) =>
                              lt (wI I v0 0 x369) fun (I370 : MI) =>
                              ifb (x12 = (-1))
                                (some ((-1), I370))
                                (bnd1 (ifb (x12 = 45)
                                    (some (-1))
                                    (some 1)) fun (y373 : Int32) =>
                                l_Fee_learn_29 S R v0 v1 f I370 0 y373 0 (v5 + 1)))))))))))
              (bnd1 (f_Fee_isLetter x12) fun x376 =>
              ifb (x376 = 0)
                (ifb (y15 = 0)
                  (some (v5, I))
                  (ifb (v2 = 0)
                    (some (v5, I))
                    (ifb (v2 = 3)
                      (some (v5, I))
                      (lt ((I v0 0) + (v3 * v4)) fun (x382 : Int32) =>
                      lt (wI I v0 0 x382) fun (I383 : MI) =>
                      ifb (x12 = (-1))
                        (some ((-1), I383))
                        (bnd1 (ifb (x12 = 45)
                            (some (-1))
                            (some 1)) fun (y386 : Int32) =>
                        l_Fee_learn_29 S R v0 v1 f I383 0 y386 0 (v5 + 1))))))
                (ifb (v2 = 0)
                  (bnd1 (ifb (v2 = 0)
                      (some 1)
                      (some v4)) fun (y391 : Int32) =>
                  bnd1 (f_Fee_addTo S I v0 x12 (v3 * y391)) fun I394 =>
                  l_Fee_learn_29 S R v0 v1 f I394 4 v3 0 (v5 + 1))
                  (ifb (v2 = 3)
                    (bnd1 (ifb (v2 = 0)
                        (some 1)
                        (some v4)) fun (y398 : Int32) =>
                    bnd1 (f_Fee_addTo S I v0 x12 (v3 * y398)) fun I401 =>
                    l_Fee_learn_29 S R v0 v1 f I401 4 v3 0 (v5 + 1))
                    (ifb (y15 = 0)
                      (some (v5, I))
                      (ifb (v2 = 0)
                        (some (v5, I))
                        (ifb (v2 = 3)
                          (some (v5, I))
                          (lt ((I v0 0) + (v3 * v4)) fun (x406 : Int32) =>
                          lt (wI I v0 0 x406) fun (I407 : MI) =>
                          ifb (x12 = (-1))
                            (some ((-1), I407))
                            (bnd1 (ifb (x12 = 45)
                                (some (-1))
                                (some 1)) fun (y410 : Int32) =>
                            l_Fee_learn_29 S R v0 v1 f I407 0 y410 0 (v5 + 1))))))))))
            (ifb (1 < v2)
              (ifb (x12 = 42)
                (ifb (v2 = 1)
                  (l_Fee_learn_29 S R v0 v1 f I 3 v3 v4 (v5 + 1))
                  (ifb (v2 = 2)
                    (l_Fee_learn_29 S R v0 v1 f I 3 v3 v4 (v5 + 1))
                    (bnd1 (f_Fee_isLetter x12) fun x417 =>
                    ifb (x417 = 0)
                      (ifb (y15 = 0)
                        (some (v5, I))
                        (ifb (v2 = 0)
                          (some (v5, I))
                          (ifb (v2 = 3)
                            (some (v5, I))
                            (lt ((I v0 0) + (v3 * v4)) fun (x423 : Int32) =>
                            lt (wI I v0 0 x423) fun (I424 : MI) =>
                            ifb (x12 = (-1))
                              (some ((-1), I424))
                              (bnd1 (ifb (x12 = 45)
                                  (some (-1))
                                  (some 1)) fun (y427 : Int32) =>
                              l_Fee_learn_29 S R v0 v1 f I424 0 y427 0 (v5 + 1))))))
                      (ifb (v2 = 0)
                        (bnd1 (ifb (v2 = 0)
                            (some 1)
                            (some v4)) fun (y432 : Int32) =>
                        bnd1 (f_Fee_addTo S I v0 x12 (v3 * y432)) fun I435 =>
                        l_Fee_learn_29 S R v0 v1 f I435 4 v3 0 (v5 + 1))
                        (ifb (v2 = 3)
                          (bnd1 (ifb (v2 = 0)
                              (some 1)
                              (some v4)) fun (y439 : Int32) =>
                          bnd1 (f_Fee_addTo S I v0 x12 (v3 * y439)) fun I442 =>
                          l_Fee_learn_29 S R v0 v1 f I442 4 v3 0 (v5 + 1))
                          (ifb (y15 = 0)
                            (some (v5, I))
                            (ifb (v2 = 0)
                              (some (v5, I))
                              (ifb (v2 = 3)
                                (some (v5, I))
                                (lt ((I v0 0) + (v3 * v4)) fun (x447 : Int32) =>
                                lt (wI I v0 0 x447) fun (I448 : MI) =>
                                ifb (x12 = (-1))
                                  (some ((-1), I448))
                                  (bnd1 (ifb (x12 = 45)
                                      (some (-1))
                                      (some 1)) fun (y451 : Int32) =>
                                  l_Fee_learn_29 S R v0 v1 f I448 0 y451 0 (v5 + 1)))))))))))
                (bnd1 (f_Fee_isLetter x12) fun x454 =>
                ifb (x454 = 0)
                  (ifb (y15 = 0)
                    (some (v5, I))
                    (ifb (v2 = 0)
                      (some (v5, I))
                      (ifb (v2 = 3)
                        (some (v5, I))
                        (lt ((I v0 0) + (v3 * v4)) fun (x460 : Int32) =>
                        lt (wI I v0 0 x460) fun (I461 : MI) =>
                        ifb (x12 = (-1))
                          (some ((-1), I461))
                          (bnd1 (ifb (x12 = 45)
                              (some (-1))
                              (some 1)) fun (y464 : Int32) =>
                          l_Fee_learn_29 S R v0 v1 f I461 0 y464 0 (v5 + 1))))))
                  (ifb (v2 = 0)
                    (bnd1 (ifb (v2 = 0)
                        (some 1)
                        (some v4)) fun (y469 : Int32) =>
                    bnd1 (f_Fee_addTo S I v0 x12 (v3 * y469)) fun I472 =>
                    l_Fee_learn_29 S R v0 v1 f I472 4 v3 0 (v5 + 1))
                    (ifb (v2 = 3)
                      (bnd1 (ifb (v2 = 0)
                          (some 1)
                          (some v4)) fun (y476 : Int32) =>
                      bnd1 (f_Fee_addTo S I v0 x12 (v3 * y476)) fun I479 =>
                      l_Fee_learn_29 S R v0 v1 f I479 4 v3 0 (v5 + 1))
                      (ifb (y15 = 0)
                        (some (v5, I))
                        (ifb (v2 = 0)
                          (some (v5, I))
                          (ifb (v2 = 3)
                            (some (v5, I))
                            (lt ((I v0 0) + (v3 * v4)) fun (x484 : Int32) =>
                            lt (wI I v0 0 x484) fun (I485 : MI) =>
                            ifb (x12 = (-1))
                              (some ((-1), I485))
                              (bnd1 (ifb (x12 = 45)
                                  (some (-1))
                                  (some 1)) fun (y488 : Int32) =>
                              l_Fee_learn_29 S R v0 v1 f I485 0 y488 0 (v5 + 1))))))))))
              (lt (((v4 * 10) + x12) - 48) fun (x491 : Int32) =>
              l_Fee_learn_29 S R v0 v1 f I (v2 + 1) v3 x491 (v5 + 1))))))
set_option maxRecDepth 100000 in
set_option maxHeartbeats 4000000 in
theorem xl_Fee_learn_29 {E : Env} (hE : OKE E) {tg : Bool} {d : Nat} (hd : 1 ≤ d) {S : MS} {L : ML} {R : MR} {n : Nat} {v0 : Nat} {v1 : Nat} :
    ∀ {f : Nat} {I : MI} {v2 : Int32} {v3 : Int32} {v4 : Int32} {v5 : Int32} {v : Int32} {I' : MI}, (S v0).1 = 0 → l_Fee_learn_29 S R v0 v1 f I v2 v3 v4 v5 = some (v, I') → X E y_Fee_learn b_Fee_learn 8 (some .int) tg d 0 0 29 [some (.ref (e_b E + v0)), some (.ref (e_b E + v1)), some (.int v2), some (.int v3), some (.int v4), some (.int v5), none, none] [] S I L R n (Kq (some (.int v)) S I' L R n) := by
  intro f
  induction f with
  | zero =>
    intro I v2 v3 v4 v5 v I' hS h
    rw [l_Fee_learn_29] at h
    cases h
  | succ f ih =>
    intro I v2 v3 v4 v5 v I' hS h
    rw [l_Fee_learn_29] at h
    refine X.iload_5 (pc := 29) (by decide +kernel) ?_
    refine X.bipush (pc := 31) (i := 30) (v := 30) bp_30 (by decide +kernel) ?_
    rcases ifb_some h with ⟨hq10, h⟩ | ⟨hq10, h⟩
    · refine X.icmp_gt_t (pc := 33) (off := 222) (tgt := 255) hq10 rfl (by decide +kernel) ?_
      refine X.bipush (pc := 255) (i := 30) (v := 30) bp_30 (by decide +kernel) ?_
      have j0 := Option.some.inj h
      obtain ⟨i0, j1⟩ := Prod.mk.inj j0
      subst i0
      subst j1
      exact X.ireturn (pc := 257) (by decide +kernel) ⟨_, rfl, rfl⟩ ⟨rfl, rfl, rfl, rfl, rfl, rfl⟩
    · refine X.icmp_gt_f (pc := 33) (off := 222) (tgt := 255) hq10 rfl (by decide +kernel) ?_
      refine X.aload_1 (pc := 36) (by decide +kernel) ?_
      refine X.iload_5 (pc := 37) (by decide +kernel) ?_
      obtain ⟨hc11, h⟩ := asrt_some h
      obtain ⟨x12, hv13, h⟩ := bnd1_some h
      refine X.callVi (pc := 39) (nc := 0) (ns := 0) (c_Signs_at hE (dle hd (Nat.le_of_ble_eq_true rfl)) hc11 hv13) cv_Fee_40 (by decide +kernel) hc11 ⟨by decide, rfl⟩ (ddd hd (Nat.le_of_ble_eq_true rfl)) rfl (Nat.le_of_ble_eq_true rfl) rfl rfl ?_
      refine X.istore_6 (pc := 42) (by decide +kernel) (by decide) rfl ?_
      refine X.iload_6 (pc := 44) (by decide +kernel) ?_
      refine X.iconst (pc := 46) (i := (-1)) (v := (-1)) ic_m1 (by decide +kernel) ?_
      obtain ⟨y15, hr16, h⟩ := bnd1_some h
      have hj17 : X E y_Fee_learn b_Fee_learn 8 (some .int) tg d 0 0 69 [some (.ref (e_b E + v0)), some (.ref (e_b E + v1)), some (.int v2), some (.int v3), some (.int v4), some (.int v5), some (.int x12), none] [.int y15] S I L R n (Kq (some (.int v)) S I' L R n) := by
        refine X.istore_7 (pc := 69) (by decide +kernel) (by decide) rfl ?_
        refine X.iload_5 (pc := 71) (by decide +kernel) ?_
        refine X.bipush (pc := 73) (i := 30) (v := 30) bp_30 (by decide +kernel) ?_
        rcases ifb_some h with ⟨hq20, h⟩ | ⟨hq20, h⟩
        · refine X.icmp_ne_f (pc := 75) (off := 12) (tgt := 87) hq20 rfl (by decide +kernel) ?_
          refine X.iload_6 (pc := 78) (by decide +kernel) ?_
          refine X.iconst (pc := 80) (i := (-1)) (v := (-1)) ic_m1 (by decide +kernel) ?_
          rcases ifb_some h with ⟨hq21, h⟩ | ⟨hq21, h⟩
          · refine X.icmp_eq_t (pc := 81) (off := 6) (tgt := 87) hq21 rfl (by decide +kernel) ?_
            refine X.iload_6 (pc := 87) (by decide +kernel) ?_
            refine X.bipush (pc := 89) (i := 48) (v := 48) bp_48 (by decide +kernel) ?_
            rcases ifb_some h with ⟨hq22, h⟩ | ⟨hq22, h⟩
            · refine X.icmp_lt_t (pc := 91) (off := 34) (tgt := 125) hq22 rfl (by decide +kernel) ?_
              refine X.iload_6 (pc := 125) (by decide +kernel) ?_
              refine X.bipush (pc := 127) (i := 42) (v := 42) bp_42 (by decide +kernel) ?_
              rcases ifb_some h with ⟨hq23, h⟩ | ⟨hq23, h⟩
              · refine X.icmp_ne_f (pc := 129) (off := 18) (tgt := 147) hq23 rfl (by decide +kernel) ?_
                refine X.iload_2 (pc := 132) (by decide +kernel) ?_
                refine X.iconst (pc := 133) (i := 1) (v := 1) ic_1 (by decide +kernel) ?_
                rcases ifb_some h with ⟨hq24, h⟩ | ⟨hq24, h⟩
                · refine X.icmp_eq_t (pc := 134) (off := 8) (tgt := 142) hq24 rfl (by decide +kernel) ?_
                  refine X.iconst (pc := 142) (i := 3) (v := 3) ic_3 (by decide +kernel) ?_
                  refine X.istore_2 (pc := 143) (by decide +kernel) (by decide) rfl ?_
                  refine X.goto (pc := 144) (off := 105) (tgt := 249) (by decide +kernel) rfl ?_
                  refine X.iinc_5 (pc := 249) (z := 1) (v := 1) ic_1 (by decide +kernel) (by decide) rfl ?_
                  refine X.goto (pc := 252) (off := (-223)) (tgt := 29) (by decide +kernel) rfl ?_
                  refine X.fgt (o' := [some (.ref (e_b E + v0)), some (.ref (e_b E + v1)), some (.int 3), some (.int v3), some (.int v4), some (.int (v5 + 1)), none, none]) ⟨rfl, ⟨rfl, ⟨rfl, ⟨rfl, ⟨rfl, ⟨rfl, trivial⟩⟩⟩⟩⟩⟩ ?_
                  exact ih hS h
                · refine X.icmp_eq_f (pc := 134) (off := 8) (tgt := 142) hq24 rfl (by decide +kernel) ?_
                  refine X.iload_2 (pc := 137) (by decide +kernel) ?_
                  refine X.iconst (pc := 138) (i := 2) (v := 2) ic_2 (by decide +kernel) ?_
                  rcases ifb_some h with ⟨hq25, h⟩ | ⟨hq25, h⟩
                  · refine X.icmp_ne_f (pc := 139) (off := 8) (tgt := 147) hq25 rfl (by decide +kernel) ?_
                    refine X.iconst (pc := 142) (i := 3) (v := 3) ic_3 (by decide +kernel) ?_
                    refine X.istore_2 (pc := 143) (by decide +kernel) (by decide) rfl ?_
                    refine X.goto (pc := 144) (off := 105) (tgt := 249) (by decide +kernel) rfl ?_
                    refine X.iinc_5 (pc := 249) (z := 1) (v := 1) ic_1 (by decide +kernel) (by decide) rfl ?_
                    refine X.goto (pc := 252) (off := (-223)) (tgt := 29) (by decide +kernel) rfl ?_
                    refine X.fgt (o' := [some (.ref (e_b E + v0)), some (.ref (e_b E + v1)), some (.int 3), some (.int v3), some (.int v4), some (.int (v5 + 1)), none, none]) ⟨rfl, ⟨rfl, ⟨rfl, ⟨rfl, ⟨rfl, ⟨rfl, trivial⟩⟩⟩⟩⟩⟩ ?_
                    exact ih hS h
                  · refine X.icmp_ne_t (pc := 139) (off := 8) (tgt := 147) hq25 rfl (by decide +kernel) ?_
                    refine X.iload_6 (pc := 147) (by decide +kernel) ?_
                    obtain ⟨x26, hv27, h⟩ := bnd1_some h
                    refine X.callSi (pc := 149) (nc := 0) (ns := 0) (c_Fee_isLetter hE (dle hd (Nat.le_of_ble_eq_true rfl)) hv27) cv_Fee_44 (by decide +kernel) (ddd hd (Nat.le_of_ble_eq_true rfl)) rfl (Nat.le_of_ble_eq_true rfl) rfl rfl ?_
                    rcases ifb_some h with ⟨hq28, h⟩ | ⟨hq28, h⟩
                    · refine X.if_eq_t (pc := 152) (off := 38) (tgt := 190) hq28 rfl (by decide +kernel) ?_
                      refine X.iload_7 (pc := 190) (by decide +kernel) ?_
                      rcases ifb_some h with ⟨hq29, h⟩ | ⟨hq29, h⟩
                      · refine X.if_eq_t (pc := 192) (off := 54) (tgt := 246) hq29 rfl (by decide +kernel) ?_
                        refine X.iload_5 (pc := 246) (by decide +kernel) ?_
                        have j0 := Option.some.inj h
                        obtain ⟨i0, j1⟩ := Prod.mk.inj j0
                        subst i0
                        subst j1
                        exact X.ireturn (pc := 248) (by decide +kernel) ⟨_, rfl, rfl⟩ ⟨rfl, rfl, rfl, rfl, rfl, rfl⟩
                      · refine X.if_eq_f (pc := 192) (off := 54) (tgt := 246) hq29 rfl (by decide +kernel) ?_
                        refine X.iload_2 (pc := 195) (by decide +kernel) ?_
                        rcases ifb_some h with ⟨hq30, h⟩ | ⟨hq30, h⟩
                        · refine X.if_eq_t (pc := 196) (off := 50) (tgt := 246) hq30 rfl (by decide +kernel) ?_
                          refine X.iload_5 (pc := 246) (by decide +kernel) ?_
                          have j0 := Option.some.inj h
                          obtain ⟨i0, j1⟩ := Prod.mk.inj j0
                          subst i0
                          subst j1
                          exact X.ireturn (pc := 248) (by decide +kernel) ⟨_, rfl, rfl⟩ ⟨rfl, rfl, rfl, rfl, rfl, rfl⟩
                        · refine X.if_eq_f (pc := 196) (off := 50) (tgt := 246) hq30 rfl (by decide +kernel) ?_
                          refine X.iload_2 (pc := 199) (by decide +kernel) ?_
                          refine X.iconst (pc := 200) (i := 3) (v := 3) ic_3 (by decide +kernel) ?_
                          rcases ifb_some h with ⟨hq31, h⟩ | ⟨hq31, h⟩
                          · refine X.icmp_eq_t (pc := 201) (off := 45) (tgt := 246) hq31 rfl (by decide +kernel) ?_
                            refine X.iload_5 (pc := 246) (by decide +kernel) ?_
                            have j0 := Option.some.inj h
                            obtain ⟨i0, j1⟩ := Prod.mk.inj j0
                            subst i0
                            subst j1
                            exact X.ireturn (pc := 248) (by decide +kernel) ⟨_, rfl, rfl⟩ ⟨rfl, rfl, rfl, rfl, rfl, rfl⟩
                          · refine X.icmp_eq_f (pc := 201) (off := 45) (tgt := 246) hq31 rfl (by decide +kernel) ?_
                            refine X.aload_0 (pc := 204) (by decide +kernel) ?_
                            refine X.dupr (pc := 205) (by decide +kernel) ?_
                            refine X.getI (pc := 206) (k := 0) fw_Fee_15 (by decide +kernel) (fun _ => rfl) hS ?_
                            refine X.iload_3 (pc := 209) (by decide +kernel) ?_
                            refine X.iload_4 (pc := 210) (by decide +kernel) ?_
                            refine X.imul (pc := 212) (by decide +kernel) ?_
                            refine X.iadd (pc := 213) (by decide +kernel) ?_
                            refine X.nameI (fun x32 hx32 => ?_)
                            have h := lt_at hx32 h
                            refine X.putI (pc := 214) (k := 0) fw_Fee_15 (by decide +kernel) rfl rfl hS ?_
                            refine X.nameMI (fun I33 hI33 => ?_)
                            have h := lt_at hI33 h
                            refine X.iload_6 (pc := 217) (by decide +kernel) ?_
                            refine X.iconst (pc := 219) (i := (-1)) (v := (-1)) ic_m1 (by decide +kernel) ?_
                            rcases ifb_some h with ⟨hq34, h⟩ | ⟨hq34, h⟩
                            · refine X.icmp_ne_f (pc := 220) (off := 5) (tgt := 225) hq34 rfl (by decide +kernel) ?_
                              refine X.iconst (pc := 223) (i := (-1)) (v := (-1)) ic_m1 (by decide +kernel) ?_
                              have j0 := Option.some.inj h
                              obtain ⟨i0, j1⟩ := Prod.mk.inj j0
                              subst i0
                              subst j1
                              exact X.ireturn (pc := 224) (by decide +kernel) ⟨_, rfl, rfl⟩ ⟨rfl, rfl, rfl, rfl, rfl, rfl⟩
                            · refine X.icmp_ne_t (pc := 220) (off := 5) (tgt := 225) hq34 rfl (by decide +kernel) ?_
                              refine X.iload_6 (pc := 225) (by decide +kernel) ?_
                              refine X.bipush (pc := 227) (i := 45) (v := 45) bp_45 (by decide +kernel) ?_
                              obtain ⟨y36, hr37, h⟩ := bnd1_some h
                              have hj38 : X E y_Fee_learn b_Fee_learn 8 (some .int) tg d 0 0 237 [some (.ref (e_b E + v0)), some (.ref (e_b E + v1)), none, none, none, some (.int v5), none, none] [.int y36] S I33 L R n (Kq (some (.int v)) S I' L R n) := by
                                refine X.istore_3 (pc := 237) (by decide +kernel) (by decide) rfl ?_
                                refine X.iconst (pc := 238) (i := 0) (v := 0) ic_0 (by decide +kernel) ?_
                                refine X.istore_4 (pc := 239) (by decide +kernel) (by decide) rfl ?_
                                refine X.iconst (pc := 241) (i := 0) (v := 0) ic_0 (by decide +kernel) ?_
                                refine X.istore_2 (pc := 242) (by decide +kernel) (by decide) rfl ?_
                                refine X.goto (pc := 243) (off := 6) (tgt := 249) (by decide +kernel) rfl ?_
                                refine X.iinc_5 (pc := 249) (z := 1) (v := 1) ic_1 (by decide +kernel) (by decide) rfl ?_
                                refine X.goto (pc := 252) (off := (-223)) (tgt := 29) (by decide +kernel) rfl ?_
                                exact ih hS h
                              have h := hr37
                              rcases ifb_some h with ⟨hq35, h⟩ | ⟨hq35, h⟩
                              · refine X.icmp_ne_f (pc := 229) (off := 7) (tgt := 236) hq35 rfl (by decide +kernel) ?_
                                refine X.iconst (pc := 232) (i := (-1)) (v := (-1)) ic_m1 (by decide +kernel) ?_
                                refine X.goto (pc := 233) (off := 4) (tgt := 237) (by decide +kernel) rfl ?_
                                have j0 := Option.some.inj h
                                subst j0
                                refine X.fgt (o' := [some (.ref (e_b E + v0)), some (.ref (e_b E + v1)), none, none, none, some (.int v5), none, none]) ⟨rfl, ⟨rfl, ⟨rfl, trivial⟩⟩⟩ ?_
                                exact hj38
                              · refine X.icmp_ne_t (pc := 229) (off := 7) (tgt := 236) hq35 rfl (by decide +kernel) ?_
                                refine X.iconst (pc := 236) (i := 1) (v := 1) ic_1 (by decide +kernel) ?_
                                have j0 := Option.some.inj h
                                subst j0
                                refine X.fgt (o' := [some (.ref (e_b E + v0)), some (.ref (e_b E + v1)), none, none, none, some (.int v5), none, none]) ⟨rfl, ⟨rfl, ⟨rfl, trivial⟩⟩⟩ ?_
                                exact hj38
                    · refine X.if_eq_f (pc := 152) (off := 38) (tgt := 190) hq28 rfl (by decide +kernel) ?_
                      refine X.iload_2 (pc := 155) (by decide +kernel) ?_
                      rcases ifb_some h with ⟨hq39, h⟩ | ⟨hq39, h⟩
                      · refine X.if_eq_t (pc := 156) (off := 8) (tgt := 164) hq39 rfl (by decide +kernel) ?_
                        refine X.aload_0 (pc := 164) (by decide +kernel) ?_
                        refine X.iload_6 (pc := 165) (by decide +kernel) ?_
                        refine X.iload_3 (pc := 167) (by decide +kernel) ?_
                        refine X.iload_2 (pc := 168) (by decide +kernel) ?_
                        obtain ⟨y41, hr42, h⟩ := bnd1_some h
                        have hj43 : X E y_Fee_learn b_Fee_learn 8 (some .int) tg d 0 0 178 [some (.ref (e_b E + v0)), some (.ref (e_b E + v1)), none, some (.int v3), none, some (.int v5), none, none] [.int y41, .int v3, .int x12, .ref (e_b E + v0)] S I L R n (Kq (some (.int v)) S I' L R n) := by
                          refine X.imul (pc := 178) (by decide +kernel) ?_
                          obtain ⟨I44, hv45, h⟩ := bnd1_some h
                          refine X.callVv (pc := 179) (nc := 0) (ns := 0) (c_Fee_addTo hE (dle hd (Nat.le_of_ble_eq_true rfl)) hS hv45) cv_Fee_48 (by decide +kernel) hS ⟨by decide, rfl⟩ (ddd hd (Nat.le_of_ble_eq_true rfl)) rfl (Nat.le_of_ble_eq_true rfl) rfl rfl ?_
                          refine X.iconst (pc := 182) (i := 0) (v := 0) ic_0 (by decide +kernel) ?_
                          refine X.istore_4 (pc := 183) (by decide +kernel) (by decide) rfl ?_
                          refine X.iconst (pc := 185) (i := 4) (v := 4) ic_4 (by decide +kernel) ?_
                          refine X.istore_2 (pc := 186) (by decide +kernel) (by decide) rfl ?_
                          refine X.goto (pc := 187) (off := 62) (tgt := 249) (by decide +kernel) rfl ?_
                          refine X.iinc_5 (pc := 249) (z := 1) (v := 1) ic_1 (by decide +kernel) (by decide) rfl ?_
                          refine X.goto (pc := 252) (off := (-223)) (tgt := 29) (by decide +kernel) rfl ?_
                          exact ih hS h
                        have h := hr42
                        rcases ifb_some h with ⟨hq40, h⟩ | ⟨hq40, h⟩
                        · refine X.if_ne_f (pc := 169) (off := 7) (tgt := 176) hq40 rfl (by decide +kernel) ?_
                          refine X.iconst (pc := 172) (i := 1) (v := 1) ic_1 (by decide +kernel) ?_
                          refine X.goto (pc := 173) (off := 5) (tgt := 178) (by decide +kernel) rfl ?_
                          have j0 := Option.some.inj h
                          subst j0
                          refine X.fgt (o' := [some (.ref (e_b E + v0)), some (.ref (e_b E + v1)), none, some (.int v3), none, some (.int v5), none, none]) ⟨rfl, ⟨rfl, ⟨rfl, ⟨rfl, trivial⟩⟩⟩⟩ ?_
                          exact hj43
                        · refine X.if_ne_t (pc := 169) (off := 7) (tgt := 176) hq40 rfl (by decide +kernel) ?_
                          refine X.iload_4 (pc := 176) (by decide +kernel) ?_
                          have j0 := Option.some.inj h
                          subst j0
                          refine X.fgt (o' := [some (.ref (e_b E + v0)), some (.ref (e_b E + v1)), none, some (.int v3), none, some (.int v5), none, none]) ⟨rfl, ⟨rfl, ⟨rfl, ⟨rfl, trivial⟩⟩⟩⟩ ?_
                          exact hj43
                      · refine X.if_eq_f (pc := 156) (off := 8) (tgt := 164) hq39 rfl (by decide +kernel) ?_
                        refine X.iload_2 (pc := 159) (by decide +kernel) ?_
                        refine X.iconst (pc := 160) (i := 3) (v := 3) ic_3 (by decide +kernel) ?_
                        rcases ifb_some h with ⟨hq46, h⟩ | ⟨hq46, h⟩
                        · refine X.icmp_ne_f (pc := 161) (off := 29) (tgt := 190) hq46 rfl (by decide +kernel) ?_
                          refine X.aload_0 (pc := 164) (by decide +kernel) ?_
                          refine X.iload_6 (pc := 165) (by decide +kernel) ?_
                          refine X.iload_3 (pc := 167) (by decide +kernel) ?_
                          refine X.iload_2 (pc := 168) (by decide +kernel) ?_
                          obtain ⟨y48, hr49, h⟩ := bnd1_some h
                          have hj50 : X E y_Fee_learn b_Fee_learn 8 (some .int) tg d 0 0 178 [some (.ref (e_b E + v0)), some (.ref (e_b E + v1)), none, some (.int v3), none, some (.int v5), none, none] [.int y48, .int v3, .int x12, .ref (e_b E + v0)] S I L R n (Kq (some (.int v)) S I' L R n) := by
                            refine X.imul (pc := 178) (by decide +kernel) ?_
                            obtain ⟨I51, hv52, h⟩ := bnd1_some h
                            refine X.callVv (pc := 179) (nc := 0) (ns := 0) (c_Fee_addTo hE (dle hd (Nat.le_of_ble_eq_true rfl)) hS hv52) cv_Fee_48 (by decide +kernel) hS ⟨by decide, rfl⟩ (ddd hd (Nat.le_of_ble_eq_true rfl)) rfl (Nat.le_of_ble_eq_true rfl) rfl rfl ?_
                            refine X.iconst (pc := 182) (i := 0) (v := 0) ic_0 (by decide +kernel) ?_
                            refine X.istore_4 (pc := 183) (by decide +kernel) (by decide) rfl ?_
                            refine X.iconst (pc := 185) (i := 4) (v := 4) ic_4 (by decide +kernel) ?_
                            refine X.istore_2 (pc := 186) (by decide +kernel) (by decide) rfl ?_
                            refine X.goto (pc := 187) (off := 62) (tgt := 249) (by decide +kernel) rfl ?_
                            refine X.iinc_5 (pc := 249) (z := 1) (v := 1) ic_1 (by decide +kernel) (by decide) rfl ?_
                            refine X.goto (pc := 252) (off := (-223)) (tgt := 29) (by decide +kernel) rfl ?_
                            exact ih hS h
                          have h := hr49
                          rcases ifb_some h with ⟨hq47, h⟩ | ⟨hq47, h⟩
                          · refine X.if_ne_f (pc := 169) (off := 7) (tgt := 176) hq47 rfl (by decide +kernel) ?_
                            refine X.iconst (pc := 172) (i := 1) (v := 1) ic_1 (by decide +kernel) ?_
                            refine X.goto (pc := 173) (off := 5) (tgt := 178) (by decide +kernel) rfl ?_
                            have j0 := Option.some.inj h
                            subst j0
                            refine X.fgt (o' := [some (.ref (e_b E + v0)), some (.ref (e_b E + v1)), none, some (.int v3), none, some (.int v5), none, none]) ⟨rfl, ⟨rfl, ⟨rfl, ⟨rfl, trivial⟩⟩⟩⟩ ?_
                            exact hj50
                          · refine X.if_ne_t (pc := 169) (off := 7) (tgt := 176) hq47 rfl (by decide +kernel) ?_
                            refine X.iload_4 (pc := 176) (by decide +kernel) ?_
                            have j0 := Option.some.inj h
                            subst j0
                            refine X.fgt (o' := [some (.ref (e_b E + v0)), some (.ref (e_b E + v1)), none, some (.int v3), none, some (.int v5), none, none]) ⟨rfl, ⟨rfl, ⟨rfl, ⟨rfl, trivial⟩⟩⟩⟩ ?_
                            exact hj50
                        · refine X.icmp_ne_t (pc := 161) (off := 29) (tgt := 190) hq46 rfl (by decide +kernel) ?_
                          refine X.iload_7 (pc := 190) (by decide +kernel) ?_
                          rcases ifb_some h with ⟨hq53, h⟩ | ⟨hq53, h⟩
                          · refine X.if_eq_t (pc := 192) (off := 54) (tgt := 246) hq53 rfl (by decide +kernel) ?_
                            refine X.iload_5 (pc := 246) (by decide +kernel) ?_
                            have j0 := Option.some.inj h
                            obtain ⟨i0, j1⟩ := Prod.mk.inj j0
                            subst i0
                            subst j1
                            exact X.ireturn (pc := 248) (by decide +kernel) ⟨_, rfl, rfl⟩ ⟨rfl, rfl, rfl, rfl, rfl, rfl⟩
                          · refine X.if_eq_f (pc := 192) (off := 54) (tgt := 246) hq53 rfl (by decide +kernel) ?_
                            refine X.iload_2 (pc := 195) (by decide +kernel) ?_
                            rcases ifb_some h with ⟨hq54, h⟩ | ⟨hq54, h⟩
                            · refine X.if_eq_t (pc := 196) (off := 50) (tgt := 246) hq54 rfl (by decide +kernel) ?_
                              refine X.iload_5 (pc := 246) (by decide +kernel) ?_
                              have j0 := Option.some.inj h
                              obtain ⟨i0, j1⟩ := Prod.mk.inj j0
                              subst i0
                              subst j1
                              exact X.ireturn (pc := 248) (by decide +kernel) ⟨_, rfl, rfl⟩ ⟨rfl, rfl, rfl, rfl, rfl, rfl⟩
                            · refine X.if_eq_f (pc := 196) (off := 50) (tgt := 246) hq54 rfl (by decide +kernel) ?_
                              refine X.iload_2 (pc := 199) (by decide +kernel) ?_
                              refine X.iconst (pc := 200) (i := 3) (v := 3) ic_3 (by decide +kernel) ?_
                              rcases ifb_some h with ⟨hq55, h⟩ | ⟨hq55, h⟩
                              · refine X.icmp_eq_t (pc := 201) (off := 45) (tgt := 246) hq55 rfl (by decide +kernel) ?_
                                refine X.iload_5 (pc := 246) (by decide +kernel) ?_
                                have j0 := Option.some.inj h
                                obtain ⟨i0, j1⟩ := Prod.mk.inj j0
                                subst i0
                                subst j1
                                exact X.ireturn (pc := 248) (by decide +kernel) ⟨_, rfl, rfl⟩ ⟨rfl, rfl, rfl, rfl, rfl, rfl⟩
                              · refine X.icmp_eq_f (pc := 201) (off := 45) (tgt := 246) hq55 rfl (by decide +kernel) ?_
                                refine X.aload_0 (pc := 204) (by decide +kernel) ?_
                                refine X.dupr (pc := 205) (by decide +kernel) ?_
                                refine X.getI (pc := 206) (k := 0) fw_Fee_15 (by decide +kernel) (fun _ => rfl) hS ?_
                                refine X.iload_3 (pc := 209) (by decide +kernel) ?_
                                refine X.iload_4 (pc := 210) (by decide +kernel) ?_
                                refine X.imul (pc := 212) (by decide +kernel) ?_
                                refine X.iadd (pc := 213) (by decide +kernel) ?_
                                refine X.nameI (fun x56 hx56 => ?_)
                                have h := lt_at hx56 h
                                refine X.putI (pc := 214) (k := 0) fw_Fee_15 (by decide +kernel) rfl rfl hS ?_
                                refine X.nameMI (fun I57 hI57 => ?_)
                                have h := lt_at hI57 h
                                refine X.iload_6 (pc := 217) (by decide +kernel) ?_
                                refine X.iconst (pc := 219) (i := (-1)) (v := (-1)) ic_m1 (by decide +kernel) ?_
                                rcases ifb_some h with ⟨hq58, h⟩ | ⟨hq58, h⟩
                                · refine X.icmp_ne_f (pc := 220) (off := 5) (tgt := 225) hq58 rfl (by decide +kernel) ?_
                                  refine X.iconst (pc := 223) (i := (-1)) (v := (-1)) ic_m1 (by decide +kernel) ?_
                                  have j0 := Option.some.inj h
                                  obtain ⟨i0, j1⟩ := Prod.mk.inj j0
                                  subst i0
                                  subst j1
                                  exact X.ireturn (pc := 224) (by decide +kernel) ⟨_, rfl, rfl⟩ ⟨rfl, rfl, rfl, rfl, rfl, rfl⟩
                                · refine X.icmp_ne_t (pc := 220) (off := 5) (tgt := 225) hq58 rfl (by decide +kernel) ?_
                                  refine X.iload_6 (pc := 225) (by decide +kernel) ?_
                                  refine X.bipush (pc := 227) (i := 45) (v := 45) bp_45 (by decide +kernel) ?_
                                  obtain ⟨y60, hr61, h⟩ := bnd1_some h
                                  have hj62 : X E y_Fee_learn b_Fee_learn 8 (some .int) tg d 0 0 237 [some (.ref (e_b E + v0)), some (.ref (e_b E + v1)), none, none, none, some (.int v5), none, none] [.int y60] S I57 L R n (Kq (some (.int v)) S I' L R n) := by
                                    refine X.istore_3 (pc := 237) (by decide +kernel) (by decide) rfl ?_
                                    refine X.iconst (pc := 238) (i := 0) (v := 0) ic_0 (by decide +kernel) ?_
                                    refine X.istore_4 (pc := 239) (by decide +kernel) (by decide) rfl ?_
                                    refine X.iconst (pc := 241) (i := 0) (v := 0) ic_0 (by decide +kernel) ?_
                                    refine X.istore_2 (pc := 242) (by decide +kernel) (by decide) rfl ?_
                                    refine X.goto (pc := 243) (off := 6) (tgt := 249) (by decide +kernel) rfl ?_
                                    refine X.iinc_5 (pc := 249) (z := 1) (v := 1) ic_1 (by decide +kernel) (by decide) rfl ?_
                                    refine X.goto (pc := 252) (off := (-223)) (tgt := 29) (by decide +kernel) rfl ?_
                                    exact ih hS h
                                  have h := hr61
                                  rcases ifb_some h with ⟨hq59, h⟩ | ⟨hq59, h⟩
                                  · refine X.icmp_ne_f (pc := 229) (off := 7) (tgt := 236) hq59 rfl (by decide +kernel) ?_
                                    refine X.iconst (pc := 232) (i := (-1)) (v := (-1)) ic_m1 (by decide +kernel) ?_
                                    refine X.goto (pc := 233) (off := 4) (tgt := 237) (by decide +kernel) rfl ?_
                                    have j0 := Option.some.inj h
                                    subst j0
                                    refine X.fgt (o' := [some (.ref (e_b E + v0)), some (.ref (e_b E + v1)), none, none, none, some (.int v5), none, none]) ⟨rfl, ⟨rfl, ⟨rfl, trivial⟩⟩⟩ ?_
                                    exact hj62
                                  · refine X.icmp_ne_t (pc := 229) (off := 7) (tgt := 236) hq59 rfl (by decide +kernel) ?_
                                    refine X.iconst (pc := 236) (i := 1) (v := 1) ic_1 (by decide +kernel) ?_
                                    have j0 := Option.some.inj h
                                    subst j0
                                    refine X.fgt (o' := [some (.ref (e_b E + v0)), some (.ref (e_b E + v1)), none, none, none, some (.int v5), none, none]) ⟨rfl, ⟨rfl, ⟨rfl, trivial⟩⟩⟩ ?_
                                    exact hj62
              · refine X.icmp_ne_t (pc := 129) (off := 18) (tgt := 147) hq23 rfl (by decide +kernel) ?_
                refine X.iload_6 (pc := 147) (by decide +kernel) ?_
                obtain ⟨x63, hv64, h⟩ := bnd1_some h
                refine X.callSi (pc := 149) (nc := 0) (ns := 0) (c_Fee_isLetter hE (dle hd (Nat.le_of_ble_eq_true rfl)) hv64) cv_Fee_44 (by decide +kernel) (ddd hd (Nat.le_of_ble_eq_true rfl)) rfl (Nat.le_of_ble_eq_true rfl) rfl rfl ?_
                rcases ifb_some h with ⟨hq65, h⟩ | ⟨hq65, h⟩
                · refine X.if_eq_t (pc := 152) (off := 38) (tgt := 190) hq65 rfl (by decide +kernel) ?_
                  refine X.iload_7 (pc := 190) (by decide +kernel) ?_
                  rcases ifb_some h with ⟨hq66, h⟩ | ⟨hq66, h⟩
                  · refine X.if_eq_t (pc := 192) (off := 54) (tgt := 246) hq66 rfl (by decide +kernel) ?_
                    refine X.iload_5 (pc := 246) (by decide +kernel) ?_
                    have j0 := Option.some.inj h
                    obtain ⟨i0, j1⟩ := Prod.mk.inj j0
                    subst i0
                    subst j1
                    exact X.ireturn (pc := 248) (by decide +kernel) ⟨_, rfl, rfl⟩ ⟨rfl, rfl, rfl, rfl, rfl, rfl⟩
                  · refine X.if_eq_f (pc := 192) (off := 54) (tgt := 246) hq66 rfl (by decide +kernel) ?_
                    refine X.iload_2 (pc := 195) (by decide +kernel) ?_
                    rcases ifb_some h with ⟨hq67, h⟩ | ⟨hq67, h⟩
                    · refine X.if_eq_t (pc := 196) (off := 50) (tgt := 246) hq67 rfl (by decide +kernel) ?_
                      refine X.iload_5 (pc := 246) (by decide +kernel) ?_
                      have j0 := Option.some.inj h
                      obtain ⟨i0, j1⟩ := Prod.mk.inj j0
                      subst i0
                      subst j1
                      exact X.ireturn (pc := 248) (by decide +kernel) ⟨_, rfl, rfl⟩ ⟨rfl, rfl, rfl, rfl, rfl, rfl⟩
                    · refine X.if_eq_f (pc := 196) (off := 50) (tgt := 246) hq67 rfl (by decide +kernel) ?_
                      refine X.iload_2 (pc := 199) (by decide +kernel) ?_
                      refine X.iconst (pc := 200) (i := 3) (v := 3) ic_3 (by decide +kernel) ?_
                      rcases ifb_some h with ⟨hq68, h⟩ | ⟨hq68, h⟩
                      · refine X.icmp_eq_t (pc := 201) (off := 45) (tgt := 246) hq68 rfl (by decide +kernel) ?_
                        refine X.iload_5 (pc := 246) (by decide +kernel) ?_
                        have j0 := Option.some.inj h
                        obtain ⟨i0, j1⟩ := Prod.mk.inj j0
                        subst i0
                        subst j1
                        exact X.ireturn (pc := 248) (by decide +kernel) ⟨_, rfl, rfl⟩ ⟨rfl, rfl, rfl, rfl, rfl, rfl⟩
                      · refine X.icmp_eq_f (pc := 201) (off := 45) (tgt := 246) hq68 rfl (by decide +kernel) ?_
                        refine X.aload_0 (pc := 204) (by decide +kernel) ?_
                        refine X.dupr (pc := 205) (by decide +kernel) ?_
                        refine X.getI (pc := 206) (k := 0) fw_Fee_15 (by decide +kernel) (fun _ => rfl) hS ?_
                        refine X.iload_3 (pc := 209) (by decide +kernel) ?_
                        refine X.iload_4 (pc := 210) (by decide +kernel) ?_
                        refine X.imul (pc := 212) (by decide +kernel) ?_
                        refine X.iadd (pc := 213) (by decide +kernel) ?_
                        refine X.nameI (fun x69 hx69 => ?_)
                        have h := lt_at hx69 h
                        refine X.putI (pc := 214) (k := 0) fw_Fee_15 (by decide +kernel) rfl rfl hS ?_
                        refine X.nameMI (fun I70 hI70 => ?_)
                        have h := lt_at hI70 h
                        refine X.iload_6 (pc := 217) (by decide +kernel) ?_
                        refine X.iconst (pc := 219) (i := (-1)) (v := (-1)) ic_m1 (by decide +kernel) ?_
                        rcases ifb_some h with ⟨hq71, h⟩ | ⟨hq71, h⟩
                        · refine X.icmp_ne_f (pc := 220) (off := 5) (tgt := 225) hq71 rfl (by decide +kernel) ?_
                          refine X.iconst (pc := 223) (i := (-1)) (v := (-1)) ic_m1 (by decide +kernel) ?_
                          have j0 := Option.some.inj h
                          obtain ⟨i0, j1⟩ := Prod.mk.inj j0
                          subst i0
                          subst j1
                          exact X.ireturn (pc := 224) (by decide +kernel) ⟨_, rfl, rfl⟩ ⟨rfl, rfl, rfl, rfl, rfl, rfl⟩
                        · refine X.icmp_ne_t (pc := 220) (off := 5) (tgt := 225) hq71 rfl (by decide +kernel) ?_
                          refine X.iload_6 (pc := 225) (by decide +kernel) ?_
                          refine X.bipush (pc := 227) (i := 45) (v := 45) bp_45 (by decide +kernel) ?_
                          obtain ⟨y73, hr74, h⟩ := bnd1_some h
                          have hj75 : X E y_Fee_learn b_Fee_learn 8 (some .int) tg d 0 0 237 [some (.ref (e_b E + v0)), some (.ref (e_b E + v1)), none, none, none, some (.int v5), none, none] [.int y73] S I70 L R n (Kq (some (.int v)) S I' L R n) := by
                            refine X.istore_3 (pc := 237) (by decide +kernel) (by decide) rfl ?_
                            refine X.iconst (pc := 238) (i := 0) (v := 0) ic_0 (by decide +kernel) ?_
                            refine X.istore_4 (pc := 239) (by decide +kernel) (by decide) rfl ?_
                            refine X.iconst (pc := 241) (i := 0) (v := 0) ic_0 (by decide +kernel) ?_
                            refine X.istore_2 (pc := 242) (by decide +kernel) (by decide) rfl ?_
                            refine X.goto (pc := 243) (off := 6) (tgt := 249) (by decide +kernel) rfl ?_
                            refine X.iinc_5 (pc := 249) (z := 1) (v := 1) ic_1 (by decide +kernel) (by decide) rfl ?_
                            refine X.goto (pc := 252) (off := (-223)) (tgt := 29) (by decide +kernel) rfl ?_
                            exact ih hS h
                          have h := hr74
                          rcases ifb_some h with ⟨hq72, h⟩ | ⟨hq72, h⟩
                          · refine X.icmp_ne_f (pc := 229) (off := 7) (tgt := 236) hq72 rfl (by decide +kernel) ?_
                            refine X.iconst (pc := 232) (i := (-1)) (v := (-1)) ic_m1 (by decide +kernel) ?_
                            refine X.goto (pc := 233) (off := 4) (tgt := 237) (by decide +kernel) rfl ?_
                            have j0 := Option.some.inj h
                            subst j0
                            refine X.fgt (o' := [some (.ref (e_b E + v0)), some (.ref (e_b E + v1)), none, none, none, some (.int v5), none, none]) ⟨rfl, ⟨rfl, ⟨rfl, trivial⟩⟩⟩ ?_
                            exact hj75
                          · refine X.icmp_ne_t (pc := 229) (off := 7) (tgt := 236) hq72 rfl (by decide +kernel) ?_
                            refine X.iconst (pc := 236) (i := 1) (v := 1) ic_1 (by decide +kernel) ?_
                            have j0 := Option.some.inj h
                            subst j0
                            refine X.fgt (o' := [some (.ref (e_b E + v0)), some (.ref (e_b E + v1)), none, none, none, some (.int v5), none, none]) ⟨rfl, ⟨rfl, ⟨rfl, trivial⟩⟩⟩ ?_
                            exact hj75
                · refine X.if_eq_f (pc := 152) (off := 38) (tgt := 190) hq65 rfl (by decide +kernel) ?_
                  refine X.iload_2 (pc := 155) (by decide +kernel) ?_
                  rcases ifb_some h with ⟨hq76, h⟩ | ⟨hq76, h⟩
                  · refine X.if_eq_t (pc := 156) (off := 8) (tgt := 164) hq76 rfl (by decide +kernel) ?_
                    refine X.aload_0 (pc := 164) (by decide +kernel) ?_
                    refine X.iload_6 (pc := 165) (by decide +kernel) ?_
                    refine X.iload_3 (pc := 167) (by decide +kernel) ?_
                    refine X.iload_2 (pc := 168) (by decide +kernel) ?_
                    obtain ⟨y78, hr79, h⟩ := bnd1_some h
                    have hj80 : X E y_Fee_learn b_Fee_learn 8 (some .int) tg d 0 0 178 [some (.ref (e_b E + v0)), some (.ref (e_b E + v1)), none, some (.int v3), none, some (.int v5), none, none] [.int y78, .int v3, .int x12, .ref (e_b E + v0)] S I L R n (Kq (some (.int v)) S I' L R n) := by
                      refine X.imul (pc := 178) (by decide +kernel) ?_
                      obtain ⟨I81, hv82, h⟩ := bnd1_some h
                      refine X.callVv (pc := 179) (nc := 0) (ns := 0) (c_Fee_addTo hE (dle hd (Nat.le_of_ble_eq_true rfl)) hS hv82) cv_Fee_48 (by decide +kernel) hS ⟨by decide, rfl⟩ (ddd hd (Nat.le_of_ble_eq_true rfl)) rfl (Nat.le_of_ble_eq_true rfl) rfl rfl ?_
                      refine X.iconst (pc := 182) (i := 0) (v := 0) ic_0 (by decide +kernel) ?_
                      refine X.istore_4 (pc := 183) (by decide +kernel) (by decide) rfl ?_
                      refine X.iconst (pc := 185) (i := 4) (v := 4) ic_4 (by decide +kernel) ?_
                      refine X.istore_2 (pc := 186) (by decide +kernel) (by decide) rfl ?_
                      refine X.goto (pc := 187) (off := 62) (tgt := 249) (by decide +kernel) rfl ?_
                      refine X.iinc_5 (pc := 249) (z := 1) (v := 1) ic_1 (by decide +kernel) (by decide) rfl ?_
                      refine X.goto (pc := 252) (off := (-223)) (tgt := 29) (by decide +kernel) rfl ?_
                      exact ih hS h
                    have h := hr79
                    rcases ifb_some h with ⟨hq77, h⟩ | ⟨hq77, h⟩
                    · refine X.if_ne_f (pc := 169) (off := 7) (tgt := 176) hq77 rfl (by decide +kernel) ?_
                      refine X.iconst (pc := 172) (i := 1) (v := 1) ic_1 (by decide +kernel) ?_
                      refine X.goto (pc := 173) (off := 5) (tgt := 178) (by decide +kernel) rfl ?_
                      have j0 := Option.some.inj h
                      subst j0
                      refine X.fgt (o' := [some (.ref (e_b E + v0)), some (.ref (e_b E + v1)), none, some (.int v3), none, some (.int v5), none, none]) ⟨rfl, ⟨rfl, ⟨rfl, ⟨rfl, trivial⟩⟩⟩⟩ ?_
                      exact hj80
                    · refine X.if_ne_t (pc := 169) (off := 7) (tgt := 176) hq77 rfl (by decide +kernel) ?_
                      refine X.iload_4 (pc := 176) (by decide +kernel) ?_
                      have j0 := Option.some.inj h
                      subst j0
                      refine X.fgt (o' := [some (.ref (e_b E + v0)), some (.ref (e_b E + v1)), none, some (.int v3), none, some (.int v5), none, none]) ⟨rfl, ⟨rfl, ⟨rfl, ⟨rfl, trivial⟩⟩⟩⟩ ?_
                      exact hj80
                  · refine X.if_eq_f (pc := 156) (off := 8) (tgt := 164) hq76 rfl (by decide +kernel) ?_
                    refine X.iload_2 (pc := 159) (by decide +kernel) ?_
                    refine X.iconst (pc := 160) (i := 3) (v := 3) ic_3 (by decide +kernel) ?_
                    rcases ifb_some h with ⟨hq83, h⟩ | ⟨hq83, h⟩
                    · refine X.icmp_ne_f (pc := 161) (off := 29) (tgt := 190) hq83 rfl (by decide +kernel) ?_
                      refine X.aload_0 (pc := 164) (by decide +kernel) ?_
                      refine X.iload_6 (pc := 165) (by decide +kernel) ?_
                      refine X.iload_3 (pc := 167) (by decide +kernel) ?_
                      refine X.iload_2 (pc := 168) (by decide +kernel) ?_
                      obtain ⟨y85, hr86, h⟩ := bnd1_some h
                      have hj87 : X E y_Fee_learn b_Fee_learn 8 (some .int) tg d 0 0 178 [some (.ref (e_b E + v0)), some (.ref (e_b E + v1)), none, some (.int v3), none, some (.int v5), none, none] [.int y85, .int v3, .int x12, .ref (e_b E + v0)] S I L R n (Kq (some (.int v)) S I' L R n) := by
                        refine X.imul (pc := 178) (by decide +kernel) ?_
                        obtain ⟨I88, hv89, h⟩ := bnd1_some h
                        refine X.callVv (pc := 179) (nc := 0) (ns := 0) (c_Fee_addTo hE (dle hd (Nat.le_of_ble_eq_true rfl)) hS hv89) cv_Fee_48 (by decide +kernel) hS ⟨by decide, rfl⟩ (ddd hd (Nat.le_of_ble_eq_true rfl)) rfl (Nat.le_of_ble_eq_true rfl) rfl rfl ?_
                        refine X.iconst (pc := 182) (i := 0) (v := 0) ic_0 (by decide +kernel) ?_
                        refine X.istore_4 (pc := 183) (by decide +kernel) (by decide) rfl ?_
                        refine X.iconst (pc := 185) (i := 4) (v := 4) ic_4 (by decide +kernel) ?_
                        refine X.istore_2 (pc := 186) (by decide +kernel) (by decide) rfl ?_
                        refine X.goto (pc := 187) (off := 62) (tgt := 249) (by decide +kernel) rfl ?_
                        refine X.iinc_5 (pc := 249) (z := 1) (v := 1) ic_1 (by decide +kernel) (by decide) rfl ?_
                        refine X.goto (pc := 252) (off := (-223)) (tgt := 29) (by decide +kernel) rfl ?_
                        exact ih hS h
                      have h := hr86
                      rcases ifb_some h with ⟨hq84, h⟩ | ⟨hq84, h⟩
                      · refine X.if_ne_f (pc := 169) (off := 7) (tgt := 176) hq84 rfl (by decide +kernel) ?_
                        refine X.iconst (pc := 172) (i := 1) (v := 1) ic_1 (by decide +kernel) ?_
                        refine X.goto (pc := 173) (off := 5) (tgt := 178) (by decide +kernel) rfl ?_
                        have j0 := Option.some.inj h
                        subst j0
                        refine X.fgt (o' := [some (.ref (e_b E + v0)), some (.ref (e_b E + v1)), none, some (.int v3), none, some (.int v5), none, none]) ⟨rfl, ⟨rfl, ⟨rfl, ⟨rfl, trivial⟩⟩⟩⟩ ?_
                        exact hj87
                      · refine X.if_ne_t (pc := 169) (off := 7) (tgt := 176) hq84 rfl (by decide +kernel) ?_
                        refine X.iload_4 (pc := 176) (by decide +kernel) ?_
                        have j0 := Option.some.inj h
                        subst j0
                        refine X.fgt (o' := [some (.ref (e_b E + v0)), some (.ref (e_b E + v1)), none, some (.int v3), none, some (.int v5), none, none]) ⟨rfl, ⟨rfl, ⟨rfl, ⟨rfl, trivial⟩⟩⟩⟩ ?_
                        exact hj87
                    · refine X.icmp_ne_t (pc := 161) (off := 29) (tgt := 190) hq83 rfl (by decide +kernel) ?_
                      refine X.iload_7 (pc := 190) (by decide +kernel) ?_
                      rcases ifb_some h with ⟨hq90, h⟩ | ⟨hq90, h⟩
                      · refine X.if_eq_t (pc := 192) (off := 54) (tgt := 246) hq90 rfl (by decide +kernel) ?_
                        refine X.iload_5 (pc := 246) (by decide +kernel) ?_
                        have j0 := Option.some.inj h
                        obtain ⟨i0, j1⟩ := Prod.mk.inj j0
                        subst i0
                        subst j1
                        exact X.ireturn (pc := 248) (by decide +kernel) ⟨_, rfl, rfl⟩ ⟨rfl, rfl, rfl, rfl, rfl, rfl⟩
                      · refine X.if_eq_f (pc := 192) (off := 54) (tgt := 246) hq90 rfl (by decide +kernel) ?_
                        refine X.iload_2 (pc := 195) (by decide +kernel) ?_
                        rcases ifb_some h with ⟨hq91, h⟩ | ⟨hq91, h⟩
                        · refine X.if_eq_t (pc := 196) (off := 50) (tgt := 246) hq91 rfl (by decide +kernel) ?_
                          refine X.iload_5 (pc := 246) (by decide +kernel) ?_
                          have j0 := Option.some.inj h
                          obtain ⟨i0, j1⟩ := Prod.mk.inj j0
                          subst i0
                          subst j1
                          exact X.ireturn (pc := 248) (by decide +kernel) ⟨_, rfl, rfl⟩ ⟨rfl, rfl, rfl, rfl, rfl, rfl⟩
                        · refine X.if_eq_f (pc := 196) (off := 50) (tgt := 246) hq91 rfl (by decide +kernel) ?_
                          refine X.iload_2 (pc := 199) (by decide +kernel) ?_
                          refine X.iconst (pc := 200) (i := 3) (v := 3) ic_3 (by decide +kernel) ?_
                          rcases ifb_some h with ⟨hq92, h⟩ | ⟨hq92, h⟩
                          · refine X.icmp_eq_t (pc := 201) (off := 45) (tgt := 246) hq92 rfl (by decide +kernel) ?_
                            refine X.iload_5 (pc := 246) (by decide +kernel) ?_
                            have j0 := Option.some.inj h
                            obtain ⟨i0, j1⟩ := Prod.mk.inj j0
                            subst i0
                            subst j1
                            exact X.ireturn (pc := 248) (by decide +kernel) ⟨_, rfl, rfl⟩ ⟨rfl, rfl, rfl, rfl, rfl, rfl⟩
                          · refine X.icmp_eq_f (pc := 201) (off := 45) (tgt := 246) hq92 rfl (by decide +kernel) ?_
                            refine X.aload_0 (pc := 204) (by decide +kernel) ?_
                            refine X.dupr (pc := 205) (by decide +kernel) ?_
                            refine X.getI (pc := 206) (k := 0) fw_Fee_15 (by decide +kernel) (fun _ => rfl) hS ?_
                            refine X.iload_3 (pc := 209) (by decide +kernel) ?_
                            refine X.iload_4 (pc := 210) (by decide +kernel) ?_
                            refine X.imul (pc := 212) (by decide +kernel) ?_
                            refine X.iadd (pc := 213) (by decide +kernel) ?_
                            refine X.nameI (fun x93 hx93 => ?_)
                            have h := lt_at hx93 h
                            refine X.putI (pc := 214) (k := 0) fw_Fee_15 (by decide +kernel) rfl rfl hS ?_
                            refine X.nameMI (fun I94 hI94 => ?_)
                            have h := lt_at hI94 h
                            refine X.iload_6 (pc := 217) (by decide +kernel) ?_
                            refine X.iconst (pc := 219) (i := (-1)) (v := (-1)) ic_m1 (by decide +kernel) ?_
                            rcases ifb_some h with ⟨hq95, h⟩ | ⟨hq95, h⟩
                            · refine X.icmp_ne_f (pc := 220) (off := 5) (tgt := 225) hq95 rfl (by decide +kernel) ?_
                              refine X.iconst (pc := 223) (i := (-1)) (v := (-1)) ic_m1 (by decide +kernel) ?_
                              have j0 := Option.some.inj h
                              obtain ⟨i0, j1⟩ := Prod.mk.inj j0
                              subst i0
                              subst j1
                              exact X.ireturn (pc := 224) (by decide +kernel) ⟨_, rfl, rfl⟩ ⟨rfl, rfl, rfl, rfl, rfl, rfl⟩
                            · refine X.icmp_ne_t (pc := 220) (off := 5) (tgt := 225) hq95 rfl (by decide +kernel) ?_
                              refine X.iload_6 (pc := 225) (by decide +kernel) ?_
                              refine X.bipush (pc := 227) (i := 45) (v := 45) bp_45 (by decide +kernel) ?_
                              obtain ⟨y97, hr98, h⟩ := bnd1_some h
                              have hj99 : X E y_Fee_learn b_Fee_learn 8 (some .int) tg d 0 0 237 [some (.ref (e_b E + v0)), some (.ref (e_b E + v1)), none, none, none, some (.int v5), none, none] [.int y97] S I94 L R n (Kq (some (.int v)) S I' L R n) := by
                                refine X.istore_3 (pc := 237) (by decide +kernel) (by decide) rfl ?_
                                refine X.iconst (pc := 238) (i := 0) (v := 0) ic_0 (by decide +kernel) ?_
                                refine X.istore_4 (pc := 239) (by decide +kernel) (by decide) rfl ?_
                                refine X.iconst (pc := 241) (i := 0) (v := 0) ic_0 (by decide +kernel) ?_
                                refine X.istore_2 (pc := 242) (by decide +kernel) (by decide) rfl ?_
                                refine X.goto (pc := 243) (off := 6) (tgt := 249) (by decide +kernel) rfl ?_
                                refine X.iinc_5 (pc := 249) (z := 1) (v := 1) ic_1 (by decide +kernel) (by decide) rfl ?_
                                refine X.goto (pc := 252) (off := (-223)) (tgt := 29) (by decide +kernel) rfl ?_
                                exact ih hS h
                              have h := hr98
                              rcases ifb_some h with ⟨hq96, h⟩ | ⟨hq96, h⟩
                              · refine X.icmp_ne_f (pc := 229) (off := 7) (tgt := 236) hq96 rfl (by decide +kernel) ?_
                                refine X.iconst (pc := 232) (i := (-1)) (v := (-1)) ic_m1 (by decide +kernel) ?_
                                refine X.goto (pc := 233) (off := 4) (tgt := 237) (by decide +kernel) rfl ?_
                                have j0 := Option.some.inj h
                                subst j0
                                refine X.fgt (o' := [some (.ref (e_b E + v0)), some (.ref (e_b E + v1)), none, none, none, some (.int v5), none, none]) ⟨rfl, ⟨rfl, ⟨rfl, trivial⟩⟩⟩ ?_
                                exact hj99
                              · refine X.icmp_ne_t (pc := 229) (off := 7) (tgt := 236) hq96 rfl (by decide +kernel) ?_
                                refine X.iconst (pc := 236) (i := 1) (v := 1) ic_1 (by decide +kernel) ?_
                                have j0 := Option.some.inj h
                                subst j0
                                refine X.fgt (o' := [some (.ref (e_b E + v0)), some (.ref (e_b E + v1)), none, none, none, some (.int v5), none, none]) ⟨rfl, ⟨rfl, ⟨rfl, trivial⟩⟩⟩ ?_
                                exact hj99
            · refine X.icmp_lt_f (pc := 91) (off := 34) (tgt := 125) hq22 rfl (by decide +kernel) ?_
              refine X.iload_6 (pc := 94) (by decide +kernel) ?_
              refine X.bipush (pc := 96) (i := 57) (v := 57) bp_57 (by decide +kernel) ?_
              rcases ifb_some h with ⟨hq100, h⟩ | ⟨hq100, h⟩
              · refine X.icmp_gt_t (pc := 98) (off := 27) (tgt := 125) hq100 rfl (by decide +kernel) ?_
                refine X.iload_6 (pc := 125) (by decide +kernel) ?_
                refine X.bipush (pc := 127) (i := 42) (v := 42) bp_42 (by decide +kernel) ?_
                rcases ifb_some h with ⟨hq101, h⟩ | ⟨hq101, h⟩
                · refine X.icmp_ne_f (pc := 129) (off := 18) (tgt := 147) hq101 rfl (by decide +kernel) ?_
                  refine X.iload_2 (pc := 132) (by decide +kernel) ?_
                  refine X.iconst (pc := 133) (i := 1) (v := 1) ic_1 (by decide +kernel) ?_
                  rcases ifb_some h with ⟨hq102, h⟩ | ⟨hq102, h⟩
                  · refine X.icmp_eq_t (pc := 134) (off := 8) (tgt := 142) hq102 rfl (by decide +kernel) ?_
                    refine X.iconst (pc := 142) (i := 3) (v := 3) ic_3 (by decide +kernel) ?_
                    refine X.istore_2 (pc := 143) (by decide +kernel) (by decide) rfl ?_
                    refine X.goto (pc := 144) (off := 105) (tgt := 249) (by decide +kernel) rfl ?_
                    refine X.iinc_5 (pc := 249) (z := 1) (v := 1) ic_1 (by decide +kernel) (by decide) rfl ?_
                    refine X.goto (pc := 252) (off := (-223)) (tgt := 29) (by decide +kernel) rfl ?_
                    refine X.fgt (o' := [some (.ref (e_b E + v0)), some (.ref (e_b E + v1)), some (.int 3), some (.int v3), some (.int v4), some (.int (v5 + 1)), none, none]) ⟨rfl, ⟨rfl, ⟨rfl, ⟨rfl, ⟨rfl, ⟨rfl, trivial⟩⟩⟩⟩⟩⟩ ?_
                    exact ih hS h
                  · refine X.icmp_eq_f (pc := 134) (off := 8) (tgt := 142) hq102 rfl (by decide +kernel) ?_
                    refine X.iload_2 (pc := 137) (by decide +kernel) ?_
                    refine X.iconst (pc := 138) (i := 2) (v := 2) ic_2 (by decide +kernel) ?_
                    rcases ifb_some h with ⟨hq103, h⟩ | ⟨hq103, h⟩
                    · refine X.icmp_ne_f (pc := 139) (off := 8) (tgt := 147) hq103 rfl (by decide +kernel) ?_
                      refine X.iconst (pc := 142) (i := 3) (v := 3) ic_3 (by decide +kernel) ?_
                      refine X.istore_2 (pc := 143) (by decide +kernel) (by decide) rfl ?_
                      refine X.goto (pc := 144) (off := 105) (tgt := 249) (by decide +kernel) rfl ?_
                      refine X.iinc_5 (pc := 249) (z := 1) (v := 1) ic_1 (by decide +kernel) (by decide) rfl ?_
                      refine X.goto (pc := 252) (off := (-223)) (tgt := 29) (by decide +kernel) rfl ?_
                      refine X.fgt (o' := [some (.ref (e_b E + v0)), some (.ref (e_b E + v1)), some (.int 3), some (.int v3), some (.int v4), some (.int (v5 + 1)), none, none]) ⟨rfl, ⟨rfl, ⟨rfl, ⟨rfl, ⟨rfl, ⟨rfl, trivial⟩⟩⟩⟩⟩⟩ ?_
                      exact ih hS h
                    · refine X.icmp_ne_t (pc := 139) (off := 8) (tgt := 147) hq103 rfl (by decide +kernel) ?_
                      refine X.iload_6 (pc := 147) (by decide +kernel) ?_
                      obtain ⟨x104, hv105, h⟩ := bnd1_some h
                      refine X.callSi (pc := 149) (nc := 0) (ns := 0) (c_Fee_isLetter hE (dle hd (Nat.le_of_ble_eq_true rfl)) hv105) cv_Fee_44 (by decide +kernel) (ddd hd (Nat.le_of_ble_eq_true rfl)) rfl (Nat.le_of_ble_eq_true rfl) rfl rfl ?_
                      rcases ifb_some h with ⟨hq106, h⟩ | ⟨hq106, h⟩
                      · refine X.if_eq_t (pc := 152) (off := 38) (tgt := 190) hq106 rfl (by decide +kernel) ?_
                        refine X.iload_7 (pc := 190) (by decide +kernel) ?_
                        rcases ifb_some h with ⟨hq107, h⟩ | ⟨hq107, h⟩
                        · refine X.if_eq_t (pc := 192) (off := 54) (tgt := 246) hq107 rfl (by decide +kernel) ?_
                          refine X.iload_5 (pc := 246) (by decide +kernel) ?_
                          have j0 := Option.some.inj h
                          obtain ⟨i0, j1⟩ := Prod.mk.inj j0
                          subst i0
                          subst j1
                          exact X.ireturn (pc := 248) (by decide +kernel) ⟨_, rfl, rfl⟩ ⟨rfl, rfl, rfl, rfl, rfl, rfl⟩
                        · refine X.if_eq_f (pc := 192) (off := 54) (tgt := 246) hq107 rfl (by decide +kernel) ?_
                          refine X.iload_2 (pc := 195) (by decide +kernel) ?_
                          rcases ifb_some h with ⟨hq108, h⟩ | ⟨hq108, h⟩
                          · refine X.if_eq_t (pc := 196) (off := 50) (tgt := 246) hq108 rfl (by decide +kernel) ?_
                            refine X.iload_5 (pc := 246) (by decide +kernel) ?_
                            have j0 := Option.some.inj h
                            obtain ⟨i0, j1⟩ := Prod.mk.inj j0
                            subst i0
                            subst j1
                            exact X.ireturn (pc := 248) (by decide +kernel) ⟨_, rfl, rfl⟩ ⟨rfl, rfl, rfl, rfl, rfl, rfl⟩
                          · refine X.if_eq_f (pc := 196) (off := 50) (tgt := 246) hq108 rfl (by decide +kernel) ?_
                            refine X.iload_2 (pc := 199) (by decide +kernel) ?_
                            refine X.iconst (pc := 200) (i := 3) (v := 3) ic_3 (by decide +kernel) ?_
                            rcases ifb_some h with ⟨hq109, h⟩ | ⟨hq109, h⟩
                            · refine X.icmp_eq_t (pc := 201) (off := 45) (tgt := 246) hq109 rfl (by decide +kernel) ?_
                              refine X.iload_5 (pc := 246) (by decide +kernel) ?_
                              have j0 := Option.some.inj h
                              obtain ⟨i0, j1⟩ := Prod.mk.inj j0
                              subst i0
                              subst j1
                              exact X.ireturn (pc := 248) (by decide +kernel) ⟨_, rfl, rfl⟩ ⟨rfl, rfl, rfl, rfl, rfl, rfl⟩
                            · refine X.icmp_eq_f (pc := 201) (off := 45) (tgt := 246) hq109 rfl (by decide +kernel) ?_
                              refine X.aload_0 (pc := 204) (by decide +kernel) ?_
                              refine X.dupr (pc := 205) (by decide +kernel) ?_
                              refine X.getI (pc := 206) (k := 0) fw_Fee_15 (by decide +kernel) (fun _ => rfl) hS ?_
                              refine X.iload_3 (pc := 209) (by decide +kernel) ?_
                              refine X.iload_4 (pc := 210) (by decide +kernel) ?_
                              refine X.imul (pc := 212) (by decide +kernel) ?_
                              refine X.iadd (pc := 213) (by decide +kernel) ?_
                              refine X.nameI (fun x110 hx110 => ?_)
                              have h := lt_at hx110 h
                              refine X.putI (pc := 214) (k := 0) fw_Fee_15 (by decide +kernel) rfl rfl hS ?_
                              refine X.nameMI (fun I111 hI111 => ?_)
                              have h := lt_at hI111 h
                              refine X.iload_6 (pc := 217) (by decide +kernel) ?_
                              refine X.iconst (pc := 219) (i := (-1)) (v := (-1)) ic_m1 (by decide +kernel) ?_
                              rcases ifb_some h with ⟨hq112, h⟩ | ⟨hq112, h⟩
                              · refine X.icmp_ne_f (pc := 220) (off := 5) (tgt := 225) hq112 rfl (by decide +kernel) ?_
                                refine X.iconst (pc := 223) (i := (-1)) (v := (-1)) ic_m1 (by decide +kernel) ?_
                                have j0 := Option.some.inj h
                                obtain ⟨i0, j1⟩ := Prod.mk.inj j0
                                subst i0
                                subst j1
                                exact X.ireturn (pc := 224) (by decide +kernel) ⟨_, rfl, rfl⟩ ⟨rfl, rfl, rfl, rfl, rfl, rfl⟩
                              · refine X.icmp_ne_t (pc := 220) (off := 5) (tgt := 225) hq112 rfl (by decide +kernel) ?_
                                refine X.iload_6 (pc := 225) (by decide +kernel) ?_
                                refine X.bipush (pc := 227) (i := 45) (v := 45) bp_45 (by decide +kernel) ?_
                                obtain ⟨y114, hr115, h⟩ := bnd1_some h
                                have hj116 : X E y_Fee_learn b_Fee_learn 8 (some .int) tg d 0 0 237 [some (.ref (e_b E + v0)), some (.ref (e_b E + v1)), none, none, none, some (.int v5), none, none] [.int y114] S I111 L R n (Kq (some (.int v)) S I' L R n) := by
                                  refine X.istore_3 (pc := 237) (by decide +kernel) (by decide) rfl ?_
                                  refine X.iconst (pc := 238) (i := 0) (v := 0) ic_0 (by decide +kernel) ?_
                                  refine X.istore_4 (pc := 239) (by decide +kernel) (by decide) rfl ?_
                                  refine X.iconst (pc := 241) (i := 0) (v := 0) ic_0 (by decide +kernel) ?_
                                  refine X.istore_2 (pc := 242) (by decide +kernel) (by decide) rfl ?_
                                  refine X.goto (pc := 243) (off := 6) (tgt := 249) (by decide +kernel) rfl ?_
                                  refine X.iinc_5 (pc := 249) (z := 1) (v := 1) ic_1 (by decide +kernel) (by decide) rfl ?_
                                  refine X.goto (pc := 252) (off := (-223)) (tgt := 29) (by decide +kernel) rfl ?_
                                  exact ih hS h
                                have h := hr115
                                rcases ifb_some h with ⟨hq113, h⟩ | ⟨hq113, h⟩
                                · refine X.icmp_ne_f (pc := 229) (off := 7) (tgt := 236) hq113 rfl (by decide +kernel) ?_
                                  refine X.iconst (pc := 232) (i := (-1)) (v := (-1)) ic_m1 (by decide +kernel) ?_
                                  refine X.goto (pc := 233) (off := 4) (tgt := 237) (by decide +kernel) rfl ?_
                                  have j0 := Option.some.inj h
                                  subst j0
                                  refine X.fgt (o' := [some (.ref (e_b E + v0)), some (.ref (e_b E + v1)), none, none, none, some (.int v5), none, none]) ⟨rfl, ⟨rfl, ⟨rfl, trivial⟩⟩⟩ ?_
                                  exact hj116
                                · refine X.icmp_ne_t (pc := 229) (off := 7) (tgt := 236) hq113 rfl (by decide +kernel) ?_
                                  refine X.iconst (pc := 236) (i := 1) (v := 1) ic_1 (by decide +kernel) ?_
                                  have j0 := Option.some.inj h
                                  subst j0
                                  refine X.fgt (o' := [some (.ref (e_b E + v0)), some (.ref (e_b E + v1)), none, none, none, some (.int v5), none, none]) ⟨rfl, ⟨rfl, ⟨rfl, trivial⟩⟩⟩ ?_
                                  exact hj116
                      · refine X.if_eq_f (pc := 152) (off := 38) (tgt := 190) hq106 rfl (by decide +kernel) ?_
                        refine X.iload_2 (pc := 155) (by decide +kernel) ?_
                        rcases ifb_some h with ⟨hq117, h⟩ | ⟨hq117, h⟩
                        · refine X.if_eq_t (pc := 156) (off := 8) (tgt := 164) hq117 rfl (by decide +kernel) ?_
                          refine X.aload_0 (pc := 164) (by decide +kernel) ?_
                          refine X.iload_6 (pc := 165) (by decide +kernel) ?_
                          refine X.iload_3 (pc := 167) (by decide +kernel) ?_
                          refine X.iload_2 (pc := 168) (by decide +kernel) ?_
                          obtain ⟨y119, hr120, h⟩ := bnd1_some h
                          have hj121 : X E y_Fee_learn b_Fee_learn 8 (some .int) tg d 0 0 178 [some (.ref (e_b E + v0)), some (.ref (e_b E + v1)), none, some (.int v3), none, some (.int v5), none, none] [.int y119, .int v3, .int x12, .ref (e_b E + v0)] S I L R n (Kq (some (.int v)) S I' L R n) := by
                            refine X.imul (pc := 178) (by decide +kernel) ?_
                            obtain ⟨I122, hv123, h⟩ := bnd1_some h
                            refine X.callVv (pc := 179) (nc := 0) (ns := 0) (c_Fee_addTo hE (dle hd (Nat.le_of_ble_eq_true rfl)) hS hv123) cv_Fee_48 (by decide +kernel) hS ⟨by decide, rfl⟩ (ddd hd (Nat.le_of_ble_eq_true rfl)) rfl (Nat.le_of_ble_eq_true rfl) rfl rfl ?_
                            refine X.iconst (pc := 182) (i := 0) (v := 0) ic_0 (by decide +kernel) ?_
                            refine X.istore_4 (pc := 183) (by decide +kernel) (by decide) rfl ?_
                            refine X.iconst (pc := 185) (i := 4) (v := 4) ic_4 (by decide +kernel) ?_
                            refine X.istore_2 (pc := 186) (by decide +kernel) (by decide) rfl ?_
                            refine X.goto (pc := 187) (off := 62) (tgt := 249) (by decide +kernel) rfl ?_
                            refine X.iinc_5 (pc := 249) (z := 1) (v := 1) ic_1 (by decide +kernel) (by decide) rfl ?_
                            refine X.goto (pc := 252) (off := (-223)) (tgt := 29) (by decide +kernel) rfl ?_
                            exact ih hS h
                          have h := hr120
                          rcases ifb_some h with ⟨hq118, h⟩ | ⟨hq118, h⟩
                          · refine X.if_ne_f (pc := 169) (off := 7) (tgt := 176) hq118 rfl (by decide +kernel) ?_
                            refine X.iconst (pc := 172) (i := 1) (v := 1) ic_1 (by decide +kernel) ?_
                            refine X.goto (pc := 173) (off := 5) (tgt := 178) (by decide +kernel) rfl ?_
                            have j0 := Option.some.inj h
                            subst j0
                            refine X.fgt (o' := [some (.ref (e_b E + v0)), some (.ref (e_b E + v1)), none, some (.int v3), none, some (.int v5), none, none]) ⟨rfl, ⟨rfl, ⟨rfl, ⟨rfl, trivial⟩⟩⟩⟩ ?_
                            exact hj121
                          · refine X.if_ne_t (pc := 169) (off := 7) (tgt := 176) hq118 rfl (by decide +kernel) ?_
                            refine X.iload_4 (pc := 176) (by decide +kernel) ?_
                            have j0 := Option.some.inj h
                            subst j0
                            refine X.fgt (o' := [some (.ref (e_b E + v0)), some (.ref (e_b E + v1)), none, some (.int v3), none, some (.int v5), none, none]) ⟨rfl, ⟨rfl, ⟨rfl, ⟨rfl, trivial⟩⟩⟩⟩ ?_
                            exact hj121
                        · refine X.if_eq_f (pc := 156) (off := 8) (tgt := 164) hq117 rfl (by decide +kernel) ?_
                          refine X.iload_2 (pc := 159) (by decide +kernel) ?_
                          refine X.iconst (pc := 160) (i := 3) (v := 3) ic_3 (by decide +kernel) ?_
                          rcases ifb_some h with ⟨hq124, h⟩ | ⟨hq124, h⟩
                          · refine X.icmp_ne_f (pc := 161) (off := 29) (tgt := 190) hq124 rfl (by decide +kernel) ?_
                            refine X.aload_0 (pc := 164) (by decide +kernel) ?_
                            refine X.iload_6 (pc := 165) (by decide +kernel) ?_
                            refine X.iload_3 (pc := 167) (by decide +kernel) ?_
                            refine X.iload_2 (pc := 168) (by decide +kernel) ?_
                            obtain ⟨y126, hr127, h⟩ := bnd1_some h
                            have hj128 : X E y_Fee_learn b_Fee_learn 8 (some .int) tg d 0 0 178 [some (.ref (e_b E + v0)), some (.ref (e_b E + v1)), none, some (.int v3), none, some (.int v5), none, none] [.int y126, .int v3, .int x12, .ref (e_b E + v0)] S I L R n (Kq (some (.int v)) S I' L R n) := by
                              refine X.imul (pc := 178) (by decide +kernel) ?_
                              obtain ⟨I129, hv130, h⟩ := bnd1_some h
                              refine X.callVv (pc := 179) (nc := 0) (ns := 0) (c_Fee_addTo hE (dle hd (Nat.le_of_ble_eq_true rfl)) hS hv130) cv_Fee_48 (by decide +kernel) hS ⟨by decide, rfl⟩ (ddd hd (Nat.le_of_ble_eq_true rfl)) rfl (Nat.le_of_ble_eq_true rfl) rfl rfl ?_
                              refine X.iconst (pc := 182) (i := 0) (v := 0) ic_0 (by decide +kernel) ?_
                              refine X.istore_4 (pc := 183) (by decide +kernel) (by decide) rfl ?_
                              refine X.iconst (pc := 185) (i := 4) (v := 4) ic_4 (by decide +kernel) ?_
                              refine X.istore_2 (pc := 186) (by decide +kernel) (by decide) rfl ?_
                              refine X.goto (pc := 187) (off := 62) (tgt := 249) (by decide +kernel) rfl ?_
                              refine X.iinc_5 (pc := 249) (z := 1) (v := 1) ic_1 (by decide +kernel) (by decide) rfl ?_
                              refine X.goto (pc := 252) (off := (-223)) (tgt := 29) (by decide +kernel) rfl ?_
                              exact ih hS h
                            have h := hr127
                            rcases ifb_some h with ⟨hq125, h⟩ | ⟨hq125, h⟩
                            · refine X.if_ne_f (pc := 169) (off := 7) (tgt := 176) hq125 rfl (by decide +kernel) ?_
                              refine X.iconst (pc := 172) (i := 1) (v := 1) ic_1 (by decide +kernel) ?_
                              refine X.goto (pc := 173) (off := 5) (tgt := 178) (by decide +kernel) rfl ?_
                              have j0 := Option.some.inj h
                              subst j0
                              refine X.fgt (o' := [some (.ref (e_b E + v0)), some (.ref (e_b E + v1)), none, some (.int v3), none, some (.int v5), none, none]) ⟨rfl, ⟨rfl, ⟨rfl, ⟨rfl, trivial⟩⟩⟩⟩ ?_
                              exact hj128
                            · refine X.if_ne_t (pc := 169) (off := 7) (tgt := 176) hq125 rfl (by decide +kernel) ?_
                              refine X.iload_4 (pc := 176) (by decide +kernel) ?_
                              have j0 := Option.some.inj h
                              subst j0
                              refine X.fgt (o' := [some (.ref (e_b E + v0)), some (.ref (e_b E + v1)), none, some (.int v3), none, some (.int v5), none, none]) ⟨rfl, ⟨rfl, ⟨rfl, ⟨rfl, trivial⟩⟩⟩⟩ ?_
                              exact hj128
                          · refine X.icmp_ne_t (pc := 161) (off := 29) (tgt := 190) hq124 rfl (by decide +kernel) ?_
                            refine X.iload_7 (pc := 190) (by decide +kernel) ?_
                            rcases ifb_some h with ⟨hq131, h⟩ | ⟨hq131, h⟩
                            · refine X.if_eq_t (pc := 192) (off := 54) (tgt := 246) hq131 rfl (by decide +kernel) ?_
                              refine X.iload_5 (pc := 246) (by decide +kernel) ?_
                              have j0 := Option.some.inj h
                              obtain ⟨i0, j1⟩ := Prod.mk.inj j0
                              subst i0
                              subst j1
                              exact X.ireturn (pc := 248) (by decide +kernel) ⟨_, rfl, rfl⟩ ⟨rfl, rfl, rfl, rfl, rfl, rfl⟩
                            · refine X.if_eq_f (pc := 192) (off := 54) (tgt := 246) hq131 rfl (by decide +kernel) ?_
                              refine X.iload_2 (pc := 195) (by decide +kernel) ?_
                              rcases ifb_some h with ⟨hq132, h⟩ | ⟨hq132, h⟩
                              · refine X.if_eq_t (pc := 196) (off := 50) (tgt := 246) hq132 rfl (by decide +kernel) ?_
                                refine X.iload_5 (pc := 246) (by decide +kernel) ?_
                                have j0 := Option.some.inj h
                                obtain ⟨i0, j1⟩ := Prod.mk.inj j0
                                subst i0
                                subst j1
                                exact X.ireturn (pc := 248) (by decide +kernel) ⟨_, rfl, rfl⟩ ⟨rfl, rfl, rfl, rfl, rfl, rfl⟩
                              · refine X.if_eq_f (pc := 196) (off := 50) (tgt := 246) hq132 rfl (by decide +kernel) ?_
                                refine X.iload_2 (pc := 199) (by decide +kernel) ?_
                                refine X.iconst (pc := 200) (i := 3) (v := 3) ic_3 (by decide +kernel) ?_
                                rcases ifb_some h with ⟨hq133, h⟩ | ⟨hq133, h⟩
                                · refine X.icmp_eq_t (pc := 201) (off := 45) (tgt := 246) hq133 rfl (by decide +kernel) ?_
                                  refine X.iload_5 (pc := 246) (by decide +kernel) ?_
                                  have j0 := Option.some.inj h
                                  obtain ⟨i0, j1⟩ := Prod.mk.inj j0
                                  subst i0
                                  subst j1
                                  exact X.ireturn (pc := 248) (by decide +kernel) ⟨_, rfl, rfl⟩ ⟨rfl, rfl, rfl, rfl, rfl, rfl⟩
                                · refine X.icmp_eq_f (pc := 201) (off := 45) (tgt := 246) hq133 rfl (by decide +kernel) ?_
                                  refine X.aload_0 (pc := 204) (by decide +kernel) ?_
                                  refine X.dupr (pc := 205) (by decide +kernel) ?_
                                  refine X.getI (pc := 206) (k := 0) fw_Fee_15 (by decide +kernel) (fun _ => rfl) hS ?_
                                  refine X.iload_3 (pc := 209) (by decide +kernel) ?_
                                  refine X.iload_4 (pc := 210) (by decide +kernel) ?_
                                  refine X.imul (pc := 212) (by decide +kernel) ?_
                                  refine X.iadd (pc := 213) (by decide +kernel) ?_
                                  refine X.nameI (fun x134 hx134 => ?_)
                                  have h := lt_at hx134 h
                                  refine X.putI (pc := 214) (k := 0) fw_Fee_15 (by decide +kernel) rfl rfl hS ?_
                                  refine X.nameMI (fun I135 hI135 => ?_)
                                  have h := lt_at hI135 h
                                  refine X.iload_6 (pc := 217) (by decide +kernel) ?_
                                  refine X.iconst (pc := 219) (i := (-1)) (v := (-1)) ic_m1 (by decide +kernel) ?_
                                  rcases ifb_some h with ⟨hq136, h⟩ | ⟨hq136, h⟩
                                  · refine X.icmp_ne_f (pc := 220) (off := 5) (tgt := 225) hq136 rfl (by decide +kernel) ?_
                                    refine X.iconst (pc := 223) (i := (-1)) (v := (-1)) ic_m1 (by decide +kernel) ?_
                                    have j0 := Option.some.inj h
                                    obtain ⟨i0, j1⟩ := Prod.mk.inj j0
                                    subst i0
                                    subst j1
                                    exact X.ireturn (pc := 224) (by decide +kernel) ⟨_, rfl, rfl⟩ ⟨rfl, rfl, rfl, rfl, rfl, rfl⟩
                                  · refine X.icmp_ne_t (pc := 220) (off := 5) (tgt := 225) hq136 rfl (by decide +kernel) ?_
                                    refine X.iload_6 (pc := 225) (by decide +kernel) ?_
                                    refine X.bipush (pc := 227) (i := 45) (v := 45) bp_45 (by decide +kernel) ?_
                                    obtain ⟨y138, hr139, h⟩ := bnd1_some h
                                    have hj140 : X E y_Fee_learn b_Fee_learn 8 (some .int) tg d 0 0 237 [some (.ref (e_b E + v0)), some (.ref (e_b E + v1)), none, none, none, some (.int v5), none, none] [.int y138] S I135 L R n (Kq (some (.int v)) S I' L R n) := by
                                      refine X.istore_3 (pc := 237) (by decide +kernel) (by decide) rfl ?_
                                      refine X.iconst (pc := 238) (i := 0) (v := 0) ic_0 (by decide +kernel) ?_
                                      refine X.istore_4 (pc := 239) (by decide +kernel) (by decide) rfl ?_
                                      refine X.iconst (pc := 241) (i := 0) (v := 0) ic_0 (by decide +kernel) ?_
                                      refine X.istore_2 (pc := 242) (by decide +kernel) (by decide) rfl ?_
                                      refine X.goto (pc := 243) (off := 6) (tgt := 249) (by decide +kernel) rfl ?_
                                      refine X.iinc_5 (pc := 249) (z := 1) (v := 1) ic_1 (by decide +kernel) (by decide) rfl ?_
                                      refine X.goto (pc := 252) (off := (-223)) (tgt := 29) (by decide +kernel) rfl ?_
                                      exact ih hS h
                                    have h := hr139
                                    rcases ifb_some h with ⟨hq137, h⟩ | ⟨hq137, h⟩
                                    · refine X.icmp_ne_f (pc := 229) (off := 7) (tgt := 236) hq137 rfl (by decide +kernel) ?_
                                      refine X.iconst (pc := 232) (i := (-1)) (v := (-1)) ic_m1 (by decide +kernel) ?_
                                      refine X.goto (pc := 233) (off := 4) (tgt := 237) (by decide +kernel) rfl ?_
                                      have j0 := Option.some.inj h
                                      subst j0
                                      refine X.fgt (o' := [some (.ref (e_b E + v0)), some (.ref (e_b E + v1)), none, none, none, some (.int v5), none, none]) ⟨rfl, ⟨rfl, ⟨rfl, trivial⟩⟩⟩ ?_
                                      exact hj140
                                    · refine X.icmp_ne_t (pc := 229) (off := 7) (tgt := 236) hq137 rfl (by decide +kernel) ?_
                                      refine X.iconst (pc := 236) (i := 1) (v := 1) ic_1 (by decide +kernel) ?_
                                      have j0 := Option.some.inj h
                                      subst j0
                                      refine X.fgt (o' := [some (.ref (e_b E + v0)), some (.ref (e_b E + v1)), none, none, none, some (.int v5), none, none]) ⟨rfl, ⟨rfl, ⟨rfl, trivial⟩⟩⟩ ?_
                                      exact hj140
                · refine X.icmp_ne_t (pc := 129) (off := 18) (tgt := 147) hq101 rfl (by decide +kernel) ?_
                  refine X.iload_6 (pc := 147) (by decide +kernel) ?_
                  obtain ⟨x141, hv142, h⟩ := bnd1_some h
                  refine X.callSi (pc := 149) (nc := 0) (ns := 0) (c_Fee_isLetter hE (dle hd (Nat.le_of_ble_eq_true rfl)) hv142) cv_Fee_44 (by decide +kernel) (ddd hd (Nat.le_of_ble_eq_true rfl)) rfl (Nat.le_of_ble_eq_true rfl) rfl rfl ?_
                  rcases ifb_some h with ⟨hq143, h⟩ | ⟨hq143, h⟩
                  · refine X.if_eq_t (pc := 152) (off := 38) (tgt := 190) hq143 rfl (by decide +kernel) ?_
                    refine X.iload_7 (pc := 190) (by decide +kernel) ?_
                    rcases ifb_some h with ⟨hq144, h⟩ | ⟨hq144, h⟩
                    · refine X.if_eq_t (pc := 192) (off := 54) (tgt := 246) hq144 rfl (by decide +kernel) ?_
                      refine X.iload_5 (pc := 246) (by decide +kernel) ?_
                      have j0 := Option.some.inj h
                      obtain ⟨i0, j1⟩ := Prod.mk.inj j0
                      subst i0
                      subst j1
                      exact X.ireturn (pc := 248) (by decide +kernel) ⟨_, rfl, rfl⟩ ⟨rfl, rfl, rfl, rfl, rfl, rfl⟩
                    · refine X.if_eq_f (pc := 192) (off := 54) (tgt := 246) hq144 rfl (by decide +kernel) ?_
                      refine X.iload_2 (pc := 195) (by decide +kernel) ?_
                      rcases ifb_some h with ⟨hq145, h⟩ | ⟨hq145, h⟩
                      · refine X.if_eq_t (pc := 196) (off := 50) (tgt := 246) hq145 rfl (by decide +kernel) ?_
                        refine X.iload_5 (pc := 246) (by decide +kernel) ?_
                        have j0 := Option.some.inj h
                        obtain ⟨i0, j1⟩ := Prod.mk.inj j0
                        subst i0
                        subst j1
                        exact X.ireturn (pc := 248) (by decide +kernel) ⟨_, rfl, rfl⟩ ⟨rfl, rfl, rfl, rfl, rfl, rfl⟩
                      · refine X.if_eq_f (pc := 196) (off := 50) (tgt := 246) hq145 rfl (by decide +kernel) ?_
                        refine X.iload_2 (pc := 199) (by decide +kernel) ?_
                        refine X.iconst (pc := 200) (i := 3) (v := 3) ic_3 (by decide +kernel) ?_
                        rcases ifb_some h with ⟨hq146, h⟩ | ⟨hq146, h⟩
                        · refine X.icmp_eq_t (pc := 201) (off := 45) (tgt := 246) hq146 rfl (by decide +kernel) ?_
                          refine X.iload_5 (pc := 246) (by decide +kernel) ?_
                          have j0 := Option.some.inj h
                          obtain ⟨i0, j1⟩ := Prod.mk.inj j0
                          subst i0
                          subst j1
                          exact X.ireturn (pc := 248) (by decide +kernel) ⟨_, rfl, rfl⟩ ⟨rfl, rfl, rfl, rfl, rfl, rfl⟩
                        · refine X.icmp_eq_f (pc := 201) (off := 45) (tgt := 246) hq146 rfl (by decide +kernel) ?_
                          refine X.aload_0 (pc := 204) (by decide +kernel) ?_
                          refine X.dupr (pc := 205) (by decide +kernel) ?_
                          refine X.getI (pc := 206) (k := 0) fw_Fee_15 (by decide +kernel) (fun _ => rfl) hS ?_
                          refine X.iload_3 (pc := 209) (by decide +kernel) ?_
                          refine X.iload_4 (pc := 210) (by decide +kernel) ?_
                          refine X.imul (pc := 212) (by decide +kernel) ?_
                          refine X.iadd (pc := 213) (by decide +kernel) ?_
                          refine X.nameI (fun x147 hx147 => ?_)
                          have h := lt_at hx147 h
                          refine X.putI (pc := 214) (k := 0) fw_Fee_15 (by decide +kernel) rfl rfl hS ?_
                          refine X.nameMI (fun I148 hI148 => ?_)
                          have h := lt_at hI148 h
                          refine X.iload_6 (pc := 217) (by decide +kernel) ?_
                          refine X.iconst (pc := 219) (i := (-1)) (v := (-1)) ic_m1 (by decide +kernel) ?_
                          rcases ifb_some h with ⟨hq149, h⟩ | ⟨hq149, h⟩
                          · refine X.icmp_ne_f (pc := 220) (off := 5) (tgt := 225) hq149 rfl (by decide +kernel) ?_
                            refine X.iconst (pc := 223) (i := (-1)) (v := (-1)) ic_m1 (by decide +kernel) ?_
                            have j0 := Option.some.inj h
                            obtain ⟨i0, j1⟩ := Prod.mk.inj j0
                            subst i0
                            subst j1
                            exact X.ireturn (pc := 224) (by decide +kernel) ⟨_, rfl, rfl⟩ ⟨rfl, rfl, rfl, rfl, rfl, rfl⟩
                          · refine X.icmp_ne_t (pc := 220) (off := 5) (tgt := 225) hq149 rfl (by decide +kernel) ?_
                            refine X.iload_6 (pc := 225) (by decide +kernel) ?_
                            refine X.bipush (pc := 227) (i := 45) (v := 45) bp_45 (by decide +kernel) ?_
                            obtain ⟨y151, hr152, h⟩ := bnd1_some h
                            have hj153 : X E y_Fee_learn b_Fee_learn 8 (some .int) tg d 0 0 237 [some (.ref (e_b E + v0)), some (.ref (e_b E + v1)), none, none, none, some (.int v5), none, none] [.int y151] S I148 L R n (Kq (some (.int v)) S I' L R n) := by
                              refine X.istore_3 (pc := 237) (by decide +kernel) (by decide) rfl ?_
                              refine X.iconst (pc := 238) (i := 0) (v := 0) ic_0 (by decide +kernel) ?_
                              refine X.istore_4 (pc := 239) (by decide +kernel) (by decide) rfl ?_
                              refine X.iconst (pc := 241) (i := 0) (v := 0) ic_0 (by decide +kernel) ?_
                              refine X.istore_2 (pc := 242) (by decide +kernel) (by decide) rfl ?_
                              refine X.goto (pc := 243) (off := 6) (tgt := 249) (by decide +kernel) rfl ?_
                              refine X.iinc_5 (pc := 249) (z := 1) (v := 1) ic_1 (by decide +kernel) (by decide) rfl ?_
                              refine X.goto (pc := 252) (off := (-223)) (tgt := 29) (by decide +kernel) rfl ?_
                              exact ih hS h
                            have h := hr152
                            rcases ifb_some h with ⟨hq150, h⟩ | ⟨hq150, h⟩
                            · refine X.icmp_ne_f (pc := 229) (off := 7) (tgt := 236) hq150 rfl (by decide +kernel) ?_
                              refine X.iconst (pc := 232) (i := (-1)) (v := (-1)) ic_m1 (by decide +kernel) ?_
                              refine X.goto (pc := 233) (off := 4) (tgt := 237) (by decide +kernel) rfl ?_
                              have j0 := Option.some.inj h
                              subst j0
                              refine X.fgt (o' := [some (.ref (e_b E + v0)), some (.ref (e_b E + v1)), none, none, none, some (.int v5), none, none]) ⟨rfl, ⟨rfl, ⟨rfl, trivial⟩⟩⟩ ?_
                              exact hj153
                            · refine X.icmp_ne_t (pc := 229) (off := 7) (tgt := 236) hq150 rfl (by decide +kernel) ?_
                              refine X.iconst (pc := 236) (i := 1) (v := 1) ic_1 (by decide +kernel) ?_
                              have j0 := Option.some.inj h
                              subst j0
                              refine X.fgt (o' := [some (.ref (e_b E + v0)), some (.ref (e_b E + v1)), none, none, none, some (.int v5), none, none]) ⟨rfl, ⟨rfl, ⟨rfl, trivial⟩⟩⟩ ?_
                              exact hj153
                  · refine X.if_eq_f (pc := 152) (off := 38) (tgt := 190) hq143 rfl (by decide +kernel) ?_
                    refine X.iload_2 (pc := 155) (by decide +kernel) ?_
                    rcases ifb_some h with ⟨hq154, h⟩ | ⟨hq154, h⟩
                    · refine X.if_eq_t (pc := 156) (off := 8) (tgt := 164) hq154 rfl (by decide +kernel) ?_
                      refine X.aload_0 (pc := 164) (by decide +kernel) ?_
                      refine X.iload_6 (pc := 165) (by decide +kernel) ?_
                      refine X.iload_3 (pc := 167) (by decide +kernel) ?_
                      refine X.iload_2 (pc := 168) (by decide +kernel) ?_
                      obtain ⟨y156, hr157, h⟩ := bnd1_some h
                      have hj158 : X E y_Fee_learn b_Fee_learn 8 (some .int) tg d 0 0 178 [some (.ref (e_b E + v0)), some (.ref (e_b E + v1)), none, some (.int v3), none, some (.int v5), none, none] [.int y156, .int v3, .int x12, .ref (e_b E + v0)] S I L R n (Kq (some (.int v)) S I' L R n) := by
                        refine X.imul (pc := 178) (by decide +kernel) ?_
                        obtain ⟨I159, hv160, h⟩ := bnd1_some h
                        refine X.callVv (pc := 179) (nc := 0) (ns := 0) (c_Fee_addTo hE (dle hd (Nat.le_of_ble_eq_true rfl)) hS hv160) cv_Fee_48 (by decide +kernel) hS ⟨by decide, rfl⟩ (ddd hd (Nat.le_of_ble_eq_true rfl)) rfl (Nat.le_of_ble_eq_true rfl) rfl rfl ?_
                        refine X.iconst (pc := 182) (i := 0) (v := 0) ic_0 (by decide +kernel) ?_
                        refine X.istore_4 (pc := 183) (by decide +kernel) (by decide) rfl ?_
                        refine X.iconst (pc := 185) (i := 4) (v := 4) ic_4 (by decide +kernel) ?_
                        refine X.istore_2 (pc := 186) (by decide +kernel) (by decide) rfl ?_
                        refine X.goto (pc := 187) (off := 62) (tgt := 249) (by decide +kernel) rfl ?_
                        refine X.iinc_5 (pc := 249) (z := 1) (v := 1) ic_1 (by decide +kernel) (by decide) rfl ?_
                        refine X.goto (pc := 252) (off := (-223)) (tgt := 29) (by decide +kernel) rfl ?_
                        exact ih hS h
                      have h := hr157
                      rcases ifb_some h with ⟨hq155, h⟩ | ⟨hq155, h⟩
                      · refine X.if_ne_f (pc := 169) (off := 7) (tgt := 176) hq155 rfl (by decide +kernel) ?_
                        refine X.iconst (pc := 172) (i := 1) (v := 1) ic_1 (by decide +kernel) ?_
                        refine X.goto (pc := 173) (off := 5) (tgt := 178) (by decide +kernel) rfl ?_
                        have j0 := Option.some.inj h
                        subst j0
                        refine X.fgt (o' := [some (.ref (e_b E + v0)), some (.ref (e_b E + v1)), none, some (.int v3), none, some (.int v5), none, none]) ⟨rfl, ⟨rfl, ⟨rfl, ⟨rfl, trivial⟩⟩⟩⟩ ?_
                        exact hj158
                      · refine X.if_ne_t (pc := 169) (off := 7) (tgt := 176) hq155 rfl (by decide +kernel) ?_
                        refine X.iload_4 (pc := 176) (by decide +kernel) ?_
                        have j0 := Option.some.inj h
                        subst j0
                        refine X.fgt (o' := [some (.ref (e_b E + v0)), some (.ref (e_b E + v1)), none, some (.int v3), none, some (.int v5), none, none]) ⟨rfl, ⟨rfl, ⟨rfl, ⟨rfl, trivial⟩⟩⟩⟩ ?_
                        exact hj158
                    · refine X.if_eq_f (pc := 156) (off := 8) (tgt := 164) hq154 rfl (by decide +kernel) ?_
                      refine X.iload_2 (pc := 159) (by decide +kernel) ?_
                      refine X.iconst (pc := 160) (i := 3) (v := 3) ic_3 (by decide +kernel) ?_
                      rcases ifb_some h with ⟨hq161, h⟩ | ⟨hq161, h⟩
                      · refine X.icmp_ne_f (pc := 161) (off := 29) (tgt := 190) hq161 rfl (by decide +kernel) ?_
                        refine X.aload_0 (pc := 164) (by decide +kernel) ?_
                        refine X.iload_6 (pc := 165) (by decide +kernel) ?_
                        refine X.iload_3 (pc := 167) (by decide +kernel) ?_
                        refine X.iload_2 (pc := 168) (by decide +kernel) ?_
                        obtain ⟨y163, hr164, h⟩ := bnd1_some h
                        have hj165 : X E y_Fee_learn b_Fee_learn 8 (some .int) tg d 0 0 178 [some (.ref (e_b E + v0)), some (.ref (e_b E + v1)), none, some (.int v3), none, some (.int v5), none, none] [.int y163, .int v3, .int x12, .ref (e_b E + v0)] S I L R n (Kq (some (.int v)) S I' L R n) := by
                          refine X.imul (pc := 178) (by decide +kernel) ?_
                          obtain ⟨I166, hv167, h⟩ := bnd1_some h
                          refine X.callVv (pc := 179) (nc := 0) (ns := 0) (c_Fee_addTo hE (dle hd (Nat.le_of_ble_eq_true rfl)) hS hv167) cv_Fee_48 (by decide +kernel) hS ⟨by decide, rfl⟩ (ddd hd (Nat.le_of_ble_eq_true rfl)) rfl (Nat.le_of_ble_eq_true rfl) rfl rfl ?_
                          refine X.iconst (pc := 182) (i := 0) (v := 0) ic_0 (by decide +kernel) ?_
                          refine X.istore_4 (pc := 183) (by decide +kernel) (by decide) rfl ?_
                          refine X.iconst (pc := 185) (i := 4) (v := 4) ic_4 (by decide +kernel) ?_
                          refine X.istore_2 (pc := 186) (by decide +kernel) (by decide) rfl ?_
                          refine X.goto (pc := 187) (off := 62) (tgt := 249) (by decide +kernel) rfl ?_
                          refine X.iinc_5 (pc := 249) (z := 1) (v := 1) ic_1 (by decide +kernel) (by decide) rfl ?_
                          refine X.goto (pc := 252) (off := (-223)) (tgt := 29) (by decide +kernel) rfl ?_
                          exact ih hS h
                        have h := hr164
                        rcases ifb_some h with ⟨hq162, h⟩ | ⟨hq162, h⟩
                        · refine X.if_ne_f (pc := 169) (off := 7) (tgt := 176) hq162 rfl (by decide +kernel) ?_
                          refine X.iconst (pc := 172) (i := 1) (v := 1) ic_1 (by decide +kernel) ?_
                          refine X.goto (pc := 173) (off := 5) (tgt := 178) (by decide +kernel) rfl ?_
                          have j0 := Option.some.inj h
                          subst j0
                          refine X.fgt (o' := [some (.ref (e_b E + v0)), some (.ref (e_b E + v1)), none, some (.int v3), none, some (.int v5), none, none]) ⟨rfl, ⟨rfl, ⟨rfl, ⟨rfl, trivial⟩⟩⟩⟩ ?_
                          exact hj165
                        · refine X.if_ne_t (pc := 169) (off := 7) (tgt := 176) hq162 rfl (by decide +kernel) ?_
                          refine X.iload_4 (pc := 176) (by decide +kernel) ?_
                          have j0 := Option.some.inj h
                          subst j0
                          refine X.fgt (o' := [some (.ref (e_b E + v0)), some (.ref (e_b E + v1)), none, some (.int v3), none, some (.int v5), none, none]) ⟨rfl, ⟨rfl, ⟨rfl, ⟨rfl, trivial⟩⟩⟩⟩ ?_
                          exact hj165
                      · refine X.icmp_ne_t (pc := 161) (off := 29) (tgt := 190) hq161 rfl (by decide +kernel) ?_
                        refine X.iload_7 (pc := 190) (by decide +kernel) ?_
                        rcases ifb_some h with ⟨hq168, h⟩ | ⟨hq168, h⟩
                        · refine X.if_eq_t (pc := 192) (off := 54) (tgt := 246) hq168 rfl (by decide +kernel) ?_
                          refine X.iload_5 (pc := 246) (by decide +kernel) ?_
                          have j0 := Option.some.inj h
                          obtain ⟨i0, j1⟩ := Prod.mk.inj j0
                          subst i0
                          subst j1
                          exact X.ireturn (pc := 248) (by decide +kernel) ⟨_, rfl, rfl⟩ ⟨rfl, rfl, rfl, rfl, rfl, rfl⟩
                        · refine X.if_eq_f (pc := 192) (off := 54) (tgt := 246) hq168 rfl (by decide +kernel) ?_
                          refine X.iload_2 (pc := 195) (by decide +kernel) ?_
                          rcases ifb_some h with ⟨hq169, h⟩ | ⟨hq169, h⟩
                          · refine X.if_eq_t (pc := 196) (off := 50) (tgt := 246) hq169 rfl (by decide +kernel) ?_
                            refine X.iload_5 (pc := 246) (by decide +kernel) ?_
                            have j0 := Option.some.inj h
                            obtain ⟨i0, j1⟩ := Prod.mk.inj j0
                            subst i0
                            subst j1
                            exact X.ireturn (pc := 248) (by decide +kernel) ⟨_, rfl, rfl⟩ ⟨rfl, rfl, rfl, rfl, rfl, rfl⟩
                          · refine X.if_eq_f (pc := 196) (off := 50) (tgt := 246) hq169 rfl (by decide +kernel) ?_
                            refine X.iload_2 (pc := 199) (by decide +kernel) ?_
                            refine X.iconst (pc := 200) (i := 3) (v := 3) ic_3 (by decide +kernel) ?_
                            rcases ifb_some h with ⟨hq170, h⟩ | ⟨hq170, h⟩
                            · refine X.icmp_eq_t (pc := 201) (off := 45) (tgt := 246) hq170 rfl (by decide +kernel) ?_
                              refine X.iload_5 (pc := 246) (by decide +kernel) ?_
                              have j0 := Option.some.inj h
                              obtain ⟨i0, j1⟩ := Prod.mk.inj j0
                              subst i0
                              subst j1
                              exact X.ireturn (pc := 248) (by decide +kernel) ⟨_, rfl, rfl⟩ ⟨rfl, rfl, rfl, rfl, rfl, rfl⟩
                            · refine X.icmp_eq_f (pc := 201) (off := 45) (tgt := 246) hq170 rfl (by decide +kernel) ?_
                              refine X.aload_0 (pc := 204) (by decide +kernel) ?_
                              refine X.dupr (pc := 205) (by decide +kernel) ?_
                              refine X.getI (pc := 206) (k := 0) fw_Fee_15 (by decide +kernel) (fun _ => rfl) hS ?_
                              refine X.iload_3 (pc := 209) (by decide +kernel) ?_
                              refine X.iload_4 (pc := 210) (by decide +kernel) ?_
                              refine X.imul (pc := 212) (by decide +kernel) ?_
                              refine X.iadd (pc := 213) (by decide +kernel) ?_
                              refine X.nameI (fun x171 hx171 => ?_)
                              have h := lt_at hx171 h
                              refine X.putI (pc := 214) (k := 0) fw_Fee_15 (by decide +kernel) rfl rfl hS ?_
                              refine X.nameMI (fun I172 hI172 => ?_)
                              have h := lt_at hI172 h
                              refine X.iload_6 (pc := 217) (by decide +kernel) ?_
                              refine X.iconst (pc := 219) (i := (-1)) (v := (-1)) ic_m1 (by decide +kernel) ?_
                              rcases ifb_some h with ⟨hq173, h⟩ | ⟨hq173, h⟩
                              · refine X.icmp_ne_f (pc := 220) (off := 5) (tgt := 225) hq173 rfl (by decide +kernel) ?_
                                refine X.iconst (pc := 223) (i := (-1)) (v := (-1)) ic_m1 (by decide +kernel) ?_
                                have j0 := Option.some.inj h
                                obtain ⟨i0, j1⟩ := Prod.mk.inj j0
                                subst i0
                                subst j1
                                exact X.ireturn (pc := 224) (by decide +kernel) ⟨_, rfl, rfl⟩ ⟨rfl, rfl, rfl, rfl, rfl, rfl⟩
                              · refine X.icmp_ne_t (pc := 220) (off := 5) (tgt := 225) hq173 rfl (by decide +kernel) ?_
                                refine X.iload_6 (pc := 225) (by decide +kernel) ?_
                                refine X.bipush (pc := 227) (i := 45) (v := 45) bp_45 (by decide +kernel) ?_
                                obtain ⟨y175, hr176, h⟩ := bnd1_some h
                                have hj177 : X E y_Fee_learn b_Fee_learn 8 (some .int) tg d 0 0 237 [some (.ref (e_b E + v0)), some (.ref (e_b E + v1)), none, none, none, some (.int v5), none, none] [.int y175] S I172 L R n (Kq (some (.int v)) S I' L R n) := by
                                  refine X.istore_3 (pc := 237) (by decide +kernel) (by decide) rfl ?_
                                  refine X.iconst (pc := 238) (i := 0) (v := 0) ic_0 (by decide +kernel) ?_
                                  refine X.istore_4 (pc := 239) (by decide +kernel) (by decide) rfl ?_
                                  refine X.iconst (pc := 241) (i := 0) (v := 0) ic_0 (by decide +kernel) ?_
                                  refine X.istore_2 (pc := 242) (by decide +kernel) (by decide) rfl ?_
                                  refine X.goto (pc := 243) (off := 6) (tgt := 249) (by decide +kernel) rfl ?_
                                  refine X.iinc_5 (pc := 249) (z := 1) (v := 1) ic_1 (by decide +kernel) (by decide) rfl ?_
                                  refine X.goto (pc := 252) (off := (-223)) (tgt := 29) (by decide +kernel) rfl ?_
                                  exact ih hS h
                                have h := hr176
                                rcases ifb_some h with ⟨hq174, h⟩ | ⟨hq174, h⟩
                                · refine X.icmp_ne_f (pc := 229) (off := 7) (tgt := 236) hq174 rfl (by decide +kernel) ?_
                                  refine X.iconst (pc := 232) (i := (-1)) (v := (-1)) ic_m1 (by decide +kernel) ?_
                                  refine X.goto (pc := 233) (off := 4) (tgt := 237) (by decide +kernel) rfl ?_
                                  have j0 := Option.some.inj h
                                  subst j0
                                  refine X.fgt (o' := [some (.ref (e_b E + v0)), some (.ref (e_b E + v1)), none, none, none, some (.int v5), none, none]) ⟨rfl, ⟨rfl, ⟨rfl, trivial⟩⟩⟩ ?_
                                  exact hj177
                                · refine X.icmp_ne_t (pc := 229) (off := 7) (tgt := 236) hq174 rfl (by decide +kernel) ?_
                                  refine X.iconst (pc := 236) (i := 1) (v := 1) ic_1 (by decide +kernel) ?_
                                  have j0 := Option.some.inj h
                                  subst j0
                                  refine X.fgt (o' := [some (.ref (e_b E + v0)), some (.ref (e_b E + v1)), none, none, none, some (.int v5), none, none]) ⟨rfl, ⟨rfl, ⟨rfl, trivial⟩⟩⟩ ?_
                                  exact hj177
              · refine X.icmp_gt_f (pc := 98) (off := 27) (tgt := 125) hq100 rfl (by decide +kernel) ?_
                refine X.iload_2 (pc := 101) (by decide +kernel) ?_
                refine X.iconst (pc := 102) (i := 1) (v := 1) ic_1 (by decide +kernel) ?_
                rcases ifb_some h with ⟨hq178, h⟩ | ⟨hq178, h⟩
                · refine X.icmp_gt_t (pc := 103) (off := 22) (tgt := 125) hq178 rfl (by decide +kernel) ?_
                  refine X.iload_6 (pc := 125) (by decide +kernel) ?_
                  refine X.bipush (pc := 127) (i := 42) (v := 42) bp_42 (by decide +kernel) ?_
                  rcases ifb_some h with ⟨hq179, h⟩ | ⟨hq179, h⟩
                  · refine X.icmp_ne_f (pc := 129) (off := 18) (tgt := 147) hq179 rfl (by decide +kernel) ?_
                    refine X.iload_2 (pc := 132) (by decide +kernel) ?_
                    refine X.iconst (pc := 133) (i := 1) (v := 1) ic_1 (by decide +kernel) ?_
                    rcases ifb_some h with ⟨hq180, h⟩ | ⟨hq180, h⟩
                    · refine X.icmp_eq_t (pc := 134) (off := 8) (tgt := 142) hq180 rfl (by decide +kernel) ?_
                      refine X.iconst (pc := 142) (i := 3) (v := 3) ic_3 (by decide +kernel) ?_
                      refine X.istore_2 (pc := 143) (by decide +kernel) (by decide) rfl ?_
                      refine X.goto (pc := 144) (off := 105) (tgt := 249) (by decide +kernel) rfl ?_
                      refine X.iinc_5 (pc := 249) (z := 1) (v := 1) ic_1 (by decide +kernel) (by decide) rfl ?_
                      refine X.goto (pc := 252) (off := (-223)) (tgt := 29) (by decide +kernel) rfl ?_
                      refine X.fgt (o' := [some (.ref (e_b E + v0)), some (.ref (e_b E + v1)), some (.int 3), some (.int v3), some (.int v4), some (.int (v5 + 1)), none, none]) ⟨rfl, ⟨rfl, ⟨rfl, ⟨rfl, ⟨rfl, ⟨rfl, trivial⟩⟩⟩⟩⟩⟩ ?_
                      exact ih hS h
                    · refine X.icmp_eq_f (pc := 134) (off := 8) (tgt := 142) hq180 rfl (by decide +kernel) ?_
                      refine X.iload_2 (pc := 137) (by decide +kernel) ?_
                      refine X.iconst (pc := 138) (i := 2) (v := 2) ic_2 (by decide +kernel) ?_
                      rcases ifb_some h with ⟨hq181, h⟩ | ⟨hq181, h⟩
                      · refine X.icmp_ne_f (pc := 139) (off := 8) (tgt := 147) hq181 rfl (by decide +kernel) ?_
                        refine X.iconst (pc := 142) (i := 3) (v := 3) ic_3 (by decide +kernel) ?_
                        refine X.istore_2 (pc := 143) (by decide +kernel) (by decide) rfl ?_
                        refine X.goto (pc := 144) (off := 105) (tgt := 249) (by decide +kernel) rfl ?_
                        refine X.iinc_5 (pc := 249) (z := 1) (v := 1) ic_1 (by decide +kernel) (by decide) rfl ?_
                        refine X.goto (pc := 252) (off := (-223)) (tgt := 29) (by decide +kernel) rfl ?_
                        refine X.fgt (o' := [some (.ref (e_b E + v0)), some (.ref (e_b E + v1)), some (.int 3), some (.int v3), some (.int v4), some (.int (v5 + 1)), none, none]) ⟨rfl, ⟨rfl, ⟨rfl, ⟨rfl, ⟨rfl, ⟨rfl, trivial⟩⟩⟩⟩⟩⟩ ?_
                        exact ih hS h
                      · refine X.icmp_ne_t (pc := 139) (off := 8) (tgt := 147) hq181 rfl (by decide +kernel) ?_
                        refine X.iload_6 (pc := 147) (by decide +kernel) ?_
                        obtain ⟨x182, hv183, h⟩ := bnd1_some h
                        refine X.callSi (pc := 149) (nc := 0) (ns := 0) (c_Fee_isLetter hE (dle hd (Nat.le_of_ble_eq_true rfl)) hv183) cv_Fee_44 (by decide +kernel) (ddd hd (Nat.le_of_ble_eq_true rfl)) rfl (Nat.le_of_ble_eq_true rfl) rfl rfl ?_
                        rcases ifb_some h with ⟨hq184, h⟩ | ⟨hq184, h⟩
                        · refine X.if_eq_t (pc := 152) (off := 38) (tgt := 190) hq184 rfl (by decide +kernel) ?_
                          refine X.iload_7 (pc := 190) (by decide +kernel) ?_
                          rcases ifb_some h with ⟨hq185, h⟩ | ⟨hq185, h⟩
                          · refine X.if_eq_t (pc := 192) (off := 54) (tgt := 246) hq185 rfl (by decide +kernel) ?_
                            refine X.iload_5 (pc := 246) (by decide +kernel) ?_
                            have j0 := Option.some.inj h
                            obtain ⟨i0, j1⟩ := Prod.mk.inj j0
                            subst i0
                            subst j1
                            exact X.ireturn (pc := 248) (by decide +kernel) ⟨_, rfl, rfl⟩ ⟨rfl, rfl, rfl, rfl, rfl, rfl⟩
                          · refine X.if_eq_f (pc := 192) (off := 54) (tgt := 246) hq185 rfl (by decide +kernel) ?_
                            refine X.iload_2 (pc := 195) (by decide +kernel) ?_
                            rcases ifb_some h with ⟨hq186, h⟩ | ⟨hq186, h⟩
                            · refine X.if_eq_t (pc := 196) (off := 50) (tgt := 246) hq186 rfl (by decide +kernel) ?_
                              refine X.iload_5 (pc := 246) (by decide +kernel) ?_
                              have j0 := Option.some.inj h
                              obtain ⟨i0, j1⟩ := Prod.mk.inj j0
                              subst i0
                              subst j1
                              exact X.ireturn (pc := 248) (by decide +kernel) ⟨_, rfl, rfl⟩ ⟨rfl, rfl, rfl, rfl, rfl, rfl⟩
                            · refine X.if_eq_f (pc := 196) (off := 50) (tgt := 246) hq186 rfl (by decide +kernel) ?_
                              refine X.iload_2 (pc := 199) (by decide +kernel) ?_
                              refine X.iconst (pc := 200) (i := 3) (v := 3) ic_3 (by decide +kernel) ?_
                              rcases ifb_some h with ⟨hq187, h⟩ | ⟨hq187, h⟩
                              · refine X.icmp_eq_t (pc := 201) (off := 45) (tgt := 246) hq187 rfl (by decide +kernel) ?_
                                refine X.iload_5 (pc := 246) (by decide +kernel) ?_
                                have j0 := Option.some.inj h
                                obtain ⟨i0, j1⟩ := Prod.mk.inj j0
                                subst i0
                                subst j1
                                exact X.ireturn (pc := 248) (by decide +kernel) ⟨_, rfl, rfl⟩ ⟨rfl, rfl, rfl, rfl, rfl, rfl⟩
                              · refine X.icmp_eq_f (pc := 201) (off := 45) (tgt := 246) hq187 rfl (by decide +kernel) ?_
                                refine X.aload_0 (pc := 204) (by decide +kernel) ?_
                                refine X.dupr (pc := 205) (by decide +kernel) ?_
                                refine X.getI (pc := 206) (k := 0) fw_Fee_15 (by decide +kernel) (fun _ => rfl) hS ?_
                                refine X.iload_3 (pc := 209) (by decide +kernel) ?_
                                refine X.iload_4 (pc := 210) (by decide +kernel) ?_
                                refine X.imul (pc := 212) (by decide +kernel) ?_
                                refine X.iadd (pc := 213) (by decide +kernel) ?_
                                refine X.nameI (fun x188 hx188 => ?_)
                                have h := lt_at hx188 h
                                refine X.putI (pc := 214) (k := 0) fw_Fee_15 (by decide +kernel) rfl rfl hS ?_
                                refine X.nameMI (fun I189 hI189 => ?_)
                                have h := lt_at hI189 h
                                refine X.iload_6 (pc := 217) (by decide +kernel) ?_
                                refine X.iconst (pc := 219) (i := (-1)) (v := (-1)) ic_m1 (by decide +kernel) ?_
                                rcases ifb_some h with ⟨hq190, h⟩ | ⟨hq190, h⟩
                                · refine X.icmp_ne_f (pc := 220) (off := 5) (tgt := 225) hq190 rfl (by decide +kernel) ?_
                                  refine X.iconst (pc := 223) (i := (-1)) (v := (-1)) ic_m1 (by decide +kernel) ?_
                                  have j0 := Option.some.inj h
                                  obtain ⟨i0, j1⟩ := Prod.mk.inj j0
                                  subst i0
                                  subst j1
                                  exact X.ireturn (pc := 224) (by decide +kernel) ⟨_, rfl, rfl⟩ ⟨rfl, rfl, rfl, rfl, rfl, rfl⟩
                                · refine X.icmp_ne_t (pc := 220) (off := 5) (tgt := 225) hq190 rfl (by decide +kernel) ?_
                                  refine X.iload_6 (pc := 225) (by decide +kernel) ?_
                                  refine X.bipush (pc := 227) (i := 45) (v := 45) bp_45 (by decide +kernel) ?_
                                  obtain ⟨y192, hr193, h⟩ := bnd1_some h
                                  have hj194 : X E y_Fee_learn b_Fee_learn 8 (some .int) tg d 0 0 237 [some (.ref (e_b E + v0)), some (.ref (e_b E + v1)), none, none, none, some (.int v5), none, none] [.int y192] S I189 L R n (Kq (some (.int v)) S I' L R n) := by
                                    refine X.istore_3 (pc := 237) (by decide +kernel) (by decide) rfl ?_
                                    refine X.iconst (pc := 238) (i := 0) (v := 0) ic_0 (by decide +kernel) ?_
                                    refine X.istore_4 (pc := 239) (by decide +kernel) (by decide) rfl ?_
                                    refine X.iconst (pc := 241) (i := 0) (v := 0) ic_0 (by decide +kernel) ?_
                                    refine X.istore_2 (pc := 242) (by decide +kernel) (by decide) rfl ?_
                                    refine X.goto (pc := 243) (off := 6) (tgt := 249) (by decide +kernel) rfl ?_
                                    refine X.iinc_5 (pc := 249) (z := 1) (v := 1) ic_1 (by decide +kernel) (by decide) rfl ?_
                                    refine X.goto (pc := 252) (off := (-223)) (tgt := 29) (by decide +kernel) rfl ?_
                                    exact ih hS h
                                  have h := hr193
                                  rcases ifb_some h with ⟨hq191, h⟩ | ⟨hq191, h⟩
                                  · refine X.icmp_ne_f (pc := 229) (off := 7) (tgt := 236) hq191 rfl (by decide +kernel) ?_
                                    refine X.iconst (pc := 232) (i := (-1)) (v := (-1)) ic_m1 (by decide +kernel) ?_
                                    refine X.goto (pc := 233) (off := 4) (tgt := 237) (by decide +kernel) rfl ?_
                                    have j0 := Option.some.inj h
                                    subst j0
                                    refine X.fgt (o' := [some (.ref (e_b E + v0)), some (.ref (e_b E + v1)), none, none, none, some (.int v5), none, none]) ⟨rfl, ⟨rfl, ⟨rfl, trivial⟩⟩⟩ ?_
                                    exact hj194
                                  · refine X.icmp_ne_t (pc := 229) (off := 7) (tgt := 236) hq191 rfl (by decide +kernel) ?_
                                    refine X.iconst (pc := 236) (i := 1) (v := 1) ic_1 (by decide +kernel) ?_
                                    have j0 := Option.some.inj h
                                    subst j0
                                    refine X.fgt (o' := [some (.ref (e_b E + v0)), some (.ref (e_b E + v1)), none, none, none, some (.int v5), none, none]) ⟨rfl, ⟨rfl, ⟨rfl, trivial⟩⟩⟩ ?_
                                    exact hj194
                        · refine X.if_eq_f (pc := 152) (off := 38) (tgt := 190) hq184 rfl (by decide +kernel) ?_
                          refine X.iload_2 (pc := 155) (by decide +kernel) ?_
                          rcases ifb_some h with ⟨hq195, h⟩ | ⟨hq195, h⟩
                          · refine X.if_eq_t (pc := 156) (off := 8) (tgt := 164) hq195 rfl (by decide +kernel) ?_
                            refine X.aload_0 (pc := 164) (by decide +kernel) ?_
                            refine X.iload_6 (pc := 165) (by decide +kernel) ?_
                            refine X.iload_3 (pc := 167) (by decide +kernel) ?_
                            refine X.iload_2 (pc := 168) (by decide +kernel) ?_
                            obtain ⟨y197, hr198, h⟩ := bnd1_some h
                            have hj199 : X E y_Fee_learn b_Fee_learn 8 (some .int) tg d 0 0 178 [some (.ref (e_b E + v0)), some (.ref (e_b E + v1)), none, some (.int v3), none, some (.int v5), none, none] [.int y197, .int v3, .int x12, .ref (e_b E + v0)] S I L R n (Kq (some (.int v)) S I' L R n) := by
                              refine X.imul (pc := 178) (by decide +kernel) ?_
                              obtain ⟨I200, hv201, h⟩ := bnd1_some h
                              refine X.callVv (pc := 179) (nc := 0) (ns := 0) (c_Fee_addTo hE (dle hd (Nat.le_of_ble_eq_true rfl)) hS hv201) cv_Fee_48 (by decide +kernel) hS ⟨by decide, rfl⟩ (ddd hd (Nat.le_of_ble_eq_true rfl)) rfl (Nat.le_of_ble_eq_true rfl) rfl rfl ?_
                              refine X.iconst (pc := 182) (i := 0) (v := 0) ic_0 (by decide +kernel) ?_
                              refine X.istore_4 (pc := 183) (by decide +kernel) (by decide) rfl ?_
                              refine X.iconst (pc := 185) (i := 4) (v := 4) ic_4 (by decide +kernel) ?_
                              refine X.istore_2 (pc := 186) (by decide +kernel) (by decide) rfl ?_
                              refine X.goto (pc := 187) (off := 62) (tgt := 249) (by decide +kernel) rfl ?_
                              refine X.iinc_5 (pc := 249) (z := 1) (v := 1) ic_1 (by decide +kernel) (by decide) rfl ?_
                              refine X.goto (pc := 252) (off := (-223)) (tgt := 29) (by decide +kernel) rfl ?_
                              exact ih hS h
                            have h := hr198
                            rcases ifb_some h with ⟨hq196, h⟩ | ⟨hq196, h⟩
                            · refine X.if_ne_f (pc := 169) (off := 7) (tgt := 176) hq196 rfl (by decide +kernel) ?_
                              refine X.iconst (pc := 172) (i := 1) (v := 1) ic_1 (by decide +kernel) ?_
                              refine X.goto (pc := 173) (off := 5) (tgt := 178) (by decide +kernel) rfl ?_
                              have j0 := Option.some.inj h
                              subst j0
                              refine X.fgt (o' := [some (.ref (e_b E + v0)), some (.ref (e_b E + v1)), none, some (.int v3), none, some (.int v5), none, none]) ⟨rfl, ⟨rfl, ⟨rfl, ⟨rfl, trivial⟩⟩⟩⟩ ?_
                              exact hj199
                            · refine X.if_ne_t (pc := 169) (off := 7) (tgt := 176) hq196 rfl (by decide +kernel) ?_
                              refine X.iload_4 (pc := 176) (by decide +kernel) ?_
                              have j0 := Option.some.inj h
                              subst j0
                              refine X.fgt (o' := [some (.ref (e_b E + v0)), some (.ref (e_b E + v1)), none, some (.int v3), none, some (.int v5), none, none]) ⟨rfl, ⟨rfl, ⟨rfl, ⟨rfl, trivial⟩⟩⟩⟩ ?_
                              exact hj199
                          · refine X.if_eq_f (pc := 156) (off := 8) (tgt := 164) hq195 rfl (by decide +kernel) ?_
                            refine X.iload_2 (pc := 159) (by decide +kernel) ?_
                            refine X.iconst (pc := 160) (i := 3) (v := 3) ic_3 (by decide +kernel) ?_
                            rcases ifb_some h with ⟨hq202, h⟩ | ⟨hq202, h⟩
                            · refine X.icmp_ne_f (pc := 161) (off := 29) (tgt := 190) hq202 rfl (by decide +kernel) ?_
                              refine X.aload_0 (pc := 164) (by decide +kernel) ?_
                              refine X.iload_6 (pc := 165) (by decide +kernel) ?_
                              refine X.iload_3 (pc := 167) (by decide +kernel) ?_
                              refine X.iload_2 (pc := 168) (by decide +kernel) ?_
                              obtain ⟨y204, hr205, h⟩ := bnd1_some h
                              have hj206 : X E y_Fee_learn b_Fee_learn 8 (some .int) tg d 0 0 178 [some (.ref (e_b E + v0)), some (.ref (e_b E + v1)), none, some (.int v3), none, some (.int v5), none, none] [.int y204, .int v3, .int x12, .ref (e_b E + v0)] S I L R n (Kq (some (.int v)) S I' L R n) := by
                                refine X.imul (pc := 178) (by decide +kernel) ?_
                                obtain ⟨I207, hv208, h⟩ := bnd1_some h
                                refine X.callVv (pc := 179) (nc := 0) (ns := 0) (c_Fee_addTo hE (dle hd (Nat.le_of_ble_eq_true rfl)) hS hv208) cv_Fee_48 (by decide +kernel) hS ⟨by decide, rfl⟩ (ddd hd (Nat.le_of_ble_eq_true rfl)) rfl (Nat.le_of_ble_eq_true rfl) rfl rfl ?_
                                refine X.iconst (pc := 182) (i := 0) (v := 0) ic_0 (by decide +kernel) ?_
                                refine X.istore_4 (pc := 183) (by decide +kernel) (by decide) rfl ?_
                                refine X.iconst (pc := 185) (i := 4) (v := 4) ic_4 (by decide +kernel) ?_
                                refine X.istore_2 (pc := 186) (by decide +kernel) (by decide) rfl ?_
                                refine X.goto (pc := 187) (off := 62) (tgt := 249) (by decide +kernel) rfl ?_
                                refine X.iinc_5 (pc := 249) (z := 1) (v := 1) ic_1 (by decide +kernel) (by decide) rfl ?_
                                refine X.goto (pc := 252) (off := (-223)) (tgt := 29) (by decide +kernel) rfl ?_
                                exact ih hS h
                              have h := hr205
                              rcases ifb_some h with ⟨hq203, h⟩ | ⟨hq203, h⟩
                              · refine X.if_ne_f (pc := 169) (off := 7) (tgt := 176) hq203 rfl (by decide +kernel) ?_
                                refine X.iconst (pc := 172) (i := 1) (v := 1) ic_1 (by decide +kernel) ?_
                                refine X.goto (pc := 173) (off := 5) (tgt := 178) (by decide +kernel) rfl ?_
                                have j0 := Option.some.inj h
                                subst j0
                                refine X.fgt (o' := [some (.ref (e_b E + v0)), some (.ref (e_b E + v1)), none, some (.int v3), none, some (.int v5), none, none]) ⟨rfl, ⟨rfl, ⟨rfl, ⟨rfl, trivial⟩⟩⟩⟩ ?_
                                exact hj206
                              · refine X.if_ne_t (pc := 169) (off := 7) (tgt := 176) hq203 rfl (by decide +kernel) ?_
                                refine X.iload_4 (pc := 176) (by decide +kernel) ?_
                                have j0 := Option.some.inj h
                                subst j0
                                refine X.fgt (o' := [some (.ref (e_b E + v0)), some (.ref (e_b E + v1)), none, some (.int v3), none, some (.int v5), none, none]) ⟨rfl, ⟨rfl, ⟨rfl, ⟨rfl, trivial⟩⟩⟩⟩ ?_
                                exact hj206
                            · refine X.icmp_ne_t (pc := 161) (off := 29) (tgt := 190) hq202 rfl (by decide +kernel) ?_
                              refine X.iload_7 (pc := 190) (by decide +kernel) ?_
                              rcases ifb_some h with ⟨hq209, h⟩ | ⟨hq209, h⟩
                              · refine X.if_eq_t (pc := 192) (off := 54) (tgt := 246) hq209 rfl (by decide +kernel) ?_
                                refine X.iload_5 (pc := 246) (by decide +kernel) ?_
                                have j0 := Option.some.inj h
                                obtain ⟨i0, j1⟩ := Prod.mk.inj j0
                                subst i0
                                subst j1
                                exact X.ireturn (pc := 248) (by decide +kernel) ⟨_, rfl, rfl⟩ ⟨rfl, rfl, rfl, rfl, rfl, rfl⟩
                              · refine X.if_eq_f (pc := 192) (off := 54) (tgt := 246) hq209 rfl (by decide +kernel) ?_
                                refine X.iload_2 (pc := 195) (by decide +kernel) ?_
                                rcases ifb_some h with ⟨hq210, h⟩ | ⟨hq210, h⟩
                                · refine X.if_eq_t (pc := 196) (off := 50) (tgt := 246) hq210 rfl (by decide +kernel) ?_
                                  refine X.iload_5 (pc := 246) (by decide +kernel) ?_
                                  have j0 := Option.some.inj h
                                  obtain ⟨i0, j1⟩ := Prod.mk.inj j0
                                  subst i0
                                  subst j1
                                  exact X.ireturn (pc := 248) (by decide +kernel) ⟨_, rfl, rfl⟩ ⟨rfl, rfl, rfl, rfl, rfl, rfl⟩
                                · refine X.if_eq_f (pc := 196) (off := 50) (tgt := 246) hq210 rfl (by decide +kernel) ?_
                                  refine X.iload_2 (pc := 199) (by decide +kernel) ?_
                                  refine X.iconst (pc := 200) (i := 3) (v := 3) ic_3 (by decide +kernel) ?_
                                  rcases ifb_some h with ⟨hq211, h⟩ | ⟨hq211, h⟩
                                  · refine X.icmp_eq_t (pc := 201) (off := 45) (tgt := 246) hq211 rfl (by decide +kernel) ?_
                                    refine X.iload_5 (pc := 246) (by decide +kernel) ?_
                                    have j0 := Option.some.inj h
                                    obtain ⟨i0, j1⟩ := Prod.mk.inj j0
                                    subst i0
                                    subst j1
                                    exact X.ireturn (pc := 248) (by decide +kernel) ⟨_, rfl, rfl⟩ ⟨rfl, rfl, rfl, rfl, rfl, rfl⟩
                                  · refine X.icmp_eq_f (pc := 201) (off := 45) (tgt := 246) hq211 rfl (by decide +kernel) ?_
                                    refine X.aload_0 (pc := 204) (by decide +kernel) ?_
                                    refine X.dupr (pc := 205) (by decide +kernel) ?_
                                    refine X.getI (pc := 206) (k := 0) fw_Fee_15 (by decide +kernel) (fun _ => rfl) hS ?_
                                    refine X.iload_3 (pc := 209) (by decide +kernel) ?_
                                    refine X.iload_4 (pc := 210) (by decide +kernel) ?_
                                    refine X.imul (pc := 212) (by decide +kernel) ?_
                                    refine X.iadd (pc := 213) (by decide +kernel) ?_
                                    refine X.nameI (fun x212 hx212 => ?_)
                                    have h := lt_at hx212 h
                                    refine X.putI (pc := 214) (k := 0) fw_Fee_15 (by decide +kernel) rfl rfl hS ?_
                                    refine X.nameMI (fun I213 hI213 => ?_)
                                    have h := lt_at hI213 h
                                    refine X.iload_6 (pc := 217) (by decide +kernel) ?_
                                    refine X.iconst (pc := 219) (i := (-1)) (v := (-1)) ic_m1 (by decide +kernel) ?_
                                    rcases ifb_some h with ⟨hq214, h⟩ | ⟨hq214, h⟩
                                    · refine X.icmp_ne_f (pc := 220) (off := 5) (tgt := 225) hq214 rfl (by decide +kernel) ?_
                                      refine X.iconst (pc := 223) (i := (-1)) (v := (-1)) ic_m1 (by decide +kernel) ?_
                                      have j0 := Option.some.inj h
                                      obtain ⟨i0, j1⟩ := Prod.mk.inj j0
                                      subst i0
                                      subst j1
                                      exact X.ireturn (pc := 224) (by decide +kernel) ⟨_, rfl, rfl⟩ ⟨rfl, rfl, rfl, rfl, rfl, rfl⟩
                                    · refine X.icmp_ne_t (pc := 220) (off := 5) (tgt := 225) hq214 rfl (by decide +kernel) ?_
                                      refine X.iload_6 (pc := 225) (by decide +kernel) ?_
                                      refine X.bipush (pc := 227) (i := 45) (v := 45) bp_45 (by decide +kernel) ?_
                                      obtain ⟨y216, hr217, h⟩ := bnd1_some h
                                      have hj218 : X E y_Fee_learn b_Fee_learn 8 (some .int) tg d 0 0 237 [some (.ref (e_b E + v0)), some (.ref (e_b E + v1)), none, none, none, some (.int v5), none, none] [.int y216] S I213 L R n (Kq (some (.int v)) S I' L R n) := by
                                        refine X.istore_3 (pc := 237) (by decide +kernel) (by decide) rfl ?_
                                        refine X.iconst (pc := 238) (i := 0) (v := 0) ic_0 (by decide +kernel) ?_
                                        refine X.istore_4 (pc := 239) (by decide +kernel) (by decide) rfl ?_
                                        refine X.iconst (pc := 241) (i := 0) (v := 0) ic_0 (by decide +kernel) ?_
                                        refine X.istore_2 (pc := 242) (by decide +kernel) (by decide) rfl ?_
                                        refine X.goto (pc := 243) (off := 6) (tgt := 249) (by decide +kernel) rfl ?_
                                        refine X.iinc_5 (pc := 249) (z := 1) (v := 1) ic_1 (by decide +kernel) (by decide) rfl ?_
                                        refine X.goto (pc := 252) (off := (-223)) (tgt := 29) (by decide +kernel) rfl ?_
                                        exact ih hS h
                                      have h := hr217
                                      rcases ifb_some h with ⟨hq215, h⟩ | ⟨hq215, h⟩
                                      · refine X.icmp_ne_f (pc := 229) (off := 7) (tgt := 236) hq215 rfl (by decide +kernel) ?_
                                        refine X.iconst (pc := 232) (i := (-1)) (v := (-1)) ic_m1 (by decide +kernel) ?_
                                        refine X.goto (pc := 233) (off := 4) (tgt := 237) (by decide +kernel) rfl ?_
                                        have j0 := Option.some.inj h
                                        subst j0
                                        refine X.fgt (o' := [some (.ref (e_b E + v0)), some (.ref (e_b E + v1)), none, none, none, some (.int v5), none, none]) ⟨rfl, ⟨rfl, ⟨rfl, trivial⟩⟩⟩ ?_
                                        exact hj218
                                      · refine X.icmp_ne_t (pc := 229) (off := 7) (tgt := 236) hq215 rfl (by decide +kernel) ?_
                                        refine X.iconst (pc := 236) (i := 1) (v := 1) ic_1 (by decide +kernel) ?_
                                        have j0 := Option.some.inj h
                                        subst j0
                                        refine X.fgt (o' := [some (.ref (e_b E + v0)), some (.ref (e_b E + v1)), none, none, none, some (.int v5), none, none]) ⟨rfl, ⟨rfl, ⟨rfl, trivial⟩⟩⟩ ?_
                                        exact hj218
                  · refine X.icmp_ne_t (pc := 129) (off := 18) (tgt := 147) hq179 rfl (by decide +kernel) ?_
                    refine X.iload_6 (pc := 147) (by decide +kernel) ?_
                    obtain ⟨x219, hv220, h⟩ := bnd1_some h
                    refine X.callSi (pc := 149) (nc := 0) (ns := 0) (c_Fee_isLetter hE (dle hd (Nat.le_of_ble_eq_true rfl)) hv220) cv_Fee_44 (by decide +kernel) (ddd hd (Nat.le_of_ble_eq_true rfl)) rfl (Nat.le_of_ble_eq_true rfl) rfl rfl ?_
                    rcases ifb_some h with ⟨hq221, h⟩ | ⟨hq221, h⟩
                    · refine X.if_eq_t (pc := 152) (off := 38) (tgt := 190) hq221 rfl (by decide +kernel) ?_
                      refine X.iload_7 (pc := 190) (by decide +kernel) ?_
                      rcases ifb_some h with ⟨hq222, h⟩ | ⟨hq222, h⟩
                      · refine X.if_eq_t (pc := 192) (off := 54) (tgt := 246) hq222 rfl (by decide +kernel) ?_
                        refine X.iload_5 (pc := 246) (by decide +kernel) ?_
                        have j0 := Option.some.inj h
                        obtain ⟨i0, j1⟩ := Prod.mk.inj j0
                        subst i0
                        subst j1
                        exact X.ireturn (pc := 248) (by decide +kernel) ⟨_, rfl, rfl⟩ ⟨rfl, rfl, rfl, rfl, rfl, rfl⟩
                      · refine X.if_eq_f (pc := 192) (off := 54) (tgt := 246) hq222 rfl (by decide +kernel) ?_
                        refine X.iload_2 (pc := 195) (by decide +kernel) ?_
                        rcases ifb_some h with ⟨hq223, h⟩ | ⟨hq223, h⟩
                        · refine X.if_eq_t (pc := 196) (off := 50) (tgt := 246) hq223 rfl (by decide +kernel) ?_
                          refine X.iload_5 (pc := 246) (by decide +kernel) ?_
                          have j0 := Option.some.inj h
                          obtain ⟨i0, j1⟩ := Prod.mk.inj j0
                          subst i0
                          subst j1
                          exact X.ireturn (pc := 248) (by decide +kernel) ⟨_, rfl, rfl⟩ ⟨rfl, rfl, rfl, rfl, rfl, rfl⟩
                        · refine X.if_eq_f (pc := 196) (off := 50) (tgt := 246) hq223 rfl (by decide +kernel) ?_
                          refine X.iload_2 (pc := 199) (by decide +kernel) ?_
                          refine X.iconst (pc := 200) (i := 3) (v := 3) ic_3 (by decide +kernel) ?_
                          rcases ifb_some h with ⟨hq224, h⟩ | ⟨hq224, h⟩
                          · refine X.icmp_eq_t (pc := 201) (off := 45) (tgt := 246) hq224 rfl (by decide +kernel) ?_
                            refine X.iload_5 (pc := 246) (by decide +kernel) ?_
                            have j0 := Option.some.inj h
                            obtain ⟨i0, j1⟩ := Prod.mk.inj j0
                            subst i0
                            subst j1
                            exact X.ireturn (pc := 248) (by decide +kernel) ⟨_, rfl, rfl⟩ ⟨rfl, rfl, rfl, rfl, rfl, rfl⟩
                          · refine X.icmp_eq_f (pc := 201) (off := 45) (tgt := 246) hq224 rfl (by decide +kernel) ?_
                            refine X.aload_0 (pc := 204) (by decide +kernel) ?_
                            refine X.dupr (pc := 205) (by decide +kernel) ?_
                            refine X.getI (pc := 206) (k := 0) fw_Fee_15 (by decide +kernel) (fun _ => rfl) hS ?_
                            refine X.iload_3 (pc := 209) (by decide +kernel) ?_
                            refine X.iload_4 (pc := 210) (by decide +kernel) ?_
                            refine X.imul (pc := 212) (by decide +kernel) ?_
                            refine X.iadd (pc := 213) (by decide +kernel) ?_
                            refine X.nameI (fun x225 hx225 => ?_)
                            have h := lt_at hx225 h
                            refine X.putI (pc := 214) (k := 0) fw_Fee_15 (by decide +kernel) rfl rfl hS ?_
                            refine X.nameMI (fun I226 hI226 => ?_)
                            have h := lt_at hI226 h
                            refine X.iload_6 (pc := 217) (by decide +kernel) ?_
                            refine X.iconst (pc := 219) (i := (-1)) (v := (-1)) ic_m1 (by decide +kernel) ?_
                            rcases ifb_some h with ⟨hq227, h⟩ | ⟨hq227, h⟩
                            · refine X.icmp_ne_f (pc := 220) (off := 5) (tgt := 225) hq227 rfl (by decide +kernel) ?_
                              refine X.iconst (pc := 223) (i := (-1)) (v := (-1)) ic_m1 (by decide +kernel) ?_
                              have j0 := Option.some.inj h
                              obtain ⟨i0, j1⟩ := Prod.mk.inj j0
                              subst i0
                              subst j1
                              exact X.ireturn (pc := 224) (by decide +kernel) ⟨_, rfl, rfl⟩ ⟨rfl, rfl, rfl, rfl, rfl, rfl⟩
                            · refine X.icmp_ne_t (pc := 220) (off := 5) (tgt := 225) hq227 rfl (by decide +kernel) ?_
                              refine X.iload_6 (pc := 225) (by decide +kernel) ?_
                              refine X.bipush (pc := 227) (i := 45) (v := 45) bp_45 (by decide +kernel) ?_
                              obtain ⟨y229, hr230, h⟩ := bnd1_some h
                              have hj231 : X E y_Fee_learn b_Fee_learn 8 (some .int) tg d 0 0 237 [some (.ref (e_b E + v0)), some (.ref (e_b E + v1)), none, none, none, some (.int v5), none, none] [.int y229] S I226 L R n (Kq (some (.int v)) S I' L R n) := by
                                refine X.istore_3 (pc := 237) (by decide +kernel) (by decide) rfl ?_
                                refine X.iconst (pc := 238) (i := 0) (v := 0) ic_0 (by decide +kernel) ?_
                                refine X.istore_4 (pc := 239) (by decide +kernel) (by decide) rfl ?_
                                refine X.iconst (pc := 241) (i := 0) (v := 0) ic_0 (by decide +kernel) ?_
                                refine X.istore_2 (pc := 242) (by decide +kernel) (by decide) rfl ?_
                                refine X.goto (pc := 243) (off := 6) (tgt := 249) (by decide +kernel) rfl ?_
                                refine X.iinc_5 (pc := 249) (z := 1) (v := 1) ic_1 (by decide +kernel) (by decide) rfl ?_
                                refine X.goto (pc := 252) (off := (-223)) (tgt := 29) (by decide +kernel) rfl ?_
                                exact ih hS h
                              have h := hr230
                              rcases ifb_some h with ⟨hq228, h⟩ | ⟨hq228, h⟩
                              · refine X.icmp_ne_f (pc := 229) (off := 7) (tgt := 236) hq228 rfl (by decide +kernel) ?_
                                refine X.iconst (pc := 232) (i := (-1)) (v := (-1)) ic_m1 (by decide +kernel) ?_
                                refine X.goto (pc := 233) (off := 4) (tgt := 237) (by decide +kernel) rfl ?_
                                have j0 := Option.some.inj h
                                subst j0
                                refine X.fgt (o' := [some (.ref (e_b E + v0)), some (.ref (e_b E + v1)), none, none, none, some (.int v5), none, none]) ⟨rfl, ⟨rfl, ⟨rfl, trivial⟩⟩⟩ ?_
                                exact hj231
                              · refine X.icmp_ne_t (pc := 229) (off := 7) (tgt := 236) hq228 rfl (by decide +kernel) ?_
                                refine X.iconst (pc := 236) (i := 1) (v := 1) ic_1 (by decide +kernel) ?_
                                have j0 := Option.some.inj h
                                subst j0
                                refine X.fgt (o' := [some (.ref (e_b E + v0)), some (.ref (e_b E + v1)), none, none, none, some (.int v5), none, none]) ⟨rfl, ⟨rfl, ⟨rfl, trivial⟩⟩⟩ ?_
                                exact hj231
                    · refine X.if_eq_f (pc := 152) (off := 38) (tgt := 190) hq221 rfl (by decide +kernel) ?_
                      refine X.iload_2 (pc := 155) (by decide +kernel) ?_
                      rcases ifb_some h with ⟨hq232, h⟩ | ⟨hq232, h⟩
                      · refine X.if_eq_t (pc := 156) (off := 8) (tgt := 164) hq232 rfl (by decide +kernel) ?_
                        refine X.aload_0 (pc := 164) (by decide +kernel) ?_
                        refine X.iload_6 (pc := 165) (by decide +kernel) ?_
                        refine X.iload_3 (pc := 167) (by decide +kernel) ?_
                        refine X.iload_2 (pc := 168) (by decide +kernel) ?_
                        obtain ⟨y234, hr235, h⟩ := bnd1_some h
                        have hj236 : X E y_Fee_learn b_Fee_learn 8 (some .int) tg d 0 0 178 [some (.ref (e_b E + v0)), some (.ref (e_b E + v1)), none, some (.int v3), none, some (.int v5), none, none] [.int y234, .int v3, .int x12, .ref (e_b E + v0)] S I L R n (Kq (some (.int v)) S I' L R n) := by
                          refine X.imul (pc := 178) (by decide +kernel) ?_
                          obtain ⟨I237, hv238, h⟩ := bnd1_some h
                          refine X.callVv (pc := 179) (nc := 0) (ns := 0) (c_Fee_addTo hE (dle hd (Nat.le_of_ble_eq_true rfl)) hS hv238) cv_Fee_48 (by decide +kernel) hS ⟨by decide, rfl⟩ (ddd hd (Nat.le_of_ble_eq_true rfl)) rfl (Nat.le_of_ble_eq_true rfl) rfl rfl ?_
                          refine X.iconst (pc := 182) (i := 0) (v := 0) ic_0 (by decide +kernel) ?_
                          refine X.istore_4 (pc := 183) (by decide +kernel) (by decide) rfl ?_
                          refine X.iconst (pc := 185) (i := 4) (v := 4) ic_4 (by decide +kernel) ?_
                          refine X.istore_2 (pc := 186) (by decide +kernel) (by decide) rfl ?_
                          refine X.goto (pc := 187) (off := 62) (tgt := 249) (by decide +kernel) rfl ?_
                          refine X.iinc_5 (pc := 249) (z := 1) (v := 1) ic_1 (by decide +kernel) (by decide) rfl ?_
                          refine X.goto (pc := 252) (off := (-223)) (tgt := 29) (by decide +kernel) rfl ?_
                          exact ih hS h
                        have h := hr235
                        rcases ifb_some h with ⟨hq233, h⟩ | ⟨hq233, h⟩
                        · refine X.if_ne_f (pc := 169) (off := 7) (tgt := 176) hq233 rfl (by decide +kernel) ?_
                          refine X.iconst (pc := 172) (i := 1) (v := 1) ic_1 (by decide +kernel) ?_
                          refine X.goto (pc := 173) (off := 5) (tgt := 178) (by decide +kernel) rfl ?_
                          have j0 := Option.some.inj h
                          subst j0
                          refine X.fgt (o' := [some (.ref (e_b E + v0)), some (.ref (e_b E + v1)), none, some (.int v3), none, some (.int v5), none, none]) ⟨rfl, ⟨rfl, ⟨rfl, ⟨rfl, trivial⟩⟩⟩⟩ ?_
                          exact hj236
                        · refine X.if_ne_t (pc := 169) (off := 7) (tgt := 176) hq233 rfl (by decide +kernel) ?_
                          refine X.iload_4 (pc := 176) (by decide +kernel) ?_
                          have j0 := Option.some.inj h
                          subst j0
                          refine X.fgt (o' := [some (.ref (e_b E + v0)), some (.ref (e_b E + v1)), none, some (.int v3), none, some (.int v5), none, none]) ⟨rfl, ⟨rfl, ⟨rfl, ⟨rfl, trivial⟩⟩⟩⟩ ?_
                          exact hj236
                      · refine X.if_eq_f (pc := 156) (off := 8) (tgt := 164) hq232 rfl (by decide +kernel) ?_
                        refine X.iload_2 (pc := 159) (by decide +kernel) ?_
                        refine X.iconst (pc := 160) (i := 3) (v := 3) ic_3 (by decide +kernel) ?_
                        rcases ifb_some h with ⟨hq239, h⟩ | ⟨hq239, h⟩
                        · refine X.icmp_ne_f (pc := 161) (off := 29) (tgt := 190) hq239 rfl (by decide +kernel) ?_
                          refine X.aload_0 (pc := 164) (by decide +kernel) ?_
                          refine X.iload_6 (pc := 165) (by decide +kernel) ?_
                          refine X.iload_3 (pc := 167) (by decide +kernel) ?_
                          refine X.iload_2 (pc := 168) (by decide +kernel) ?_
                          obtain ⟨y241, hr242, h⟩ := bnd1_some h
                          have hj243 : X E y_Fee_learn b_Fee_learn 8 (some .int) tg d 0 0 178 [some (.ref (e_b E + v0)), some (.ref (e_b E + v1)), none, some (.int v3), none, some (.int v5), none, none] [.int y241, .int v3, .int x12, .ref (e_b E + v0)] S I L R n (Kq (some (.int v)) S I' L R n) := by
                            refine X.imul (pc := 178) (by decide +kernel) ?_
                            obtain ⟨I244, hv245, h⟩ := bnd1_some h
                            refine X.callVv (pc := 179) (nc := 0) (ns := 0) (c_Fee_addTo hE (dle hd (Nat.le_of_ble_eq_true rfl)) hS hv245) cv_Fee_48 (by decide +kernel) hS ⟨by decide, rfl⟩ (ddd hd (Nat.le_of_ble_eq_true rfl)) rfl (Nat.le_of_ble_eq_true rfl) rfl rfl ?_
                            refine X.iconst (pc := 182) (i := 0) (v := 0) ic_0 (by decide +kernel) ?_
                            refine X.istore_4 (pc := 183) (by decide +kernel) (by decide) rfl ?_
                            refine X.iconst (pc := 185) (i := 4) (v := 4) ic_4 (by decide +kernel) ?_
                            refine X.istore_2 (pc := 186) (by decide +kernel) (by decide) rfl ?_
                            refine X.goto (pc := 187) (off := 62) (tgt := 249) (by decide +kernel) rfl ?_
                            refine X.iinc_5 (pc := 249) (z := 1) (v := 1) ic_1 (by decide +kernel) (by decide) rfl ?_
                            refine X.goto (pc := 252) (off := (-223)) (tgt := 29) (by decide +kernel) rfl ?_
                            exact ih hS h
                          have h := hr242
                          rcases ifb_some h with ⟨hq240, h⟩ | ⟨hq240, h⟩
                          · refine X.if_ne_f (pc := 169) (off := 7) (tgt := 176) hq240 rfl (by decide +kernel) ?_
                            refine X.iconst (pc := 172) (i := 1) (v := 1) ic_1 (by decide +kernel) ?_
                            refine X.goto (pc := 173) (off := 5) (tgt := 178) (by decide +kernel) rfl ?_
                            have j0 := Option.some.inj h
                            subst j0
                            refine X.fgt (o' := [some (.ref (e_b E + v0)), some (.ref (e_b E + v1)), none, some (.int v3), none, some (.int v5), none, none]) ⟨rfl, ⟨rfl, ⟨rfl, ⟨rfl, trivial⟩⟩⟩⟩ ?_
                            exact hj243
                          · refine X.if_ne_t (pc := 169) (off := 7) (tgt := 176) hq240 rfl (by decide +kernel) ?_
                            refine X.iload_4 (pc := 176) (by decide +kernel) ?_
                            have j0 := Option.some.inj h
                            subst j0
                            refine X.fgt (o' := [some (.ref (e_b E + v0)), some (.ref (e_b E + v1)), none, some (.int v3), none, some (.int v5), none, none]) ⟨rfl, ⟨rfl, ⟨rfl, ⟨rfl, trivial⟩⟩⟩⟩ ?_
                            exact hj243
                        · refine X.icmp_ne_t (pc := 161) (off := 29) (tgt := 190) hq239 rfl (by decide +kernel) ?_
                          refine X.iload_7 (pc := 190) (by decide +kernel) ?_
                          rcases ifb_some h with ⟨hq246, h⟩ | ⟨hq246, h⟩
                          · refine X.if_eq_t (pc := 192) (off := 54) (tgt := 246) hq246 rfl (by decide +kernel) ?_
                            refine X.iload_5 (pc := 246) (by decide +kernel) ?_
                            have j0 := Option.some.inj h
                            obtain ⟨i0, j1⟩ := Prod.mk.inj j0
                            subst i0
                            subst j1
                            exact X.ireturn (pc := 248) (by decide +kernel) ⟨_, rfl, rfl⟩ ⟨rfl, rfl, rfl, rfl, rfl, rfl⟩
                          · refine X.if_eq_f (pc := 192) (off := 54) (tgt := 246) hq246 rfl (by decide +kernel) ?_
                            refine X.iload_2 (pc := 195) (by decide +kernel) ?_
                            rcases ifb_some h with ⟨hq247, h⟩ | ⟨hq247, h⟩
                            · refine X.if_eq_t (pc := 196) (off := 50) (tgt := 246) hq247 rfl (by decide +kernel) ?_
                              refine X.iload_5 (pc := 246) (by decide +kernel) ?_
                              have j0 := Option.some.inj h
                              obtain ⟨i0, j1⟩ := Prod.mk.inj j0
                              subst i0
                              subst j1
                              exact X.ireturn (pc := 248) (by decide +kernel) ⟨_, rfl, rfl⟩ ⟨rfl, rfl, rfl, rfl, rfl, rfl⟩
                            · refine X.if_eq_f (pc := 196) (off := 50) (tgt := 246) hq247 rfl (by decide +kernel) ?_
                              refine X.iload_2 (pc := 199) (by decide +kernel) ?_
                              refine X.iconst (pc := 200) (i := 3) (v := 3) ic_3 (by decide +kernel) ?_
                              rcases ifb_some h with ⟨hq248, h⟩ | ⟨hq248, h⟩
                              · refine X.icmp_eq_t (pc := 201) (off := 45) (tgt := 246) hq248 rfl (by decide +kernel) ?_
                                refine X.iload_5 (pc := 246) (by decide +kernel) ?_
                                have j0 := Option.some.inj h
                                obtain ⟨i0, j1⟩ := Prod.mk.inj j0
                                subst i0
                                subst j1
                                exact X.ireturn (pc := 248) (by decide +kernel) ⟨_, rfl, rfl⟩ ⟨rfl, rfl, rfl, rfl, rfl, rfl⟩
                              · refine X.icmp_eq_f (pc := 201) (off := 45) (tgt := 246) hq248 rfl (by decide +kernel) ?_
                                refine X.aload_0 (pc := 204) (by decide +kernel) ?_
                                refine X.dupr (pc := 205) (by decide +kernel) ?_
                                refine X.getI (pc := 206) (k := 0) fw_Fee_15 (by decide +kernel) (fun _ => rfl) hS ?_
                                refine X.iload_3 (pc := 209) (by decide +kernel) ?_
                                refine X.iload_4 (pc := 210) (by decide +kernel) ?_
                                refine X.imul (pc := 212) (by decide +kernel) ?_
                                refine X.iadd (pc := 213) (by decide +kernel) ?_
                                refine X.nameI (fun x249 hx249 => ?_)
                                have h := lt_at hx249 h
                                refine X.putI (pc := 214) (k := 0) fw_Fee_15 (by decide +kernel) rfl rfl hS ?_
                                refine X.nameMI (fun I250 hI250 => ?_)
                                have h := lt_at hI250 h
                                refine X.iload_6 (pc := 217) (by decide +kernel) ?_
                                refine X.iconst (pc := 219) (i := (-1)) (v := (-1)) ic_m1 (by decide +kernel) ?_
                                rcases ifb_some h with ⟨hq251, h⟩ | ⟨hq251, h⟩
                                · refine X.icmp_ne_f (pc := 220) (off := 5) (tgt := 225) hq251 rfl (by decide +kernel) ?_
                                  refine X.iconst (pc := 223) (i := (-1)) (v := (-1)) ic_m1 (by decide +kernel) ?_
                                  have j0 := Option.some.inj h
                                  obtain ⟨i0, j1⟩ := Prod.mk.inj j0
                                  subst i0
                                  subst j1
                                  exact X.ireturn (pc := 224) (by decide +kernel) ⟨_, rfl, rfl⟩ ⟨rfl, rfl, rfl, rfl, rfl, rfl⟩
                                · refine X.icmp_ne_t (pc := 220) (off := 5) (tgt := 225) hq251 rfl (by decide +kernel) ?_
                                  refine X.iload_6 (pc := 225) (by decide +kernel) ?_
                                  refine X.bipush (pc := 227) (i := 45) (v := 45) bp_45 (by decide +kernel) ?_
                                  obtain ⟨y253, hr254, h⟩ := bnd1_some h
                                  have hj255 : X E y_Fee_learn b_Fee_learn 8 (some .int) tg d 0 0 237 [some (.ref (e_b E + v0)), some (.ref (e_b E + v1)), none, none, none, some (.int v5), none, none] [.int y253] S I250 L R n (Kq (some (.int v)) S I' L R n) := by
                                    refine X.istore_3 (pc := 237) (by decide +kernel) (by decide) rfl ?_
                                    refine X.iconst (pc := 238) (i := 0) (v := 0) ic_0 (by decide +kernel) ?_
                                    refine X.istore_4 (pc := 239) (by decide +kernel) (by decide) rfl ?_
                                    refine X.iconst (pc := 241) (i := 0) (v := 0) ic_0 (by decide +kernel) ?_
                                    refine X.istore_2 (pc := 242) (by decide +kernel) (by decide) rfl ?_
                                    refine X.goto (pc := 243) (off := 6) (tgt := 249) (by decide +kernel) rfl ?_
                                    refine X.iinc_5 (pc := 249) (z := 1) (v := 1) ic_1 (by decide +kernel) (by decide) rfl ?_
                                    refine X.goto (pc := 252) (off := (-223)) (tgt := 29) (by decide +kernel) rfl ?_
                                    exact ih hS h
                                  have h := hr254
                                  rcases ifb_some h with ⟨hq252, h⟩ | ⟨hq252, h⟩
                                  · refine X.icmp_ne_f (pc := 229) (off := 7) (tgt := 236) hq252 rfl (by decide +kernel) ?_
                                    refine X.iconst (pc := 232) (i := (-1)) (v := (-1)) ic_m1 (by decide +kernel) ?_
                                    refine X.goto (pc := 233) (off := 4) (tgt := 237) (by decide +kernel) rfl ?_
                                    have j0 := Option.some.inj h
                                    subst j0
                                    refine X.fgt (o' := [some (.ref (e_b E + v0)), some (.ref (e_b E + v1)), none, none, none, some (.int v5), none, none]) ⟨rfl, ⟨rfl, ⟨rfl, trivial⟩⟩⟩ ?_
                                    exact hj255
                                  · refine X.icmp_ne_t (pc := 229) (off := 7) (tgt := 236) hq252 rfl (by decide +kernel) ?_
                                    refine X.iconst (pc := 236) (i := 1) (v := 1) ic_1 (by decide +kernel) ?_
                                    have j0 := Option.some.inj h
                                    subst j0
                                    refine X.fgt (o' := [some (.ref (e_b E + v0)), some (.ref (e_b E + v1)), none, none, none, some (.int v5), none, none]) ⟨rfl, ⟨rfl, ⟨rfl, trivial⟩⟩⟩ ?_
                                    exact hj255
                · refine X.icmp_gt_f (pc := 103) (off := 22) (tgt := 125) hq178 rfl (by decide +kernel) ?_
                  refine X.iload_4 (pc := 106) (by decide +kernel) ?_
                  refine X.bipush (pc := 108) (i := 10) (v := 10) bp_10 (by decide +kernel) ?_
                  refine X.imul (pc := 110) (by decide +kernel) ?_
                  refine X.iload_6 (pc := 111) (by decide +kernel) ?_
                  refine X.iadd (pc := 113) (by decide +kernel) ?_
                  refine X.bipush (pc := 114) (i := 48) (v := 48) bp_48 (by decide +kernel) ?_
                  refine X.isub (pc := 116) (by decide +kernel) ?_
                  refine X.nameI (fun x256 hx256 => ?_)
                  have h := lt_at hx256 h
                  refine X.istore_4 (pc := 117) (by decide +kernel) (by decide) rfl ?_
                  refine X.iinc_2 (pc := 119) (z := 1) (v := 1) ic_1 (by decide +kernel) (by decide) rfl ?_
                  refine X.goto (pc := 122) (off := 127) (tgt := 249) (by decide +kernel) rfl ?_
                  refine X.iinc_5 (pc := 249) (z := 1) (v := 1) ic_1 (by decide +kernel) (by decide) rfl ?_
                  refine X.goto (pc := 252) (off := (-223)) (tgt := 29) (by decide +kernel) rfl ?_
                  refine X.fgt (o' := [some (.ref (e_b E + v0)), some (.ref (e_b E + v1)), some (.int (v2 + 1)), some (.int v3), some (.int x256), some (.int (v5 + 1)), none, none]) ⟨rfl, ⟨rfl, ⟨rfl, ⟨rfl, ⟨rfl, ⟨rfl, trivial⟩⟩⟩⟩⟩⟩ ?_
                  exact ih hS h
          · refine X.icmp_eq_f (pc := 81) (off := 6) (tgt := 87) hq21 rfl (by decide +kernel) ?_
            refine X.iload_5 (pc := 84) (by decide +kernel) ?_
            have j0 := Option.some.inj h
            obtain ⟨i0, j1⟩ := Prod.mk.inj j0
            subst i0
            subst j1
            exact X.ireturn (pc := 86) (by decide +kernel) ⟨_, rfl, rfl⟩ ⟨rfl, rfl, rfl, rfl, rfl, rfl⟩
        · refine X.icmp_ne_t (pc := 75) (off := 12) (tgt := 87) hq20 rfl (by decide +kernel) ?_
          refine X.iload_6 (pc := 87) (by decide +kernel) ?_
          refine X.bipush (pc := 89) (i := 48) (v := 48) bp_48 (by decide +kernel) ?_
          rcases ifb_some h with ⟨hq257, h⟩ | ⟨hq257, h⟩
          · refine X.icmp_lt_t (pc := 91) (off := 34) (tgt := 125) hq257 rfl (by decide +kernel) ?_
            refine X.iload_6 (pc := 125) (by decide +kernel) ?_
            refine X.bipush (pc := 127) (i := 42) (v := 42) bp_42 (by decide +kernel) ?_
            rcases ifb_some h with ⟨hq258, h⟩ | ⟨hq258, h⟩
            · refine X.icmp_ne_f (pc := 129) (off := 18) (tgt := 147) hq258 rfl (by decide +kernel) ?_
              refine X.iload_2 (pc := 132) (by decide +kernel) ?_
              refine X.iconst (pc := 133) (i := 1) (v := 1) ic_1 (by decide +kernel) ?_
              rcases ifb_some h with ⟨hq259, h⟩ | ⟨hq259, h⟩
              · refine X.icmp_eq_t (pc := 134) (off := 8) (tgt := 142) hq259 rfl (by decide +kernel) ?_
                refine X.iconst (pc := 142) (i := 3) (v := 3) ic_3 (by decide +kernel) ?_
                refine X.istore_2 (pc := 143) (by decide +kernel) (by decide) rfl ?_
                refine X.goto (pc := 144) (off := 105) (tgt := 249) (by decide +kernel) rfl ?_
                refine X.iinc_5 (pc := 249) (z := 1) (v := 1) ic_1 (by decide +kernel) (by decide) rfl ?_
                refine X.goto (pc := 252) (off := (-223)) (tgt := 29) (by decide +kernel) rfl ?_
                refine X.fgt (o' := [some (.ref (e_b E + v0)), some (.ref (e_b E + v1)), some (.int 3), some (.int v3), some (.int v4), some (.int (v5 + 1)), none, none]) ⟨rfl, ⟨rfl, ⟨rfl, ⟨rfl, ⟨rfl, ⟨rfl, trivial⟩⟩⟩⟩⟩⟩ ?_
                exact ih hS h
              · refine X.icmp_eq_f (pc := 134) (off := 8) (tgt := 142) hq259 rfl (by decide +kernel) ?_
                refine X.iload_2 (pc := 137) (by decide +kernel) ?_
                refine X.iconst (pc := 138) (i := 2) (v := 2) ic_2 (by decide +kernel) ?_
                rcases ifb_some h with ⟨hq260, h⟩ | ⟨hq260, h⟩
                · refine X.icmp_ne_f (pc := 139) (off := 8) (tgt := 147) hq260 rfl (by decide +kernel) ?_
                  refine X.iconst (pc := 142) (i := 3) (v := 3) ic_3 (by decide +kernel) ?_
                  refine X.istore_2 (pc := 143) (by decide +kernel) (by decide) rfl ?_
                  refine X.goto (pc := 144) (off := 105) (tgt := 249) (by decide +kernel) rfl ?_
                  refine X.iinc_5 (pc := 249) (z := 1) (v := 1) ic_1 (by decide +kernel) (by decide) rfl ?_
                  refine X.goto (pc := 252) (off := (-223)) (tgt := 29) (by decide +kernel) rfl ?_
                  refine X.fgt (o' := [some (.ref (e_b E + v0)), some (.ref (e_b E + v1)), some (.int 3), some (.int v3), some (.int v4), some (.int (v5 + 1)), none, none]) ⟨rfl, ⟨rfl, ⟨rfl, ⟨rfl, ⟨rfl, ⟨rfl, trivial⟩⟩⟩⟩⟩⟩ ?_
                  exact ih hS h
                · refine X.icmp_ne_t (pc := 139) (off := 8) (tgt := 147) hq260 rfl (by decide +kernel) ?_
                  refine X.iload_6 (pc := 147) (by decide +kernel) ?_
                  obtain ⟨x261, hv262, h⟩ := bnd1_some h
                  refine X.callSi (pc := 149) (nc := 0) (ns := 0) (c_Fee_isLetter hE (dle hd (Nat.le_of_ble_eq_true rfl)) hv262) cv_Fee_44 (by decide +kernel) (ddd hd (Nat.le_of_ble_eq_true rfl)) rfl (Nat.le_of_ble_eq_true rfl) rfl rfl ?_
                  rcases ifb_some h with ⟨hq263, h⟩ | ⟨hq263, h⟩
                  · refine X.if_eq_t (pc := 152) (off := 38) (tgt := 190) hq263 rfl (by decide +kernel) ?_
                    refine X.iload_7 (pc := 190) (by decide +kernel) ?_
                    rcases ifb_some h with ⟨hq264, h⟩ | ⟨hq264, h⟩
                    · refine X.if_eq_t (pc := 192) (off := 54) (tgt := 246) hq264 rfl (by decide +kernel) ?_
                      refine X.iload_5 (pc := 246) (by decide +kernel) ?_
                      have j0 := Option.some.inj h
                      obtain ⟨i0, j1⟩ := Prod.mk.inj j0
                      subst i0
                      subst j1
                      exact X.ireturn (pc := 248) (by decide +kernel) ⟨_, rfl, rfl⟩ ⟨rfl, rfl, rfl, rfl, rfl, rfl⟩
                    · refine X.if_eq_f (pc := 192) (off := 54) (tgt := 246) hq264 rfl (by decide +kernel) ?_
                      refine X.iload_2 (pc := 195) (by decide +kernel) ?_
                      rcases ifb_some h with ⟨hq265, h⟩ | ⟨hq265, h⟩
                      · refine X.if_eq_t (pc := 196) (off := 50) (tgt := 246) hq265 rfl (by decide +kernel) ?_
                        refine X.iload_5 (pc := 246) (by decide +kernel) ?_
                        have j0 := Option.some.inj h
                        obtain ⟨i0, j1⟩ := Prod.mk.inj j0
                        subst i0
                        subst j1
                        exact X.ireturn (pc := 248) (by decide +kernel) ⟨_, rfl, rfl⟩ ⟨rfl, rfl, rfl, rfl, rfl, rfl⟩
                      · refine X.if_eq_f (pc := 196) (off := 50) (tgt := 246) hq265 rfl (by decide +kernel) ?_
                        refine X.iload_2 (pc := 199) (by decide +kernel) ?_
                        refine X.iconst (pc := 200) (i := 3) (v := 3) ic_3 (by decide +kernel) ?_
                        rcases ifb_some h with ⟨hq266, h⟩ | ⟨hq266, h⟩
                        · refine X.icmp_eq_t (pc := 201) (off := 45) (tgt := 246) hq266 rfl (by decide +kernel) ?_
                          refine X.iload_5 (pc := 246) (by decide +kernel) ?_
                          have j0 := Option.some.inj h
                          obtain ⟨i0, j1⟩ := Prod.mk.inj j0
                          subst i0
                          subst j1
                          exact X.ireturn (pc := 248) (by decide +kernel) ⟨_, rfl, rfl⟩ ⟨rfl, rfl, rfl, rfl, rfl, rfl⟩
                        · refine X.icmp_eq_f (pc := 201) (off := 45) (tgt := 246) hq266 rfl (by decide +kernel) ?_
                          refine X.aload_0 (pc := 204) (by decide +kernel) ?_
                          refine X.dupr (pc := 205) (by decide +kernel) ?_
                          refine X.getI (pc := 206) (k := 0) fw_Fee_15 (by decide +kernel) (fun _ => rfl) hS ?_
                          refine X.iload_3 (pc := 209) (by decide +kernel) ?_
                          refine X.iload_4 (pc := 210) (by decide +kernel) ?_
                          refine X.imul (pc := 212) (by decide +kernel) ?_
                          refine X.iadd (pc := 213) (by decide +kernel) ?_
                          refine X.nameI (fun x267 hx267 => ?_)
                          have h := lt_at hx267 h
                          refine X.putI (pc := 214) (k := 0) fw_Fee_15 (by decide +kernel) rfl rfl hS ?_
                          refine X.nameMI (fun I268 hI268 => ?_)
                          have h := lt_at hI268 h
                          refine X.iload_6 (pc := 217) (by decide +kernel) ?_
                          refine X.iconst (pc := 219) (i := (-1)) (v := (-1)) ic_m1 (by decide +kernel) ?_
                          rcases ifb_some h with ⟨hq269, h⟩ | ⟨hq269, h⟩
                          · refine X.icmp_ne_f (pc := 220) (off := 5) (tgt := 225) hq269 rfl (by decide +kernel) ?_
                            refine X.iconst (pc := 223) (i := (-1)) (v := (-1)) ic_m1 (by decide +kernel) ?_
                            have j0 := Option.some.inj h
                            obtain ⟨i0, j1⟩ := Prod.mk.inj j0
                            subst i0
                            subst j1
                            exact X.ireturn (pc := 224) (by decide +kernel) ⟨_, rfl, rfl⟩ ⟨rfl, rfl, rfl, rfl, rfl, rfl⟩
                          · refine X.icmp_ne_t (pc := 220) (off := 5) (tgt := 225) hq269 rfl (by decide +kernel) ?_
                            refine X.iload_6 (pc := 225) (by decide +kernel) ?_
                            refine X.bipush (pc := 227) (i := 45) (v := 45) bp_45 (by decide +kernel) ?_
                            obtain ⟨y271, hr272, h⟩ := bnd1_some h
                            have hj273 : X E y_Fee_learn b_Fee_learn 8 (some .int) tg d 0 0 237 [some (.ref (e_b E + v0)), some (.ref (e_b E + v1)), none, none, none, some (.int v5), none, none] [.int y271] S I268 L R n (Kq (some (.int v)) S I' L R n) := by
                              refine X.istore_3 (pc := 237) (by decide +kernel) (by decide) rfl ?_
                              refine X.iconst (pc := 238) (i := 0) (v := 0) ic_0 (by decide +kernel) ?_
                              refine X.istore_4 (pc := 239) (by decide +kernel) (by decide) rfl ?_
                              refine X.iconst (pc := 241) (i := 0) (v := 0) ic_0 (by decide +kernel) ?_
                              refine X.istore_2 (pc := 242) (by decide +kernel) (by decide) rfl ?_
                              refine X.goto (pc := 243) (off := 6) (tgt := 249) (by decide +kernel) rfl ?_
                              refine X.iinc_5 (pc := 249) (z := 1) (v := 1) ic_1 (by decide +kernel) (by decide) rfl ?_
                              refine X.goto (pc := 252) (off := (-223)) (tgt := 29) (by decide +kernel) rfl ?_
                              exact ih hS h
                            have h := hr272
                            rcases ifb_some h with ⟨hq270, h⟩ | ⟨hq270, h⟩
                            · refine X.icmp_ne_f (pc := 229) (off := 7) (tgt := 236) hq270 rfl (by decide +kernel) ?_
                              refine X.iconst (pc := 232) (i := (-1)) (v := (-1)) ic_m1 (by decide +kernel) ?_
                              refine X.goto (pc := 233) (off := 4) (tgt := 237) (by decide +kernel) rfl ?_
                              have j0 := Option.some.inj h
                              subst j0
                              refine X.fgt (o' := [some (.ref (e_b E + v0)), some (.ref (e_b E + v1)), none, none, none, some (.int v5), none, none]) ⟨rfl, ⟨rfl, ⟨rfl, trivial⟩⟩⟩ ?_
                              exact hj273
                            · refine X.icmp_ne_t (pc := 229) (off := 7) (tgt := 236) hq270 rfl (by decide +kernel) ?_
                              refine X.iconst (pc := 236) (i := 1) (v := 1) ic_1 (by decide +kernel) ?_
                              have j0 := Option.some.inj h
                              subst j0
                              refine X.fgt (o' := [some (.ref (e_b E + v0)), some (.ref (e_b E + v1)), none, none, none, some (.int v5), none, none]) ⟨rfl, ⟨rfl, ⟨rfl, trivial⟩⟩⟩ ?_
                              exact hj273
                  · refine X.if_eq_f (pc := 152) (off := 38) (tgt := 190) hq263 rfl (by decide +kernel) ?_
                    refine X.iload_2 (pc := 155) (by decide +kernel) ?_
                    rcases ifb_some h with ⟨hq274, h⟩ | ⟨hq274, h⟩
                    · refine X.if_eq_t (pc := 156) (off := 8) (tgt := 164) hq274 rfl (by decide +kernel) ?_
                      refine X.aload_0 (pc := 164) (by decide +kernel) ?_
                      refine X.iload_6 (pc := 165) (by decide +kernel) ?_
                      refine X.iload_3 (pc := 167) (by decide +kernel) ?_
                      refine X.iload_2 (pc := 168) (by decide +kernel) ?_
                      obtain ⟨y276, hr277, h⟩ := bnd1_some h
                      have hj278 : X E y_Fee_learn b_Fee_learn 8 (some .int) tg d 0 0 178 [some (.ref (e_b E + v0)), some (.ref (e_b E + v1)), none, some (.int v3), none, some (.int v5), none, none] [.int y276, .int v3, .int x12, .ref (e_b E + v0)] S I L R n (Kq (some (.int v)) S I' L R n) := by
                        refine X.imul (pc := 178) (by decide +kernel) ?_
                        obtain ⟨I279, hv280, h⟩ := bnd1_some h
                        refine X.callVv (pc := 179) (nc := 0) (ns := 0) (c_Fee_addTo hE (dle hd (Nat.le_of_ble_eq_true rfl)) hS hv280) cv_Fee_48 (by decide +kernel) hS ⟨by decide, rfl⟩ (ddd hd (Nat.le_of_ble_eq_true rfl)) rfl (Nat.le_of_ble_eq_true rfl) rfl rfl ?_
                        refine X.iconst (pc := 182) (i := 0) (v := 0) ic_0 (by decide +kernel) ?_
                        refine X.istore_4 (pc := 183) (by decide +kernel) (by decide) rfl ?_
                        refine X.iconst (pc := 185) (i := 4) (v := 4) ic_4 (by decide +kernel) ?_
                        refine X.istore_2 (pc := 186) (by decide +kernel) (by decide) rfl ?_
                        refine X.goto (pc := 187) (off := 62) (tgt := 249) (by decide +kernel) rfl ?_
                        refine X.iinc_5 (pc := 249) (z := 1) (v := 1) ic_1 (by decide +kernel) (by decide) rfl ?_
                        refine X.goto (pc := 252) (off := (-223)) (tgt := 29) (by decide +kernel) rfl ?_
                        exact ih hS h
                      have h := hr277
                      rcases ifb_some h with ⟨hq275, h⟩ | ⟨hq275, h⟩
                      · refine X.if_ne_f (pc := 169) (off := 7) (tgt := 176) hq275 rfl (by decide +kernel) ?_
                        refine X.iconst (pc := 172) (i := 1) (v := 1) ic_1 (by decide +kernel) ?_
                        refine X.goto (pc := 173) (off := 5) (tgt := 178) (by decide +kernel) rfl ?_
                        have j0 := Option.some.inj h
                        subst j0
                        refine X.fgt (o' := [some (.ref (e_b E + v0)), some (.ref (e_b E + v1)), none, some (.int v3), none, some (.int v5), none, none]) ⟨rfl, ⟨rfl, ⟨rfl, ⟨rfl, trivial⟩⟩⟩⟩ ?_
                        exact hj278
                      · refine X.if_ne_t (pc := 169) (off := 7) (tgt := 176) hq275 rfl (by decide +kernel) ?_
                        refine X.iload_4 (pc := 176) (by decide +kernel) ?_
                        have j0 := Option.some.inj h
                        subst j0
                        refine X.fgt (o' := [some (.ref (e_b E + v0)), some (.ref (e_b E + v1)), none, some (.int v3), none, some (.int v5), none, none]) ⟨rfl, ⟨rfl, ⟨rfl, ⟨rfl, trivial⟩⟩⟩⟩ ?_
                        exact hj278
                    · refine X.if_eq_f (pc := 156) (off := 8) (tgt := 164) hq274 rfl (by decide +kernel) ?_
                      refine X.iload_2 (pc := 159) (by decide +kernel) ?_
                      refine X.iconst (pc := 160) (i := 3) (v := 3) ic_3 (by decide +kernel) ?_
                      rcases ifb_some h with ⟨hq281, h⟩ | ⟨hq281, h⟩
                      · refine X.icmp_ne_f (pc := 161) (off := 29) (tgt := 190) hq281 rfl (by decide +kernel) ?_
                        refine X.aload_0 (pc := 164) (by decide +kernel) ?_
                        refine X.iload_6 (pc := 165) (by decide +kernel) ?_
                        refine X.iload_3 (pc := 167) (by decide +kernel) ?_
                        refine X.iload_2 (pc := 168) (by decide +kernel) ?_
                        obtain ⟨y283, hr284, h⟩ := bnd1_some h
                        have hj285 : X E y_Fee_learn b_Fee_learn 8 (some .int) tg d 0 0 178 [some (.ref (e_b E + v0)), some (.ref (e_b E + v1)), none, some (.int v3), none, some (.int v5), none, none] [.int y283, .int v3, .int x12, .ref (e_b E + v0)] S I L R n (Kq (some (.int v)) S I' L R n) := by
                          refine X.imul (pc := 178) (by decide +kernel) ?_
                          obtain ⟨I286, hv287, h⟩ := bnd1_some h
                          refine X.callVv (pc := 179) (nc := 0) (ns := 0) (c_Fee_addTo hE (dle hd (Nat.le_of_ble_eq_true rfl)) hS hv287) cv_Fee_48 (by decide +kernel) hS ⟨by decide, rfl⟩ (ddd hd (Nat.le_of_ble_eq_true rfl)) rfl (Nat.le_of_ble_eq_true rfl) rfl rfl ?_
                          refine X.iconst (pc := 182) (i := 0) (v := 0) ic_0 (by decide +kernel) ?_
                          refine X.istore_4 (pc := 183) (by decide +kernel) (by decide) rfl ?_
                          refine X.iconst (pc := 185) (i := 4) (v := 4) ic_4 (by decide +kernel) ?_
                          refine X.istore_2 (pc := 186) (by decide +kernel) (by decide) rfl ?_
                          refine X.goto (pc := 187) (off := 62) (tgt := 249) (by decide +kernel) rfl ?_
                          refine X.iinc_5 (pc := 249) (z := 1) (v := 1) ic_1 (by decide +kernel) (by decide) rfl ?_
                          refine X.goto (pc := 252) (off := (-223)) (tgt := 29) (by decide +kernel) rfl ?_
                          exact ih hS h
                        have h := hr284
                        rcases ifb_some h with ⟨hq282, h⟩ | ⟨hq282, h⟩
                        · refine X.if_ne_f (pc := 169) (off := 7) (tgt := 176) hq282 rfl (by decide +kernel) ?_
                          refine X.iconst (pc := 172) (i := 1) (v := 1) ic_1 (by decide +kernel) ?_
                          refine X.goto (pc := 173) (off := 5) (tgt := 178) (by decide +kernel) rfl ?_
                          have j0 := Option.some.inj h
                          subst j0
                          refine X.fgt (o' := [some (.ref (e_b E + v0)), some (.ref (e_b E + v1)), none, some (.int v3), none, some (.int v5), none, none]) ⟨rfl, ⟨rfl, ⟨rfl, ⟨rfl, trivial⟩⟩⟩⟩ ?_
                          exact hj285
                        · refine X.if_ne_t (pc := 169) (off := 7) (tgt := 176) hq282 rfl (by decide +kernel) ?_
                          refine X.iload_4 (pc := 176) (by decide +kernel) ?_
                          have j0 := Option.some.inj h
                          subst j0
                          refine X.fgt (o' := [some (.ref (e_b E + v0)), some (.ref (e_b E + v1)), none, some (.int v3), none, some (.int v5), none, none]) ⟨rfl, ⟨rfl, ⟨rfl, ⟨rfl, trivial⟩⟩⟩⟩ ?_
                          exact hj285
                      · refine X.icmp_ne_t (pc := 161) (off := 29) (tgt := 190) hq281 rfl (by decide +kernel) ?_
                        refine X.iload_7 (pc := 190) (by decide +kernel) ?_
                        rcases ifb_some h with ⟨hq288, h⟩ | ⟨hq288, h⟩
                        · refine X.if_eq_t (pc := 192) (off := 54) (tgt := 246) hq288 rfl (by decide +kernel) ?_
                          refine X.iload_5 (pc := 246) (by decide +kernel) ?_
                          have j0 := Option.some.inj h
                          obtain ⟨i0, j1⟩ := Prod.mk.inj j0
                          subst i0
                          subst j1
                          exact X.ireturn (pc := 248) (by decide +kernel) ⟨_, rfl, rfl⟩ ⟨rfl, rfl, rfl, rfl, rfl, rfl⟩
                        · refine X.if_eq_f (pc := 192) (off := 54) (tgt := 246) hq288 rfl (by decide +kernel) ?_
                          refine X.iload_2 (pc := 195) (by decide +kernel) ?_
                          rcases ifb_some h with ⟨hq289, h⟩ | ⟨hq289, h⟩
                          · refine X.if_eq_t (pc := 196) (off := 50) (tgt := 246) hq289 rfl (by decide +kernel) ?_
                            refine X.iload_5 (pc := 246) (by decide +kernel) ?_
                            have j0 := Option.some.inj h
                            obtain ⟨i0, j1⟩ := Prod.mk.inj j0
                            subst i0
                            subst j1
                            exact X.ireturn (pc := 248) (by decide +kernel) ⟨_, rfl, rfl⟩ ⟨rfl, rfl, rfl, rfl, rfl, rfl⟩
                          · refine X.if_eq_f (pc := 196) (off := 50) (tgt := 246) hq289 rfl (by decide +kernel) ?_
                            refine X.iload_2 (pc := 199) (by decide +kernel) ?_
                            refine X.iconst (pc := 200) (i := 3) (v := 3) ic_3 (by decide +kernel) ?_
                            rcases ifb_some h with ⟨hq290, h⟩ | ⟨hq290, h⟩
                            · refine X.icmp_eq_t (pc := 201) (off := 45) (tgt := 246) hq290 rfl (by decide +kernel) ?_
                              refine X.iload_5 (pc := 246) (by decide +kernel) ?_
                              have j0 := Option.some.inj h
                              obtain ⟨i0, j1⟩ := Prod.mk.inj j0
                              subst i0
                              subst j1
                              exact X.ireturn (pc := 248) (by decide +kernel) ⟨_, rfl, rfl⟩ ⟨rfl, rfl, rfl, rfl, rfl, rfl⟩
                            · refine X.icmp_eq_f (pc := 201) (off := 45) (tgt := 246) hq290 rfl (by decide +kernel) ?_
                              refine X.aload_0 (pc := 204) (by decide +kernel) ?_
                              refine X.dupr (pc := 205) (by decide +kernel) ?_
                              refine X.getI (pc := 206) (k := 0) fw_Fee_15 (by decide +kernel) (fun _ => rfl) hS ?_
                              refine X.iload_3 (pc := 209) (by decide +kernel) ?_
                              refine X.iload_4 (pc := 210) (by decide +kernel) ?_
                              refine X.imul (pc := 212) (by decide +kernel) ?_
                              refine X.iadd (pc := 213) (by decide +kernel) ?_
                              refine X.nameI (fun x291 hx291 => ?_)
                              have h := lt_at hx291 h
                              refine X.putI (pc := 214) (k := 0) fw_Fee_15 (by decide +kernel) rfl rfl hS ?_
                              refine X.nameMI (fun I292 hI292 => ?_)
                              have h := lt_at hI292 h
                              refine X.iload_6 (pc := 217) (by decide +kernel) ?_
                              refine X.iconst (pc := 219) (i := (-1)) (v := (-1)) ic_m1 (by decide +kernel) ?_
                              rcases ifb_some h with ⟨hq293, h⟩ | ⟨hq293, h⟩
                              · refine X.icmp_ne_f (pc := 220) (off := 5) (tgt := 225) hq293 rfl (by decide +kernel) ?_
                                refine X.iconst (pc := 223) (i := (-1)) (v := (-1)) ic_m1 (by decide +kernel) ?_
                                have j0 := Option.some.inj h
                                obtain ⟨i0, j1⟩ := Prod.mk.inj j0
                                subst i0
                                subst j1
                                exact X.ireturn (pc := 224) (by decide +kernel) ⟨_, rfl, rfl⟩ ⟨rfl, rfl, rfl, rfl, rfl, rfl⟩
                              · refine X.icmp_ne_t (pc := 220) (off := 5) (tgt := 225) hq293 rfl (by decide +kernel) ?_
                                refine X.iload_6 (pc := 225) (by decide +kernel) ?_
                                refine X.bipush (pc := 227) (i := 45) (v := 45) bp_45 (by decide +kernel) ?_
                                obtain ⟨y295, hr296, h⟩ := bnd1_some h
                                have hj297 : X E y_Fee_learn b_Fee_learn 8 (some .int) tg d 0 0 237 [some (.ref (e_b E + v0)), some (.ref (e_b E + v1)), none, none, none, some (.int v5), none, none] [.int y295] S I292 L R n (Kq (some (.int v)) S I' L R n) := by
                                  refine X.istore_3 (pc := 237) (by decide +kernel) (by decide) rfl ?_
                                  refine X.iconst (pc := 238) (i := 0) (v := 0) ic_0 (by decide +kernel) ?_
                                  refine X.istore_4 (pc := 239) (by decide +kernel) (by decide) rfl ?_
                                  refine X.iconst (pc := 241) (i := 0) (v := 0) ic_0 (by decide +kernel) ?_
                                  refine X.istore_2 (pc := 242) (by decide +kernel) (by decide) rfl ?_
                                  refine X.goto (pc := 243) (off := 6) (tgt := 249) (by decide +kernel) rfl ?_
                                  refine X.iinc_5 (pc := 249) (z := 1) (v := 1) ic_1 (by decide +kernel) (by decide) rfl ?_
                                  refine X.goto (pc := 252) (off := (-223)) (tgt := 29) (by decide +kernel) rfl ?_
                                  exact ih hS h
                                have h := hr296
                                rcases ifb_some h with ⟨hq294, h⟩ | ⟨hq294, h⟩
                                · refine X.icmp_ne_f (pc := 229) (off := 7) (tgt := 236) hq294 rfl (by decide +kernel) ?_
                                  refine X.iconst (pc := 232) (i := (-1)) (v := (-1)) ic_m1 (by decide +kernel) ?_
                                  refine X.goto (pc := 233) (off := 4) (tgt := 237) (by decide +kernel) rfl ?_
                                  have j0 := Option.some.inj h
                                  subst j0
                                  refine X.fgt (o' := [some (.ref (e_b E + v0)), some (.ref (e_b E + v1)), none, none, none, some (.int v5), none, none]) ⟨rfl, ⟨rfl, ⟨rfl, trivial⟩⟩⟩ ?_
                                  exact hj297
                                · refine X.icmp_ne_t (pc := 229) (off := 7) (tgt := 236) hq294 rfl (by decide +kernel) ?_
                                  refine X.iconst (pc := 236) (i := 1) (v := 1) ic_1 (by decide +kernel) ?_
                                  have j0 := Option.some.inj h
                                  subst j0
                                  refine X.fgt (o' := [some (.ref (e_b E + v0)), some (.ref (e_b E + v1)), none, none, none, some (.int v5), none, none]) ⟨rfl, ⟨rfl, ⟨rfl, trivial⟩⟩⟩ ?_
                                  exact hj297
            · refine X.icmp_ne_t (pc := 129) (off := 18) (tgt := 147) hq258 rfl (by decide +kernel) ?_
              refine X.iload_6 (pc := 147) (by decide +kernel) ?_
              obtain ⟨x298, hv299, h⟩ := bnd1_some h
              refine X.callSi (pc := 149) (nc := 0) (ns := 0) (c_Fee_isLetter hE (dle hd (Nat.le_of_ble_eq_true rfl)) hv299) cv_Fee_44 (by decide +kernel) (ddd hd (Nat.le_of_ble_eq_true rfl)) rfl (Nat.le_of_ble_eq_true rfl) rfl rfl ?_
              rcases ifb_some h with ⟨hq300, h⟩ | ⟨hq300, h⟩
              · refine X.if_eq_t (pc := 152) (off := 38) (tgt := 190) hq300 rfl (by decide +kernel) ?_
                refine X.iload_7 (pc := 190) (by decide +kernel) ?_
                rcases ifb_some h with ⟨hq301, h⟩ | ⟨hq301, h⟩
                · refine X.if_eq_t (pc := 192) (off := 54) (tgt := 246) hq301 rfl (by decide +kernel) ?_
                  refine X.iload_5 (pc := 246) (by decide +kernel) ?_
                  have j0 := Option.some.inj h
                  obtain ⟨i0, j1⟩ := Prod.mk.inj j0
                  subst i0
                  subst j1
                  exact X.ireturn (pc := 248) (by decide +kernel) ⟨_, rfl, rfl⟩ ⟨rfl, rfl, rfl, rfl, rfl, rfl⟩
                · refine X.if_eq_f (pc := 192) (off := 54) (tgt := 246) hq301 rfl (by decide +kernel) ?_
                  refine X.iload_2 (pc := 195) (by decide +kernel) ?_
                  rcases ifb_some h with ⟨hq302, h⟩ | ⟨hq302, h⟩
                  · refine X.if_eq_t (pc := 196) (off := 50) (tgt := 246) hq302 rfl (by decide +kernel) ?_
                    refine X.iload_5 (pc := 246) (by decide +kernel) ?_
                    have j0 := Option.some.inj h
                    obtain ⟨i0, j1⟩ := Prod.mk.inj j0
                    subst i0
                    subst j1
                    exact X.ireturn (pc := 248) (by decide +kernel) ⟨_, rfl, rfl⟩ ⟨rfl, rfl, rfl, rfl, rfl, rfl⟩
                  · refine X.if_eq_f (pc := 196) (off := 50) (tgt := 246) hq302 rfl (by decide +kernel) ?_
                    refine X.iload_2 (pc := 199) (by decide +kernel) ?_
                    refine X.iconst (pc := 200) (i := 3) (v := 3) ic_3 (by decide +kernel) ?_
                    rcases ifb_some h with ⟨hq303, h⟩ | ⟨hq303, h⟩
                    · refine X.icmp_eq_t (pc := 201) (off := 45) (tgt := 246) hq303 rfl (by decide +kernel) ?_
                      refine X.iload_5 (pc := 246) (by decide +kernel) ?_
                      have j0 := Option.some.inj h
                      obtain ⟨i0, j1⟩ := Prod.mk.inj j0
                      subst i0
                      subst j1
                      exact X.ireturn (pc := 248) (by decide +kernel) ⟨_, rfl, rfl⟩ ⟨rfl, rfl, rfl, rfl, rfl, rfl⟩
                    · refine X.icmp_eq_f (pc := 201) (off := 45) (tgt := 246) hq303 rfl (by decide +kernel) ?_
                      refine X.aload_0 (pc := 204) (by decide +kernel) ?_
                      refine X.dupr (pc := 205) (by decide +kernel) ?_
                      refine X.getI (pc := 206) (k := 0) fw_Fee_15 (by decide +kernel) (fun _ => rfl) hS ?_
                      refine X.iload_3 (pc := 209) (by decide +kernel) ?_
                      refine X.iload_4 (pc := 210) (by decide +kernel) ?_
                      refine X.imul (pc := 212) (by decide +kernel) ?_
                      refine X.iadd (pc := 213) (by decide +kernel) ?_
                      refine X.nameI (fun x304 hx304 => ?_)
                      have h := lt_at hx304 h
                      refine X.putI (pc := 214) (k := 0) fw_Fee_15 (by decide +kernel) rfl rfl hS ?_
                      refine X.nameMI (fun I305 hI305 => ?_)
                      have h := lt_at hI305 h
                      refine X.iload_6 (pc := 217) (by decide +kernel) ?_
                      refine X.iconst (pc := 219) (i := (-1)) (v := (-1)) ic_m1 (by decide +kernel) ?_
                      rcases ifb_some h with ⟨hq306, h⟩ | ⟨hq306, h⟩
                      · refine X.icmp_ne_f (pc := 220) (off := 5) (tgt := 225) hq306 rfl (by decide +kernel) ?_
                        refine X.iconst (pc := 223) (i := (-1)) (v := (-1)) ic_m1 (by decide +kernel) ?_
                        have j0 := Option.some.inj h
                        obtain ⟨i0, j1⟩ := Prod.mk.inj j0
                        subst i0
                        subst j1
                        exact X.ireturn (pc := 224) (by decide +kernel) ⟨_, rfl, rfl⟩ ⟨rfl, rfl, rfl, rfl, rfl, rfl⟩
                      · refine X.icmp_ne_t (pc := 220) (off := 5) (tgt := 225) hq306 rfl (by decide +kernel) ?_
                        refine X.iload_6 (pc := 225) (by decide +kernel) ?_
                        refine X.bipush (pc := 227) (i := 45) (v := 45) bp_45 (by decide +kernel) ?_
                        obtain ⟨y308, hr309, h⟩ := bnd1_some h
                        have hj310 : X E y_Fee_learn b_Fee_learn 8 (some .int) tg d 0 0 237 [some (.ref (e_b E + v0)), some (.ref (e_b E + v1)), none, none, none, some (.int v5), none, none] [.int y308] S I305 L R n (Kq (some (.int v)) S I' L R n) := by
                          refine X.istore_3 (pc := 237) (by decide +kernel) (by decide) rfl ?_
                          refine X.iconst (pc := 238) (i := 0) (v := 0) ic_0 (by decide +kernel) ?_
                          refine X.istore_4 (pc := 239) (by decide +kernel) (by decide) rfl ?_
                          refine X.iconst (pc := 241) (i := 0) (v := 0) ic_0 (by decide +kernel) ?_
                          refine X.istore_2 (pc := 242) (by decide +kernel) (by decide) rfl ?_
                          refine X.goto (pc := 243) (off := 6) (tgt := 249) (by decide +kernel) rfl ?_
                          refine X.iinc_5 (pc := 249) (z := 1) (v := 1) ic_1 (by decide +kernel) (by decide) rfl ?_
                          refine X.goto (pc := 252) (off := (-223)) (tgt := 29) (by decide +kernel) rfl ?_
                          exact ih hS h
                        have h := hr309
                        rcases ifb_some h with ⟨hq307, h⟩ | ⟨hq307, h⟩
                        · refine X.icmp_ne_f (pc := 229) (off := 7) (tgt := 236) hq307 rfl (by decide +kernel) ?_
                          refine X.iconst (pc := 232) (i := (-1)) (v := (-1)) ic_m1 (by decide +kernel) ?_
                          refine X.goto (pc := 233) (off := 4) (tgt := 237) (by decide +kernel) rfl ?_
                          have j0 := Option.some.inj h
                          subst j0
                          refine X.fgt (o' := [some (.ref (e_b E + v0)), some (.ref (e_b E + v1)), none, none, none, some (.int v5), none, none]) ⟨rfl, ⟨rfl, ⟨rfl, trivial⟩⟩⟩ ?_
                          exact hj310
                        · refine X.icmp_ne_t (pc := 229) (off := 7) (tgt := 236) hq307 rfl (by decide +kernel) ?_
                          refine X.iconst (pc := 236) (i := 1) (v := 1) ic_1 (by decide +kernel) ?_
                          have j0 := Option.some.inj h
                          subst j0
                          refine X.fgt (o' := [some (.ref (e_b E + v0)), some (.ref (e_b E + v1)), none, none, none, some (.int v5), none, none]) ⟨rfl, ⟨rfl, ⟨rfl, trivial⟩⟩⟩ ?_
                          exact hj310
              · refine X.if_eq_f (pc := 152) (off := 38) (tgt := 190) hq300 rfl (by decide +kernel) ?_
                refine X.iload_2 (pc := 155) (by decide +kernel) ?_
                rcases ifb_some h with ⟨hq311, h⟩ | ⟨hq311, h⟩
                · refine X.if_eq_t (pc := 156) (off := 8) (tgt := 164) hq311 rfl (by decide +kernel) ?_
                  refine X.aload_0 (pc := 164) (by decide +kernel) ?_
                  refine X.iload_6 (pc := 165) (by decide +kernel) ?_
                  refine X.iload_3 (pc := 167) (by decide +kernel) ?_
                  refine X.iload_2 (pc := 168) (by decide +kernel) ?_
                  obtain ⟨y313, hr314, h⟩ := bnd1_some h
                  have hj315 : X E y_Fee_learn b_Fee_learn 8 (some .int) tg d 0 0 178 [some (.ref (e_b E + v0)), some (.ref (e_b E + v1)), none, some (.int v3), none, some (.int v5), none, none] [.int y313, .int v3, .int x12, .ref (e_b E + v0)] S I L R n (Kq (some (.int v)) S I' L R n) := by
                    refine X.imul (pc := 178) (by decide +kernel) ?_
                    obtain ⟨I316, hv317, h⟩ := bnd1_some h
                    refine X.callVv (pc := 179) (nc := 0) (ns := 0) (c_Fee_addTo hE (dle hd (Nat.le_of_ble_eq_true rfl)) hS hv317) cv_Fee_48 (by decide +kernel) hS ⟨by decide, rfl⟩ (ddd hd (Nat.le_of_ble_eq_true rfl)) rfl (Nat.le_of_ble_eq_true rfl) rfl rfl ?_
                    refine X.iconst (pc := 182) (i := 0) (v := 0) ic_0 (by decide +kernel) ?_
                    refine X.istore_4 (pc := 183) (by decide +kernel) (by decide) rfl ?_
                    refine X.iconst (pc := 185) (i := 4) (v := 4) ic_4 (by decide +kernel) ?_
                    refine X.istore_2 (pc := 186) (by decide +kernel) (by decide) rfl ?_
                    refine X.goto (pc := 187) (off := 62) (tgt := 249) (by decide +kernel) rfl ?_
                    refine X.iinc_5 (pc := 249) (z := 1) (v := 1) ic_1 (by decide +kernel) (by decide) rfl ?_
                    refine X.goto (pc := 252) (off := (-223)) (tgt := 29) (by decide +kernel) rfl ?_
                    exact ih hS h
                  have h := hr314
                  rcases ifb_some h with ⟨hq312, h⟩ | ⟨hq312, h⟩
                  · refine X.if_ne_f (pc := 169) (off := 7) (tgt := 176) hq312 rfl (by decide +kernel) ?_
                    refine X.iconst (pc := 172) (i := 1) (v := 1) ic_1 (by decide +kernel) ?_
                    refine X.goto (pc := 173) (off := 5) (tgt := 178) (by decide +kernel) rfl ?_
                    have j0 := Option.some.inj h
                    subst j0
                    refine X.fgt (o' := [some (.ref (e_b E + v0)), some (.ref (e_b E + v1)), none, some (.int v3), none, some (.int v5), none, none]) ⟨rfl, ⟨rfl, ⟨rfl, ⟨rfl, trivial⟩⟩⟩⟩ ?_
                    exact hj315
                  · refine X.if_ne_t (pc := 169) (off := 7) (tgt := 176) hq312 rfl (by decide +kernel) ?_
                    refine X.iload_4 (pc := 176) (by decide +kernel) ?_
                    have j0 := Option.some.inj h
                    subst j0
                    refine X.fgt (o' := [some (.ref (e_b E + v0)), some (.ref (e_b E + v1)), none, some (.int v3), none, some (.int v5), none, none]) ⟨rfl, ⟨rfl, ⟨rfl, ⟨rfl, trivial⟩⟩⟩⟩ ?_
                    exact hj315
                · refine X.if_eq_f (pc := 156) (off := 8) (tgt := 164) hq311 rfl (by decide +kernel) ?_
                  refine X.iload_2 (pc := 159) (by decide +kernel) ?_
                  refine X.iconst (pc := 160) (i := 3) (v := 3) ic_3 (by decide +kernel) ?_
                  rcases ifb_some h with ⟨hq318, h⟩ | ⟨hq318, h⟩
                  · refine X.icmp_ne_f (pc := 161) (off := 29) (tgt := 190) hq318 rfl (by decide +kernel) ?_
                    refine X.aload_0 (pc := 164) (by decide +kernel) ?_
                    refine X.iload_6 (pc := 165) (by decide +kernel) ?_
                    refine X.iload_3 (pc := 167) (by decide +kernel) ?_
                    refine X.iload_2 (pc := 168) (by decide +kernel) ?_
                    obtain ⟨y320, hr321, h⟩ := bnd1_some h
                    have hj322 : X E y_Fee_learn b_Fee_learn 8 (some .int) tg d 0 0 178 [some (.ref (e_b E + v0)), some (.ref (e_b E + v1)), none, some (.int v3), none, some (.int v5), none, none] [.int y320, .int v3, .int x12, .ref (e_b E + v0)] S I L R n (Kq (some (.int v)) S I' L R n) := by
                      refine X.imul (pc := 178) (by decide +kernel) ?_
                      obtain ⟨I323, hv324, h⟩ := bnd1_some h
                      refine X.callVv (pc := 179) (nc := 0) (ns := 0) (c_Fee_addTo hE (dle hd (Nat.le_of_ble_eq_true rfl)) hS hv324) cv_Fee_48 (by decide +kernel) hS ⟨by decide, rfl⟩ (ddd hd (Nat.le_of_ble_eq_true rfl)) rfl (Nat.le_of_ble_eq_true rfl) rfl rfl ?_
                      refine X.iconst (pc := 182) (i := 0) (v := 0) ic_0 (by decide +kernel) ?_
                      refine X.istore_4 (pc := 183) (by decide +kernel) (by decide) rfl ?_
                      refine X.iconst (pc := 185) (i := 4) (v := 4) ic_4 (by decide +kernel) ?_
                      refine X.istore_2 (pc := 186) (by decide +kernel) (by decide) rfl ?_
                      refine X.goto (pc := 187) (off := 62) (tgt := 249) (by decide +kernel) rfl ?_
                      refine X.iinc_5 (pc := 249) (z := 1) (v := 1) ic_1 (by decide +kernel) (by decide) rfl ?_
                      refine X.goto (pc := 252) (off := (-223)) (tgt := 29) (by decide +kernel) rfl ?_
                      exact ih hS h
                    have h := hr321
                    rcases ifb_some h with ⟨hq319, h⟩ | ⟨hq319, h⟩
                    · refine X.if_ne_f (pc := 169) (off := 7) (tgt := 176) hq319 rfl (by decide +kernel) ?_
                      refine X.iconst (pc := 172) (i := 1) (v := 1) ic_1 (by decide +kernel) ?_
                      refine X.goto (pc := 173) (off := 5) (tgt := 178) (by decide +kernel) rfl ?_
                      have j0 := Option.some.inj h
                      subst j0
                      refine X.fgt (o' := [some (.ref (e_b E + v0)), some (.ref (e_b E + v1)), none, some (.int v3), none, some (.int v5), none, none]) ⟨rfl, ⟨rfl, ⟨rfl, ⟨rfl, trivial⟩⟩⟩⟩ ?_
                      exact hj322
                    · refine X.if_ne_t (pc := 169) (off := 7) (tgt := 176) hq319 rfl (by decide +kernel) ?_
                      refine X.iload_4 (pc := 176) (by decide +kernel) ?_
                      have j0 := Option.some.inj h
                      subst j0
                      refine X.fgt (o' := [some (.ref (e_b E + v0)), some (.ref (e_b E + v1)), none, some (.int v3), none, some (.int v5), none, none]) ⟨rfl, ⟨rfl, ⟨rfl, ⟨rfl, trivial⟩⟩⟩⟩ ?_
                      exact hj322
                  · refine X.icmp_ne_t (pc := 161) (off := 29) (tgt := 190) hq318 rfl (by decide +kernel) ?_
                    refine X.iload_7 (pc := 190) (by decide +kernel) ?_
                    rcases ifb_some h with ⟨hq325, h⟩ | ⟨hq325, h⟩
                    · refine X.if_eq_t (pc := 192) (off := 54) (tgt := 246) hq325 rfl (by decide +kernel) ?_
                      refine X.iload_5 (pc := 246) (by decide +kernel) ?_
                      have j0 := Option.some.inj h
                      obtain ⟨i0, j1⟩ := Prod.mk.inj j0
                      subst i0
                      subst j1
                      exact X.ireturn (pc := 248) (by decide +kernel) ⟨_, rfl, rfl⟩ ⟨rfl, rfl, rfl, rfl, rfl, rfl⟩
                    · refine X.if_eq_f (pc := 192) (off := 54) (tgt := 246) hq325 rfl (by decide +kernel) ?_
                      refine X.iload_2 (pc := 195) (by decide +kernel) ?_
                      rcases ifb_some h with ⟨hq326, h⟩ | ⟨hq326, h⟩
                      · refine X.if_eq_t (pc := 196) (off := 50) (tgt := 246) hq326 rfl (by decide +kernel) ?_
                        refine X.iload_5 (pc := 246) (by decide +kernel) ?_
                        have j0 := Option.some.inj h
                        obtain ⟨i0, j1⟩ := Prod.mk.inj j0
                        subst i0
                        subst j1
                        exact X.ireturn (pc := 248) (by decide +kernel) ⟨_, rfl, rfl⟩ ⟨rfl, rfl, rfl, rfl, rfl, rfl⟩
                      · refine X.if_eq_f (pc := 196) (off := 50) (tgt := 246) hq326 rfl (by decide +kernel) ?_
                        refine X.iload_2 (pc := 199) (by decide +kernel) ?_
                        refine X.iconst (pc := 200) (i := 3) (v := 3) ic_3 (by decide +kernel) ?_
                        rcases ifb_some h with ⟨hq327, h⟩ | ⟨hq327, h⟩
                        · refine X.icmp_eq_t (pc := 201) (off := 45) (tgt := 246) hq327 rfl (by decide +kernel) ?_
                          refine X.iload_5 (pc := 246) (by decide +kernel) ?_
                          have j0 := Option.some.inj h
                          obtain ⟨i0, j1⟩ := Prod.mk.inj j0
                          subst i0
                          subst j1
                          exact X.ireturn (pc := 248) (by decide +kernel) ⟨_, rfl, rfl⟩ ⟨rfl, rfl, rfl, rfl, rfl, rfl⟩
                        · refine X.icmp_eq_f (pc := 201) (off := 45) (tgt := 246) hq327 rfl (by decide +kernel) ?_
                          refine X.aload_0 (pc := 204) (by decide +kernel) ?_
                          refine X.dupr (pc := 205) (by decide +kernel) ?_
                          refine X.getI (pc := 206) (k := 0) fw_Fee_15 (by decide +kernel) (fun _ => rfl) hS ?_
                          refine X.iload_3 (pc := 209) (by decide +kernel) ?_
                          refine X.iload_4 (pc := 210) (by decide +kernel) ?_
                          refine X.imul (pc := 212) (by decide +kernel) ?_
                          refine X.iadd (pc := 213) (by decide +kernel) ?_
                          refine X.nameI (fun x328 hx328 => ?_)
                          have h := lt_at hx328 h
                          refine X.putI (pc := 214) (k := 0) fw_Fee_15 (by decide +kernel) rfl rfl hS ?_
                          refine X.nameMI (fun I329 hI329 => ?_)
                          have h := lt_at hI329 h
                          refine X.iload_6 (pc := 217) (by decide +kernel) ?_
                          refine X.iconst (pc := 219) (i := (-1)) (v := (-1)) ic_m1 (by decide +kernel) ?_
                          rcases ifb_some h with ⟨hq330, h⟩ | ⟨hq330, h⟩
                          · refine X.icmp_ne_f (pc := 220) (off := 5) (tgt := 225) hq330 rfl (by decide +kernel) ?_
                            refine X.iconst (pc := 223) (i := (-1)) (v := (-1)) ic_m1 (by decide +kernel) ?_
                            have j0 := Option.some.inj h
                            obtain ⟨i0, j1⟩ := Prod.mk.inj j0
                            subst i0
                            subst j1
                            exact X.ireturn (pc := 224) (by decide +kernel) ⟨_, rfl, rfl⟩ ⟨rfl, rfl, rfl, rfl, rfl, rfl⟩
                          · refine X.icmp_ne_t (pc := 220) (off := 5) (tgt := 225) hq330 rfl (by decide +kernel) ?_
                            refine X.iload_6 (pc := 225) (by decide +kernel) ?_
                            refine X.bipush (pc := 227) (i := 45) (v := 45) bp_45 (by decide +kernel) ?_
                            obtain ⟨y332, hr333, h⟩ := bnd1_some h
                            have hj334 : X E y_Fee_learn b_Fee_learn 8 (some .int) tg d 0 0 237 [some (.ref (e_b E + v0)), some (.ref (e_b E + v1)), none, none, none, some (.int v5), none, none] [.int y332] S I329 L R n (Kq (some (.int v)) S I' L R n) := by
                              refine X.istore_3 (pc := 237) (by decide +kernel) (by decide) rfl ?_
                              refine X.iconst (pc := 238) (i := 0) (v := 0) ic_0 (by decide +kernel) ?_
                              refine X.istore_4 (pc := 239) (by decide +kernel) (by decide) rfl ?_
                              refine X.iconst (pc := 241) (i := 0) (v := 0) ic_0 (by decide +kernel) ?_
                              refine X.istore_2 (pc := 242) (by decide +kernel) (by decide) rfl ?_
                              refine X.goto (pc := 243) (off := 6) (tgt := 249) (by decide +kernel) rfl ?_
                              refine X.iinc_5 (pc := 249) (z := 1) (v := 1) ic_1 (by decide +kernel) (by decide) rfl ?_
                              refine X.goto (pc := 252) (off := (-223)) (tgt := 29) (by decide +kernel) rfl ?_
                              exact ih hS h
                            have h := hr333
                            rcases ifb_some h with ⟨hq331, h⟩ | ⟨hq331, h⟩
                            · refine X.icmp_ne_f (pc := 229) (off := 7) (tgt := 236) hq331 rfl (by decide +kernel) ?_
                              refine X.iconst (pc := 232) (i := (-1)) (v := (-1)) ic_m1 (by decide +kernel) ?_
                              refine X.goto (pc := 233) (off := 4) (tgt := 237) (by decide +kernel) rfl ?_
                              have j0 := Option.some.inj h
                              subst j0
                              refine X.fgt (o' := [some (.ref (e_b E + v0)), some (.ref (e_b E + v1)), none, none, none, some (.int v5), none, none]) ⟨rfl, ⟨rfl, ⟨rfl, trivial⟩⟩⟩ ?_
                              exact hj334
                            · refine X.icmp_ne_t (pc := 229) (off := 7) (tgt := 236) hq331 rfl (by decide +kernel) ?_
                              refine X.iconst (pc := 236) (i := 1) (v := 1) ic_1 (by decide +kernel) ?_
                              have j0 := Option.some.inj h
                              subst j0
                              refine X.fgt (o' := [some (.ref (e_b E + v0)), some (.ref (e_b E + v1)), none, none, none, some (.int v5), none, none]) ⟨rfl, ⟨rfl, ⟨rfl, trivial⟩⟩⟩ ?_
                              exact hj334
          · refine X.icmp_lt_f (pc := 91) (off := 34) (tgt := 125) hq257 rfl (by decide +kernel) ?_
            refine X.iload_6 (pc := 94) (by decide +kernel) ?_
            refine X.bipush (pc := 96) (i := 57) (v := 57) bp_57 (by decide +kernel) ?_
            rcases ifb_some h with ⟨hq335, h⟩ | ⟨hq335, h⟩
            · refine X.icmp_gt_t (pc := 98) (off := 27) (tgt := 125) hq335 rfl (by decide +kernel) ?_
              refine X.iload_6 (pc := 125) (by decide +kernel) ?_
              refine X.bipush (pc := 127) (i := 42) (v := 42) bp_42 (by decide +kernel) ?_
              rcases ifb_some h with ⟨hq336, h⟩ | ⟨hq336, h⟩
              · refine X.icmp_ne_f (pc := 129) (off := 18) (tgt := 147) hq336 rfl (by decide +kernel) ?_
                refine X.iload_2 (pc := 132) (by decide +kernel) ?_
                refine X.iconst (pc := 133) (i := 1) (v := 1) ic_1 (by decide +kernel) ?_
                rcases ifb_some h with ⟨hq337, h⟩ | ⟨hq337, h⟩
                · refine X.icmp_eq_t (pc := 134) (off := 8) (tgt := 142) hq337 rfl (by decide +kernel) ?_
                  refine X.iconst (pc := 142) (i := 3) (v := 3) ic_3 (by decide +kernel) ?_
                  refine X.istore_2 (pc := 143) (by decide +kernel) (by decide) rfl ?_
                  refine X.goto (pc := 144) (off := 105) (tgt := 249) (by decide +kernel) rfl ?_
                  refine X.iinc_5 (pc := 249) (z := 1) (v := 1) ic_1 (by decide +kernel) (by decide) rfl ?_
                  refine X.goto (pc := 252) (off := (-223)) (tgt := 29) (by decide +kernel) rfl ?_
                  refine X.fgt (o' := [some (.ref (e_b E + v0)), some (.ref (e_b E + v1)), some (.int 3), some (.int v3), some (.int v4), some (.int (v5 + 1)), none, none]) ⟨rfl, ⟨rfl, ⟨rfl, ⟨rfl, ⟨rfl, ⟨rfl, trivial⟩⟩⟩⟩⟩⟩ ?_
                  exact ih hS h
                · refine X.icmp_eq_f (pc := 134) (off := 8) (tgt := 142) hq337 rfl (by decide +kernel) ?_
                  refine X.iload_2 (pc := 137) (by decide +kernel) ?_
                  refine X.iconst (pc := 138) (i := 2) (v := 2) ic_2 (by decide +kernel) ?_
                  rcases ifb_some h with ⟨hq338, h⟩ | ⟨hq338, h⟩
                  · refine X.icmp_ne_f (pc := 139) (off := 8) (tgt := 147) hq338 rfl (by decide +kernel) ?_
                    refine X.iconst (pc := 142) (i := 3) (v := 3) ic_3 (by decide +kernel) ?_
                    refine X.istore_2 (pc := 143) (by decide +kernel) (by decide) rfl ?_
                    refine X.goto (pc := 144) (off := 105) (tgt := 249) (by decide +kernel) rfl ?_
                    refine X.iinc_5 (pc := 249) (z := 1) (v := 1) ic_1 (by decide +kernel) (by decide) rfl ?_
                    refine X.goto (pc := 252) (off := (-223)) (tgt := 29) (by decide +kernel) rfl ?_
                    refine X.fgt (o' := [some (.ref (e_b E + v0)), some (.ref (e_b E + v1)), some (.int 3), some (.int v3), some (.int v4), some (.int (v5 + 1)), none, none]) ⟨rfl, ⟨rfl, ⟨rfl, ⟨rfl, ⟨rfl, ⟨rfl, trivial⟩⟩⟩⟩⟩⟩ ?_
                    exact ih hS h
                  · refine X.icmp_ne_t (pc := 139) (off := 8) (tgt := 147) hq338 rfl (by decide +kernel) ?_
                    refine X.iload_6 (pc := 147) (by decide +kernel) ?_
                    obtain ⟨x339, hv340, h⟩ := bnd1_some h
                    refine X.callSi (pc := 149) (nc := 0) (ns := 0) (c_Fee_isLetter hE (dle hd (Nat.le_of_ble_eq_true rfl)) hv340) cv_Fee_44 (by decide +kernel) (ddd hd (Nat.le_of_ble_eq_true rfl)) rfl (Nat.le_of_ble_eq_true rfl) rfl rfl ?_
                    rcases ifb_some h with ⟨hq341, h⟩ | ⟨hq341, h⟩
                    · refine X.if_eq_t (pc := 152) (off := 38) (tgt := 190) hq341 rfl (by decide +kernel) ?_
                      refine X.iload_7 (pc := 190) (by decide +kernel) ?_
                      rcases ifb_some h with ⟨hq342, h⟩ | ⟨hq342, h⟩
                      · refine X.if_eq_t (pc := 192) (off := 54) (tgt := 246) hq342 rfl (by decide +kernel) ?_
                        refine X.iload_5 (pc := 246) (by decide +kernel) ?_
                        have j0 := Option.some.inj h
                        obtain ⟨i0, j1⟩ := Prod.mk.inj j0
                        subst i0
                        subst j1
                        exact X.ireturn (pc := 248) (by decide +kernel) ⟨_, rfl, rfl⟩ ⟨rfl, rfl, rfl, rfl, rfl, rfl⟩
                      · refine X.if_eq_f (pc := 192) (off := 54) (tgt := 246) hq342 rfl (by decide +kernel) ?_
                        refine X.iload_2 (pc := 195) (by decide +kernel) ?_
                        rcases ifb_some h with ⟨hq343, h⟩ | ⟨hq343, h⟩
                        · refine X.if_eq_t (pc := 196) (off := 50) (tgt := 246) hq343 rfl (by decide +kernel) ?_
                          refine X.iload_5 (pc := 246) (by decide +kernel) ?_
                          have j0 := Option.some.inj h
                          obtain ⟨i0, j1⟩ := Prod.mk.inj j0
                          subst i0
                          subst j1
                          exact X.ireturn (pc := 248) (by decide +kernel) ⟨_, rfl, rfl⟩ ⟨rfl, rfl, rfl, rfl, rfl, rfl⟩
                        · refine X.if_eq_f (pc := 196) (off := 50) (tgt := 246) hq343 rfl (by decide +kernel) ?_
                          refine X.iload_2 (pc := 199) (by decide +kernel) ?_
                          refine X.iconst (pc := 200) (i := 3) (v := 3) ic_3 (by decide +kernel) ?_
                          rcases ifb_some h with ⟨hq344, h⟩ | ⟨hq344, h⟩
                          · refine X.icmp_eq_t (pc := 201) (off := 45) (tgt := 246) hq344 rfl (by decide +kernel) ?_
                            refine X.iload_5 (pc := 246) (by decide +kernel) ?_
                            have j0 := Option.some.inj h
                            obtain ⟨i0, j1⟩ := Prod.mk.inj j0
                            subst i0
                            subst j1
                            exact X.ireturn (pc := 248) (by decide +kernel) ⟨_, rfl, rfl⟩ ⟨rfl, rfl, rfl, rfl, rfl, rfl⟩
                          · refine X.icmp_eq_f (pc := 201) (off := 45) (tgt := 246) hq344 rfl (by decide +kernel) ?_
                            refine X.aload_0 (pc := 204) (by decide +kernel) ?_
                            refine X.dupr (pc := 205) (by decide +kernel) ?_
                            refine X.getI (pc := 206) (k := 0) fw_Fee_15 (by decide +kernel) (fun _ => rfl) hS ?_
                            refine X.iload_3 (pc := 209) (by decide +kernel) ?_
                            refine X.iload_4 (pc := 210) (by decide +kernel) ?_
                            refine X.imul (pc := 212) (by decide +kernel) ?_
                            refine X.iadd (pc := 213) (by decide +kernel) ?_
                            refine X.nameI (fun x345 hx345 => ?_)
                            have h := lt_at hx345 h
                            refine X.putI (pc := 214) (k := 0) fw_Fee_15 (by decide +kernel) rfl rfl hS ?_
                            refine X.nameMI (fun I346 hI346 => ?_)
                            have h := lt_at hI346 h
                            refine X.iload_6 (pc := 217) (by decide +kernel) ?_
                            refine X.iconst (pc := 219) (i := (-1)) (v := (-1)) ic_m1 (by decide +kernel) ?_
                            rcases ifb_some h with ⟨hq347, h⟩ | ⟨hq347, h⟩
                            · refine X.icmp_ne_f (pc := 220) (off := 5) (tgt := 225) hq347 rfl (by decide +kernel) ?_
                              refine X.iconst (pc := 223) (i := (-1)) (v := (-1)) ic_m1 (by decide +kernel) ?_
                              have j0 := Option.some.inj h
                              obtain ⟨i0, j1⟩ := Prod.mk.inj j0
                              subst i0
                              subst j1
                              exact X.ireturn (pc := 224) (by decide +kernel) ⟨_, rfl, rfl⟩ ⟨rfl, rfl, rfl, rfl, rfl, rfl⟩
                            · refine X.icmp_ne_t (pc := 220) (off := 5) (tgt := 225) hq347 rfl (by decide +kernel) ?_
                              refine X.iload_6 (pc := 225) (by decide +kernel) ?_
                              refine X.bipush (pc := 227) (i := 45) (v := 45) bp_45 (by decide +kernel) ?_
                              obtain ⟨y349, hr350, h⟩ := bnd1_some h
                              have hj351 : X E y_Fee_learn b_Fee_learn 8 (some .int) tg d 0 0 237 [some (.ref (e_b E + v0)), some (.ref (e_b E + v1)), none, none, none, some (.int v5), none, none] [.int y349] S I346 L R n (Kq (some (.int v)) S I' L R n) := by
                                refine X.istore_3 (pc := 237) (by decide +kernel) (by decide) rfl ?_
                                refine X.iconst (pc := 238) (i := 0) (v := 0) ic_0 (by decide +kernel) ?_
                                refine X.istore_4 (pc := 239) (by decide +kernel) (by decide) rfl ?_
                                refine X.iconst (pc := 241) (i := 0) (v := 0) ic_0 (by decide +kernel) ?_
                                refine X.istore_2 (pc := 242) (by decide +kernel) (by decide) rfl ?_
                                refine X.goto (pc := 243) (off := 6) (tgt := 249) (by decide +kernel) rfl ?_
                                refine X.iinc_5 (pc := 249) (z := 1) (v := 1) ic_1 (by decide +kernel) (by decide) rfl ?_
                                refine X.goto (pc := 252) (off := (-223)) (tgt := 29) (by decide +kernel) rfl ?_
                                exact ih hS h
                              have h := hr350
                              rcases ifb_some h with ⟨hq348, h⟩ | ⟨hq348, h⟩
                              · refine X.icmp_ne_f (pc := 229) (off := 7) (tgt := 236) hq348 rfl (by decide +kernel) ?_
                                refine X.iconst (pc := 232) (i := (-1)) (v := (-1)) ic_m1 (by decide +kernel) ?_
                                refine X.goto (pc := 233) (off := 4) (tgt := 237) (by decide +kernel) rfl ?_
                                have j0 := Option.some.inj h
                                subst j0
                                refine X.fgt (o' := [some (.ref (e_b E + v0)), some (.ref (e_b E + v1)), none, none, none, some (.int v5), none, none]) ⟨rfl, ⟨rfl, ⟨rfl, trivial⟩⟩⟩ ?_
                                exact hj351
                              · refine X.icmp_ne_t (pc := 229) (off := 7) (tgt := 236) hq348 rfl (by decide +kernel) ?_
                                refine X.iconst (pc := 236) (i := 1) (v := 1) ic_1 (by decide +kernel) ?_
                                have j0 := Option.some.inj h
                                subst j0
                                refine X.fgt (o' := [some (.ref (e_b E + v0)), some (.ref (e_b E + v1)), none, none, none, some (.int v5), none, none]) ⟨rfl, ⟨rfl, ⟨rfl, trivial⟩⟩⟩ ?_
                                exact hj351
                    · refine X.if_eq_f (pc := 152) (off := 38) (tgt := 190) hq341 rfl (by decide +kernel) ?_
                      refine X.iload_2 (pc := 155) (by decide +kernel) ?_
                      rcases ifb_some h with ⟨hq352, h⟩ | ⟨hq352, h⟩
                      · refine X.if_eq_t (pc := 156) (off := 8) (tgt := 164) hq352 rfl (by decide +kernel) ?_
                        refine X.aload_0 (pc := 164) (by decide +kernel) ?_
                        refine X.iload_6 (pc := 165) (by decide +kernel) ?_
                        refine X.iload_3 (pc := 167) (by decide +kernel) ?_
                        refine X.iload_2 (pc := 168) (by decide +kernel) ?_
                        obtain ⟨y354, hr355, h⟩ := bnd1_some h
                        have hj356 : X E y_Fee_learn b_Fee_learn 8 (some .int) tg d 0 0 178 [some (.ref (e_b E + v0)), some (.ref (e_b E + v1)), none, some (.int v3), none, some (.int v5), none, none] [.int y354, .int v3, .int x12, .ref (e_b E + v0)] S I L R n (Kq (some (.int v)) S I' L R n) := by
                          refine X.imul (pc := 178) (by decide +kernel) ?_
                          obtain ⟨I357, hv358, h⟩ := bnd1_some h
                          refine X.callVv (pc := 179) (nc := 0) (ns := 0) (c_Fee_addTo hE (dle hd (Nat.le_of_ble_eq_true rfl)) hS hv358) cv_Fee_48 (by decide +kernel) hS ⟨by decide, rfl⟩ (ddd hd (Nat.le_of_ble_eq_true rfl)) rfl (Nat.le_of_ble_eq_true rfl) rfl rfl ?_
                          refine X.iconst (pc := 182) (i := 0) (v := 0) ic_0 (by decide +kernel) ?_
                          refine X.istore_4 (pc := 183) (by decide +kernel) (by decide) rfl ?_
                          refine X.iconst (pc := 185) (i := 4) (v := 4) ic_4 (by decide +kernel) ?_
                          refine X.istore_2 (pc := 186) (by decide +kernel) (by decide) rfl ?_
                          refine X.goto (pc := 187) (off := 62) (tgt := 249) (by decide +kernel) rfl ?_
                          refine X.iinc_5 (pc := 249) (z := 1) (v := 1) ic_1 (by decide +kernel) (by decide) rfl ?_
                          refine X.goto (pc := 252) (off := (-223)) (tgt := 29) (by decide +kernel) rfl ?_
                          exact ih hS h
                        have h := hr355
                        rcases ifb_some h with ⟨hq353, h⟩ | ⟨hq353, h⟩
                        · refine X.if_ne_f (pc := 169) (off := 7) (tgt := 176) hq353 rfl (by decide +kernel) ?_
                          refine X.iconst (pc := 172) (i := 1) (v := 1) ic_1 (by decide +kernel) ?_
                          refine X.goto (pc := 173) (off := 5) (tgt := 178) (by decide +kernel) rfl ?_
                          have j0 := Option.some.inj h
                          subst j0
                          refine X.fgt (o' := [some (.ref (e_b E + v0)), some (.ref (e_b E + v1)), none, some (.int v3), none, some (.int v5), none, none]) ⟨rfl, ⟨rfl, ⟨rfl, ⟨rfl, trivial⟩⟩⟩⟩ ?_
                          exact hj356
                        · refine X.if_ne_t (pc := 169) (off := 7) (tgt := 176) hq353 rfl (by decide +kernel) ?_
                          refine X.iload_4 (pc := 176) (by decide +kernel) ?_
                          have j0 := Option.some.inj h
                          subst j0
                          refine X.fgt (o' := [some (.ref (e_b E + v0)), some (.ref (e_b E + v1)), none, some (.int v3), none, some (.int v5), none, none]) ⟨rfl, ⟨rfl, ⟨rfl, ⟨rfl, trivial⟩⟩⟩⟩ ?_
                          exact hj356
                      · refine X.if_eq_f (pc := 156) (off := 8) (tgt := 164) hq352 rfl (by decide +kernel) ?_
                        refine X.iload_2 (pc := 159) (by decide +kernel) ?_
                        refine X.iconst (pc := 160) (i := 3) (v := 3) ic_3 (by decide +kernel) ?_
                        rcases ifb_some h with ⟨hq359, h⟩ | ⟨hq359, h⟩
                        · refine X.icmp_ne_f (pc := 161) (off := 29) (tgt := 190) hq359 rfl (by decide +kernel) ?_
                          refine X.aload_0 (pc := 164) (by decide +kernel) ?_
                          refine X.iload_6 (pc := 165) (by decide +kernel) ?_
                          refine X.iload_3 (pc := 167) (by decide +kernel) ?_
                          refine X.iload_2 (pc := 168) (by decide +kernel) ?_
                          obtain ⟨y361, hr362, h⟩ := bnd1_some h
                          have hj363 : X E y_Fee_learn b_Fee_learn 8 (some .int) tg d 0 0 178 [some (.ref (e_b E + v0)), some (.ref (e_b E + v1)), none, some (.int v3), none, some (.int v5), none, none] [.int y361, .int v3, .int x12, .ref (e_b E + v0)] S I L R n (Kq (some (.int v)) S I' L R n) := by
                            refine X.imul (pc := 178) (by decide +kernel) ?_
                            obtain ⟨I364, hv365, h⟩ := bnd1_some h
                            refine X.callVv (pc := 179) (nc := 0) (ns := 0) (c_Fee_addTo hE (dle hd (Nat.le_of_ble_eq_true rfl)) hS hv365) cv_Fee_48 (by decide +kernel) hS ⟨by decide, rfl⟩ (ddd hd (Nat.le_of_ble_eq_true rfl)) rfl (Nat.le_of_ble_eq_true rfl) rfl rfl ?_
                            refine X.iconst (pc := 182) (i := 0) (v := 0) ic_0 (by decide +kernel) ?_
                            refine X.istore_4 (pc := 183) (by decide +kernel) (by decide) rfl ?_
                            refine X.iconst (pc := 185) (i := 4) (v := 4) ic_4 (by decide +kernel) ?_
                            refine X.istore_2 (pc := 186) (by decide +kernel) (by decide) rfl ?_
                            refine X.goto (pc := 187) (off := 62) (tgt := 249) (by decide +kernel) rfl ?_
                            refine X.iinc_5 (pc := 249) (z := 1) (v := 1) ic_1 (by decide +kernel) (by decide) rfl ?_
                            refine X.goto (pc := 252) (off := (-223)) (tgt := 29) (by decide +kernel) rfl ?_
                            exact ih hS h
                          have h := hr362
                          rcases ifb_some h with ⟨hq360, h⟩ | ⟨hq360, h⟩
                          · refine X.if_ne_f (pc := 169) (off := 7) (tgt := 176) hq360 rfl (by decide +kernel) ?_
                            refine X.iconst (pc := 172) (i := 1) (v := 1) ic_1 (by decide +kernel) ?_
                            refine X.goto (pc := 173) (off := 5) (tgt := 178) (by decide +kernel) rfl ?_
                            have j0 := Option.some.inj h
                            subst j0
                            refine X.fgt (o' := [some (.ref (e_b E + v0)), some (.ref (e_b E + v1)), none, some (.int v3), none, some (.int v5), none, none]) ⟨rfl, ⟨rfl, ⟨rfl, ⟨rfl, trivial⟩⟩⟩⟩ ?_
                            exact hj363
                          · refine X.if_ne_t (pc := 169) (off := 7) (tgt := 176) hq360 rfl (by decide +kernel) ?_
                            refine X.iload_4 (pc := 176) (by decide +kernel) ?_
                            have j0 := Option.some.inj h
                            subst j0
                            refine X.fgt (o' := [some (.ref (e_b E + v0)), some (.ref (e_b E + v1)), none, some (.int v3), none, some (.int v5), none, none]) ⟨rfl, ⟨rfl, ⟨rfl, ⟨rfl, trivial⟩⟩⟩⟩ ?_
                            exact hj363
                        · refine X.icmp_ne_t (pc := 161) (off := 29) (tgt := 190) hq359 rfl (by decide +kernel) ?_
                          refine X.iload_7 (pc := 190) (by decide +kernel) ?_
                          rcases ifb_some h with ⟨hq366, h⟩ | ⟨hq366, h⟩
                          · refine X.if_eq_t (pc := 192) (off := 54) (tgt := 246) hq366 rfl (by decide +kernel) ?_
                            refine X.iload_5 (pc := 246) (by decide +kernel) ?_
                            have j0 := Option.some.inj h
                            obtain ⟨i0, j1⟩ := Prod.mk.inj j0
                            subst i0
                            subst j1
                            exact X.ireturn (pc := 248) (by decide +kernel) ⟨_, rfl, rfl⟩ ⟨rfl, rfl, rfl, rfl, rfl, rfl⟩
                          · refine X.if_eq_f (pc := 192) (off := 54) (tgt := 246) hq366 rfl (by decide +kernel) ?_
                            refine X.iload_2 (pc := 195) (by decide +kernel) ?_
                            rcases ifb_some h with ⟨hq367, h⟩ | ⟨hq367, h⟩
                            · refine X.if_eq_t (pc := 196) (off := 50) (tgt := 246) hq367 rfl (by decide +kernel) ?_
                              refine X.iload_5 (pc := 246) (by decide +kernel) ?_
                              have j0 := Option.some.inj h
                              obtain ⟨i0, j1⟩ := Prod.mk.inj j0
                              subst i0
                              subst j1
                              exact X.ireturn (pc := 248) (by decide +kernel) ⟨_, rfl, rfl⟩ ⟨rfl, rfl, rfl, rfl, rfl, rfl⟩
                            · refine X.if_eq_f (pc := 196) (off := 50) (tgt := 246) hq367 rfl (by decide +kernel) ?_
                              refine X.iload_2 (pc := 199) (by decide +kernel) ?_
                              refine X.iconst (pc := 200) (i := 3) (v := 3) ic_3 (by decide +kernel) ?_
                              rcases ifb_some h with ⟨hq368, h⟩ | ⟨hq368, h⟩
                              · refine X.icmp_eq_t (pc := 201) (off := 45) (tgt := 246) hq368 rfl (by decide +kernel) ?_
                                refine X.iload_5 (pc := 246) (by decide +kernel) ?_
                                have j0 := Option.some.inj h
                                obtain ⟨i0, j1⟩ := Prod.mk.inj j0
                                subst i0
                                subst j1
                                exact X.ireturn (pc := 248) (by decide +kernel) ⟨_, rfl, rfl⟩ ⟨rfl, rfl, rfl, rfl, rfl, rfl⟩
                              · refine X.icmp_eq_f (pc := 201) (off := 45) (tgt := 246) hq368 rfl (by decide +kernel) ?_
                                refine X.aload_0 (pc := 204) (by decide +kernel) ?_
                                refine X.dupr (pc := 205) (by decide +kernel) ?_
                                refine X.getI (pc := 206) (k := 0) fw_Fee_15 (by decide +kernel) (fun _ => rfl) hS ?_
                                refine X.iload_3 (pc := 209) (by decide +kernel) ?_
                                refine X.iload_4 (pc := 210) (by decide +kernel) ?_
                                refine X.imul (pc := 212) (by decide +kernel) ?_
                                refine X.iadd (pc := 213) (by decide +kernel) ?_
                                refine X.nameI (fun x369 hx369 => ?_)
                                have h := lt_at hx369 h
                                refine X.putI (pc := 214) (k := 0) fw_Fee_15 (by decide +kernel) rfl rfl hS ?_
                                refine X.nameMI (fun I370 hI370 => ?_)
                                have h := lt_at hI370 h
                                refine X.iload_6 (pc := 217) (by decide +kernel) ?_
                                refine X.iconst (pc := 219) (i := (-1)) (v := (-1)) ic_m1 (by decide +kernel) ?_
                                rcases ifb_some h with ⟨hq371, h⟩ | ⟨hq371, h⟩
                                · refine X.icmp_ne_f (pc := 220) (off := 5) (tgt := 225) hq371 rfl (by decide +kernel) ?_
                                  refine X.iconst (pc := 223) (i := (-1)) (v := (-1)) ic_m1 (by decide +kernel) ?_
                                  have j0 := Option.some.inj h
                                  obtain ⟨i0, j1⟩ := Prod.mk.inj j0
                                  subst i0
                                  subst j1
                                  exact X.ireturn (pc := 224) (by decide +kernel) ⟨_, rfl, rfl⟩ ⟨rfl, rfl, rfl, rfl, rfl, rfl⟩
                                · refine X.icmp_ne_t (pc := 220) (off := 5) (tgt := 225) hq371 rfl (by decide +kernel) ?_
                                  refine X.iload_6 (pc := 225) (by decide +kernel) ?_
                                  refine X.bipush (pc := 227) (i := 45) (v := 45) bp_45 (by decide +kernel) ?_
                                  obtain ⟨y373, hr374, h⟩ := bnd1_some h
                                  have hj375 : X E y_Fee_learn b_Fee_learn 8 (some .int) tg d 0 0 237 [some (.ref (e_b E + v0)), some (.ref (e_b E + v1)), none, none, none, some (.int v5), none, none] [.int y373] S I370 L R n (Kq (some (.int v)) S I' L R n) := by
                                    refine X.istore_3 (pc := 237) (by decide +kernel) (by decide) rfl ?_
                                    refine X.iconst (pc := 238) (i := 0) (v := 0) ic_0 (by decide +kernel) ?_
                                    refine X.istore_4 (pc := 239) (by decide +kernel) (by decide) rfl ?_
                                    refine X.iconst (pc := 241) (i := 0) (v := 0) ic_0 (by decide +kernel) ?_
                                    refine X.istore_2 (pc := 242) (by decide +kernel) (by decide) rfl ?_
                                    refine X.goto (pc := 243) (off := 6) (tgt := 249) (by decide +kernel) rfl ?_
                                    refine X.iinc_5 (pc := 249) (z := 1) (v := 1) ic_1 (by decide +kernel) (by decide) rfl ?_
                                    refine X.goto (pc := 252) (off := (-223)) (tgt := 29) (by decide +kernel) rfl ?_
                                    exact ih hS h
                                  have h := hr374
                                  rcases ifb_some h with ⟨hq372, h⟩ | ⟨hq372, h⟩
                                  · refine X.icmp_ne_f (pc := 229) (off := 7) (tgt := 236) hq372 rfl (by decide +kernel) ?_
                                    refine X.iconst (pc := 232) (i := (-1)) (v := (-1)) ic_m1 (by decide +kernel) ?_
                                    refine X.goto (pc := 233) (off := 4) (tgt := 237) (by decide +kernel) rfl ?_
                                    have j0 := Option.some.inj h
                                    subst j0
                                    refine X.fgt (o' := [some (.ref (e_b E + v0)), some (.ref (e_b E + v1)), none, none, none, some (.int v5), none, none]) ⟨rfl, ⟨rfl, ⟨rfl, trivial⟩⟩⟩ ?_
                                    exact hj375
                                  · refine X.icmp_ne_t (pc := 229) (off := 7) (tgt := 236) hq372 rfl (by decide +kernel) ?_
                                    refine X.iconst (pc := 236) (i := 1) (v := 1) ic_1 (by decide +kernel) ?_
                                    have j0 := Option.some.inj h
                                    subst j0
                                    refine X.fgt (o' := [some (.ref (e_b E + v0)), some (.ref (e_b E + v1)), none, none, none, some (.int v5), none, none]) ⟨rfl, ⟨rfl, ⟨rfl, trivial⟩⟩⟩ ?_
                                    exact hj375
              · refine X.icmp_ne_t (pc := 129) (off := 18) (tgt := 147) hq336 rfl (by decide +kernel) ?_
                refine X.iload_6 (pc := 147) (by decide +kernel) ?_
                obtain ⟨x376, hv377, h⟩ := bnd1_some h
                refine X.callSi (pc := 149) (nc := 0) (ns := 0) (c_Fee_isLetter hE (dle hd (Nat.le_of_ble_eq_true rfl)) hv377) cv_Fee_44 (by decide +kernel) (ddd hd (Nat.le_of_ble_eq_true rfl)) rfl (Nat.le_of_ble_eq_true rfl) rfl rfl ?_
                rcases ifb_some h with ⟨hq378, h⟩ | ⟨hq378, h⟩
                · refine X.if_eq_t (pc := 152) (off := 38) (tgt := 190) hq378 rfl (by decide +kernel) ?_
                  refine X.iload_7 (pc := 190) (by decide +kernel) ?_
                  rcases ifb_some h with ⟨hq379, h⟩ | ⟨hq379, h⟩
                  · refine X.if_eq_t (pc := 192) (off := 54) (tgt := 246) hq379 rfl (by decide +kernel) ?_
                    refine X.iload_5 (pc := 246) (by decide +kernel) ?_
                    have j0 := Option.some.inj h
                    obtain ⟨i0, j1⟩ := Prod.mk.inj j0
                    subst i0
                    subst j1
                    exact X.ireturn (pc := 248) (by decide +kernel) ⟨_, rfl, rfl⟩ ⟨rfl, rfl, rfl, rfl, rfl, rfl⟩
                  · refine X.if_eq_f (pc := 192) (off := 54) (tgt := 246) hq379 rfl (by decide +kernel) ?_
                    refine X.iload_2 (pc := 195) (by decide +kernel) ?_
                    rcases ifb_some h with ⟨hq380, h⟩ | ⟨hq380, h⟩
                    · refine X.if_eq_t (pc := 196) (off := 50) (tgt := 246) hq380 rfl (by decide +kernel) ?_
                      refine X.iload_5 (pc := 246) (by decide +kernel) ?_
                      have j0 := Option.some.inj h
                      obtain ⟨i0, j1⟩ := Prod.mk.inj j0
                      subst i0
                      subst j1
                      exact X.ireturn (pc := 248) (by decide +kernel) ⟨_, rfl, rfl⟩ ⟨rfl, rfl, rfl, rfl, rfl, rfl⟩
                    · refine X.if_eq_f (pc := 196) (off := 50) (tgt := 246) hq380 rfl (by decide +kernel) ?_
                      refine X.iload_2 (pc := 199) (by decide +kernel) ?_
                      refine X.iconst (pc := 200) (i := 3) (v := 3) ic_3 (by decide +kernel) ?_
                      rcases ifb_some h with ⟨hq381, h⟩ | ⟨hq381, h⟩
                      · refine X.icmp_eq_t (pc := 201) (off := 45) (tgt := 246) hq381 rfl (by decide +kernel) ?_
                        refine X.iload_5 (pc := 246) (by decide +kernel) ?_
                        have j0 := Option.some.inj h
                        obtain ⟨i0, j1⟩ := Prod.mk.inj j0
                        subst i0
                        subst j1
                        exact X.ireturn (pc := 248) (by decide +kernel) ⟨_, rfl, rfl⟩ ⟨rfl, rfl, rfl, rfl, rfl, rfl⟩
                      · refine X.icmp_eq_f (pc := 201) (off := 45) (tgt := 246) hq381 rfl (by decide +kernel) ?_
                        refine X.aload_0 (pc := 204) (by decide +kernel) ?_
                        refine X.dupr (pc := 205) (by decide +kernel) ?_
                        refine X.getI (pc := 206) (k := 0) fw_Fee_15 (by decide +kernel) (fun _ => rfl) hS ?_
                        refine X.iload_3 (pc := 209) (by decide +kernel) ?_
                        refine X.iload_4 (pc := 210) (by decide +kernel) ?_
                        refine X.imul (pc := 212) (by decide +kernel) ?_
                        refine X.iadd (pc := 213) (by decide +kernel) ?_
                        refine X.nameI (fun x382 hx382 => ?_)
                        have h := lt_at hx382 h
                        refine X.putI (pc := 214) (k := 0) fw_Fee_15 (by decide +kernel) rfl rfl hS ?_
                        refine X.nameMI (fun I383 hI383 => ?_)
                        have h := lt_at hI383 h
                        refine X.iload_6 (pc := 217) (by decide +kernel) ?_
                        refine X.iconst (pc := 219) (i := (-1)) (v := (-1)) ic_m1 (by decide +kernel) ?_
                        rcases ifb_some h with ⟨hq384, h⟩ | ⟨hq384, h⟩
                        · refine X.icmp_ne_f (pc := 220) (off := 5) (tgt := 225) hq384 rfl (by decide +kernel) ?_
                          refine X.iconst (pc := 223) (i := (-1)) (v := (-1)) ic_m1 (by decide +kernel) ?_
                          have j0 := Option.some.inj h
                          obtain ⟨i0, j1⟩ := Prod.mk.inj j0
                          subst i0
                          subst j1
                          exact X.ireturn (pc := 224) (by decide +kernel) ⟨_, rfl, rfl⟩ ⟨rfl, rfl, rfl, rfl, rfl, rfl⟩
                        · refine X.icmp_ne_t (pc := 220) (off := 5) (tgt := 225) hq384 rfl (by decide +kernel) ?_
                          refine X.iload_6 (pc := 225) (by decide +kernel) ?_
                          refine X.bipush (pc := 227) (i := 45) (v := 45) bp_45 (by decide +kernel) ?_
                          obtain ⟨y386, hr387, h⟩ := bnd1_some h
                          have hj388 : X E y_Fee_learn b_Fee_learn 8 (some .int) tg d 0 0 237 [some (.ref (e_b E + v0)), some (.ref (e_b E + v1)), none, none, none, some (.int v5), none, none] [.int y386] S I383 L R n (Kq (some (.int v)) S I' L R n) := by
                            refine X.istore_3 (pc := 237) (by decide +kernel) (by decide) rfl ?_
                            refine X.iconst (pc := 238) (i := 0) (v := 0) ic_0 (by decide +kernel) ?_
                            refine X.istore_4 (pc := 239) (by decide +kernel) (by decide) rfl ?_
                            refine X.iconst (pc := 241) (i := 0) (v := 0) ic_0 (by decide +kernel) ?_
                            refine X.istore_2 (pc := 242) (by decide +kernel) (by decide) rfl ?_
                            refine X.goto (pc := 243) (off := 6) (tgt := 249) (by decide +kernel) rfl ?_
                            refine X.iinc_5 (pc := 249) (z := 1) (v := 1) ic_1 (by decide +kernel) (by decide) rfl ?_
                            refine X.goto (pc := 252) (off := (-223)) (tgt := 29) (by decide +kernel) rfl ?_
                            exact ih hS h
                          have h := hr387
                          rcases ifb_some h with ⟨hq385, h⟩ | ⟨hq385, h⟩
                          · refine X.icmp_ne_f (pc := 229) (off := 7) (tgt := 236) hq385 rfl (by decide +kernel) ?_
                            refine X.iconst (pc := 232) (i := (-1)) (v := (-1)) ic_m1 (by decide +kernel) ?_
                            refine X.goto (pc := 233) (off := 4) (tgt := 237) (by decide +kernel) rfl ?_
                            have j0 := Option.some.inj h
                            subst j0
                            refine X.fgt (o' := [some (.ref (e_b E + v0)), some (.ref (e_b E + v1)), none, none, none, some (.int v5), none, none]) ⟨rfl, ⟨rfl, ⟨rfl, trivial⟩⟩⟩ ?_
                            exact hj388
                          · refine X.icmp_ne_t (pc := 229) (off := 7) (tgt := 236) hq385 rfl (by decide +kernel) ?_
                            refine X.iconst (pc := 236) (i := 1) (v := 1) ic_1 (by decide +kernel) ?_
                            have j0 := Option.some.inj h
                            subst j0
                            refine X.fgt (o' := [some (.ref (e_b E + v0)), some (.ref (e_b E + v1)), none, none, none, some (.int v5), none, none]) ⟨rfl, ⟨rfl, ⟨rfl, trivial⟩⟩⟩ ?_
                            exact hj388
                · refine X.if_eq_f (pc := 152) (off := 38) (tgt := 190) hq378 rfl (by decide +kernel) ?_
                  refine X.iload_2 (pc := 155) (by decide +kernel) ?_
                  rcases ifb_some h with ⟨hq389, h⟩ | ⟨hq389, h⟩
                  · refine X.if_eq_t (pc := 156) (off := 8) (tgt := 164) hq389 rfl (by decide +kernel) ?_
                    refine X.aload_0 (pc := 164) (by decide +kernel) ?_
                    refine X.iload_6 (pc := 165) (by decide +kernel) ?_
                    refine X.iload_3 (pc := 167) (by decide +kernel) ?_
                    refine X.iload_2 (pc := 168) (by decide +kernel) ?_
                    obtain ⟨y391, hr392, h⟩ := bnd1_some h
                    have hj393 : X E y_Fee_learn b_Fee_learn 8 (some .int) tg d 0 0 178 [some (.ref (e_b E + v0)), some (.ref (e_b E + v1)), none, some (.int v3), none, some (.int v5), none, none] [.int y391, .int v3, .int x12, .ref (e_b E + v0)] S I L R n (Kq (some (.int v)) S I' L R n) := by
                      refine X.imul (pc := 178) (by decide +kernel) ?_
                      obtain ⟨I394, hv395, h⟩ := bnd1_some h
                      refine X.callVv (pc := 179) (nc := 0) (ns := 0) (c_Fee_addTo hE (dle hd (Nat.le_of_ble_eq_true rfl)) hS hv395) cv_Fee_48 (by decide +kernel) hS ⟨by decide, rfl⟩ (ddd hd (Nat.le_of_ble_eq_true rfl)) rfl (Nat.le_of_ble_eq_true rfl) rfl rfl ?_
                      refine X.iconst (pc := 182) (i := 0) (v := 0) ic_0 (by decide +kernel) ?_
                      refine X.istore_4 (pc := 183) (by decide +kernel) (by decide) rfl ?_
                      refine X.iconst (pc := 185) (i := 4) (v := 4) ic_4 (by decide +kernel) ?_
                      refine X.istore_2 (pc := 186) (by decide +kernel) (by decide) rfl ?_
                      refine X.goto (pc := 187) (off := 62) (tgt := 249) (by decide +kernel) rfl ?_
                      refine X.iinc_5 (pc := 249) (z := 1) (v := 1) ic_1 (by decide +kernel) (by decide) rfl ?_
                      refine X.goto (pc := 252) (off := (-223)) (tgt := 29) (by decide +kernel) rfl ?_
                      exact ih hS h
                    have h := hr392
                    rcases ifb_some h with ⟨hq390, h⟩ | ⟨hq390, h⟩
                    · refine X.if_ne_f (pc := 169) (off := 7) (tgt := 176) hq390 rfl (by decide +kernel) ?_
                      refine X.iconst (pc := 172) (i := 1) (v := 1) ic_1 (by decide +kernel) ?_
                      refine X.goto (pc := 173) (off := 5) (tgt := 178) (by decide +kernel) rfl ?_
                      have j0 := Option.some.inj h
                      subst j0
                      refine X.fgt (o' := [some (.ref (e_b E + v0)), some (.ref (e_b E + v1)), none, some (.int v3), none, some (.int v5), none, none]) ⟨rfl, ⟨rfl, ⟨rfl, ⟨rfl, trivial⟩⟩⟩⟩ ?_
                      exact hj393
                    · refine X.if_ne_t (pc := 169) (off := 7) (tgt := 176) hq390 rfl (by decide +kernel) ?_
                      refine X.iload_4 (pc := 176) (by decide +kernel) ?_
                      have j0 := Option.some.inj h
                      subst j0
                      refine X.fgt (o' := [some (.ref (e_b E + v0)), some (.ref (e_b E + v1)), none, some (.int v3), none, some (.int v5), none, none]) ⟨rfl, ⟨rfl, ⟨rfl, ⟨rfl, trivial⟩⟩⟩⟩ ?_
                      exact hj393
                  · refine X.if_eq_f (pc := 156) (off := 8) (tgt := 164) hq389 rfl (by decide +kernel) ?_
                    refine X.iload_2 (pc := 159) (by decide +kernel) ?_
                    refine X.iconst (pc := 160) (i := 3) (v := 3) ic_3 (by decide +kernel) ?_
                    rcases ifb_some h with ⟨hq396, h⟩ | ⟨hq396, h⟩
                    · refine X.icmp_ne_f (pc := 161) (off := 29) (tgt := 190) hq396 rfl (by decide +kernel) ?_
                      refine X.aload_0 (pc := 164) (by decide +kernel) ?_
                      refine X.iload_6 (pc := 165) (by decide +kernel) ?_
                      refine X.iload_3 (pc := 167) (by decide +kernel) ?_
                      refine X.iload_2 (pc := 168) (by decide +kernel) ?_
                      obtain ⟨y398, hr399, h⟩ := bnd1_some h
                      have hj400 : X E y_Fee_learn b_Fee_learn 8 (some .int) tg d 0 0 178 [some (.ref (e_b E + v0)), some (.ref (e_b E + v1)), none, some (.int v3), none, some (.int v5), none, none] [.int y398, .int v3, .int x12, .ref (e_b E + v0)] S I L R n (Kq (some (.int v)) S I' L R n) := by
                        refine X.imul (pc := 178) (by decide +kernel) ?_
                        obtain ⟨I401, hv402, h⟩ := bnd1_some h
                        refine X.callVv (pc := 179) (nc := 0) (ns := 0) (c_Fee_addTo hE (dle hd (Nat.le_of_ble_eq_true rfl)) hS hv402) cv_Fee_48 (by decide +kernel) hS ⟨by decide, rfl⟩ (ddd hd (Nat.le_of_ble_eq_true rfl)) rfl (Nat.le_of_ble_eq_true rfl) rfl rfl ?_
                        refine X.iconst (pc := 182) (i := 0) (v := 0) ic_0 (by decide +kernel) ?_
                        refine X.istore_4 (pc := 183) (by decide +kernel) (by decide) rfl ?_
                        refine X.iconst (pc := 185) (i := 4) (v := 4) ic_4 (by decide +kernel) ?_
                        refine X.istore_2 (pc := 186) (by decide +kernel) (by decide) rfl ?_
                        refine X.goto (pc := 187) (off := 62) (tgt := 249) (by decide +kernel) rfl ?_
                        refine X.iinc_5 (pc := 249) (z := 1) (v := 1) ic_1 (by decide +kernel) (by decide) rfl ?_
                        refine X.goto (pc := 252) (off := (-223)) (tgt := 29) (by decide +kernel) rfl ?_
                        exact ih hS h
                      have h := hr399
                      rcases ifb_some h with ⟨hq397, h⟩ | ⟨hq397, h⟩
                      · refine X.if_ne_f (pc := 169) (off := 7) (tgt := 176) hq397 rfl (by decide +kernel) ?_
                        refine X.iconst (pc := 172) (i := 1) (v := 1) ic_1 (by decide +kernel) ?_
                        refine X.goto (pc := 173) (off := 5) (tgt := 178) (by decide +kernel) rfl ?_
                        have j0 := Option.some.inj h
                        subst j0
                        refine X.fgt (o' := [some (.ref (e_b E + v0)), some (.ref (e_b E + v1)), none, some (.int v3), none, some (.int v5), none, none]) ⟨rfl, ⟨rfl, ⟨rfl, ⟨rfl, trivial⟩⟩⟩⟩ ?_
                        exact hj400
                      · refine X.if_ne_t (pc := 169) (off := 7) (tgt := 176) hq397 rfl (by decide +kernel) ?_
                        refine X.iload_4 (pc := 176) (by decide +kernel) ?_
                        have j0 := Option.some.inj h
                        subst j0
                        refine X.fgt (o' := [some (.ref (e_b E + v0)), some (.ref (e_b E + v1)), none, some (.int v3), none, some (.int v5), none, none]) ⟨rfl, ⟨rfl, ⟨rfl, ⟨rfl, trivial⟩⟩⟩⟩ ?_
                        exact hj400
                    · refine X.icmp_ne_t (pc := 161) (off := 29) (tgt := 190) hq396 rfl (by decide +kernel) ?_
                      refine X.iload_7 (pc := 190) (by decide +kernel) ?_
                      rcases ifb_some h with ⟨hq403, h⟩ | ⟨hq403, h⟩
                      · refine X.if_eq_t (pc := 192) (off := 54) (tgt := 246) hq403 rfl (by decide +kernel) ?_
                        refine X.iload_5 (pc := 246) (by decide +kernel) ?_
                        have j0 := Option.some.inj h
                        obtain ⟨i0, j1⟩ := Prod.mk.inj j0
                        subst i0
                        subst j1
                        exact X.ireturn (pc := 248) (by decide +kernel) ⟨_, rfl, rfl⟩ ⟨rfl, rfl, rfl, rfl, rfl, rfl⟩
                      · refine X.if_eq_f (pc := 192) (off := 54) (tgt := 246) hq403 rfl (by decide +kernel) ?_
                        refine X.iload_2 (pc := 195) (by decide +kernel) ?_
                        rcases ifb_some h with ⟨hq404, h⟩ | ⟨hq404, h⟩
                        · refine X.if_eq_t (pc := 196) (off := 50) (tgt := 246) hq404 rfl (by decide +kernel) ?_
                          refine X.iload_5 (pc := 246) (by decide +kernel) ?_
                          have j0 := Option.some.inj h
                          obtain ⟨i0, j1⟩ := Prod.mk.inj j0
                          subst i0
                          subst j1
                          exact X.ireturn (pc := 248) (by decide +kernel) ⟨_, rfl, rfl⟩ ⟨rfl, rfl, rfl, rfl, rfl, rfl⟩
                        · refine X.if_eq_f (pc := 196) (off := 50) (tgt := 246) hq404 rfl (by decide +kernel) ?_
                          refine X.iload_2 (pc := 199) (by decide +kernel) ?_
                          refine X.iconst (pc := 200) (i := 3) (v := 3) ic_3 (by decide +kernel) ?_
                          rcases ifb_some h with ⟨hq405, h⟩ | ⟨hq405, h⟩
                          · refine X.icmp_eq_t (pc := 201) (off := 45) (tgt := 246) hq405 rfl (by decide +kernel) ?_
                            refine X.iload_5 (pc := 246) (by decide +kernel) ?_
                            have j0 := Option.some.inj h
                            obtain ⟨i0, j1⟩ := Prod.mk.inj j0
                            subst i0
                            subst j1
                            exact X.ireturn (pc := 248) (by decide +kernel) ⟨_, rfl, rfl⟩ ⟨rfl, rfl, rfl, rfl, rfl, rfl⟩
                          · refine X.icmp_eq_f (pc := 201) (off := 45) (tgt := 246) hq405 rfl (by decide +kernel) ?_
                            refine X.aload_0 (pc := 204) (by decide +kernel) ?_
                            refine X.dupr (pc := 205) (by decide +kernel) ?_
                            refine X.getI (pc := 206) (k := 0) fw_Fee_15 (by decide +kernel) (fun _ => rfl) hS ?_
                            refine X.iload_3 (pc := 209) (by decide +kernel) ?_
                            refine X.iload_4 (pc := 210) (by decide +kernel) ?_
                            refine X.imul (pc := 212) (by decide +kernel) ?_
                            refine X.iadd (pc := 213) (by decide +kernel) ?_
                            refine X.nameI (fun x406 hx406 => ?_)
                            have h := lt_at hx406 h
                            refine X.putI (pc := 214) (k := 0) fw_Fee_15 (by decide +kernel) rfl rfl hS ?_
                            refine X.nameMI (fun I407 hI407 => ?_)
                            have h := lt_at hI407 h
                            refine X.iload_6 (pc := 217) (by decide +kernel) ?_
                            refine X.iconst (pc := 219) (i := (-1)) (v := (-1)) ic_m1 (by decide +kernel) ?_
                            rcases ifb_some h with ⟨hq408, h⟩ | ⟨hq408, h⟩
                            · refine X.icmp_ne_f (pc := 220) (off := 5) (tgt := 225) hq408 rfl (by decide +kernel) ?_
                              refine X.iconst (pc := 223) (i := (-1)) (v := (-1)) ic_m1 (by decide +kernel) ?_
                              have j0 := Option.some.inj h
                              obtain ⟨i0, j1⟩ := Prod.mk.inj j0
                              subst i0
                              subst j1
                              exact X.ireturn (pc := 224) (by decide +kernel) ⟨_, rfl, rfl⟩ ⟨rfl, rfl, rfl, rfl, rfl, rfl⟩
                            · refine X.icmp_ne_t (pc := 220) (off := 5) (tgt := 225) hq408 rfl (by decide +kernel) ?_
                              refine X.iload_6 (pc := 225) (by decide +kernel) ?_
                              refine X.bipush (pc := 227) (i := 45) (v := 45) bp_45 (by decide +kernel) ?_
                              obtain ⟨y410, hr411, h⟩ := bnd1_some h
                              have hj412 : X E y_Fee_learn b_Fee_learn 8 (some .int) tg d 0 0 237 [some (.ref (e_b E + v0)), some (.ref (e_b E + v1)), none, none, none, some (.int v5), none, none] [.int y410] S I407 L R n (Kq (some (.int v)) S I' L R n) := by
                                refine X.istore_3 (pc := 237) (by decide +kernel) (by decide) rfl ?_
                                refine X.iconst (pc := 238) (i := 0) (v := 0) ic_0 (by decide +kernel) ?_
                                refine X.istore_4 (pc := 239) (by decide +kernel) (by decide) rfl ?_
                                refine X.iconst (pc := 241) (i := 0) (v := 0) ic_0 (by decide +kernel) ?_
                                refine X.istore_2 (pc := 242) (by decide +kernel) (by decide) rfl ?_
                                refine X.goto (pc := 243) (off := 6) (tgt := 249) (by decide +kernel) rfl ?_
                                refine X.iinc_5 (pc := 249) (z := 1) (v := 1) ic_1 (by decide +kernel) (by decide) rfl ?_
                                refine X.goto (pc := 252) (off := (-223)) (tgt := 29) (by decide +kernel) rfl ?_
                                exact ih hS h
                              have h := hr411
                              rcases ifb_some h with ⟨hq409, h⟩ | ⟨hq409, h⟩
                              · refine X.icmp_ne_f (pc := 229) (off := 7) (tgt := 236) hq409 rfl (by decide +kernel) ?_
                                refine X.iconst (pc := 232) (i := (-1)) (v := (-1)) ic_m1 (by decide +kernel) ?_
                                refine X.goto (pc := 233) (off := 4) (tgt := 237) (by decide +kernel) rfl ?_
                                have j0 := Option.some.inj h
                                subst j0
                                refine X.fgt (o' := [some (.ref (e_b E + v0)), some (.ref (e_b E + v1)), none, none, none, some (.int v5), none, none]) ⟨rfl, ⟨rfl, ⟨rfl, trivial⟩⟩⟩ ?_
                                exact hj412
                              · refine X.icmp_ne_t (pc := 229) (off := 7) (tgt := 236) hq409 rfl (by decide +kernel) ?_
                                refine X.iconst (pc := 236) (i := 1) (v := 1) ic_1 (by decide +kernel) ?_
                                have j0 := Option.some.inj h
                                subst j0
                                refine X.fgt (o' := [some (.ref (e_b E + v0)), some (.ref (e_b E + v1)), none, none, none, some (.int v5), none, none]) ⟨rfl, ⟨rfl, ⟨rfl, trivial⟩⟩⟩ ?_
                                exact hj412
            · refine X.icmp_gt_f (pc := 98) (off := 27) (tgt := 125) hq335 rfl (by decide +kernel) ?_
              refine X.iload_2 (pc := 101) (by decide +kernel) ?_
              refine X.iconst (pc := 102) (i := 1) (v := 1) ic_1 (by decide +kernel) ?_
              rcases ifb_some h with ⟨hq413, h⟩ | ⟨hq413, h⟩
              · refine X.icmp_gt_t (pc := 103) (off := 22) (tgt := 125) hq413 rfl (by decide +kernel) ?_
                refine X.iload_6 (pc := 125) (by decide +kernel) ?_
                refine X.bipush (pc := 127) (i := 42) (v := 42) bp_42 (by decide +kernel) ?_
                rcases ifb_some h with ⟨hq414, h⟩ | ⟨hq414, h⟩
                · refine X.icmp_ne_f (pc := 129) (off := 18) (tgt := 147) hq414 rfl (by decide +kernel) ?_
                  refine X.iload_2 (pc := 132) (by decide +kernel) ?_
                  refine X.iconst (pc := 133) (i := 1) (v := 1) ic_1 (by decide +kernel) ?_
                  rcases ifb_some h with ⟨hq415, h⟩ | ⟨hq415, h⟩
                  · refine X.icmp_eq_t (pc := 134) (off := 8) (tgt := 142) hq415 rfl (by decide +kernel) ?_
                    refine X.iconst (pc := 142) (i := 3) (v := 3) ic_3 (by decide +kernel) ?_
                    refine X.istore_2 (pc := 143) (by decide +kernel) (by decide) rfl ?_
                    refine X.goto (pc := 144) (off := 105) (tgt := 249) (by decide +kernel) rfl ?_
                    refine X.iinc_5 (pc := 249) (z := 1) (v := 1) ic_1 (by decide +kernel) (by decide) rfl ?_
                    refine X.goto (pc := 252) (off := (-223)) (tgt := 29) (by decide +kernel) rfl ?_
                    refine X.fgt (o' := [some (.ref (e_b E + v0)), some (.ref (e_b E + v1)), some (.int 3), some (.int v3), some (.int v4), some (.int (v5 + 1)), none, none]) ⟨rfl, ⟨rfl, ⟨rfl, ⟨rfl, ⟨rfl, ⟨rfl, trivial⟩⟩⟩⟩⟩⟩ ?_
                    exact ih hS h
                  · refine X.icmp_eq_f (pc := 134) (off := 8) (tgt := 142) hq415 rfl (by decide +kernel) ?_
                    refine X.iload_2 (pc := 137) (by decide +kernel) ?_
                    refine X.iconst (pc := 138) (i := 2) (v := 2) ic_2 (by decide +kernel) ?_
                    rcases ifb_some h with ⟨hq416, h⟩ | ⟨hq416, h⟩
                    · refine X.icmp_ne_f (pc := 139) (off := 8) (tgt := 147) hq416 rfl (by decide +kernel) ?_
                      refine X.iconst (pc := 142) (i := 3) (v := 3) ic_3 (by decide +kernel) ?_
                      refine X.istore_2 (pc := 143) (by decide +kernel) (by decide) rfl ?_
                      refine X.goto (pc := 144) (off := 105) (tgt := 249) (by decide +kernel) rfl ?_
                      refine X.iinc_5 (pc := 249) (z := 1) (v := 1) ic_1 (by decide +kernel) (by decide) rfl ?_
                      refine X.goto (pc := 252) (off := (-223)) (tgt := 29) (by decide +kernel) rfl ?_
                      refine X.fgt (o' := [some (.ref (e_b E + v0)), some (.ref (e_b E + v1)), some (.int 3), some (.int v3), some (.int v4), some (.int (v5 + 1)), none, none]) ⟨rfl, ⟨rfl, ⟨rfl, ⟨rfl, ⟨rfl, ⟨rfl, trivial⟩⟩⟩⟩⟩⟩ ?_
                      exact ih hS h
                    · refine X.icmp_ne_t (pc := 139) (off := 8) (tgt := 147) hq416 rfl (by decide +kernel) ?_
                      refine X.iload_6 (pc := 147) (by decide +kernel) ?_
                      obtain ⟨x417, hv418, h⟩ := bnd1_some h
                      refine X.callSi (pc := 149) (nc := 0) (ns := 0) (c_Fee_isLetter hE (dle hd (Nat.le_of_ble_eq_true rfl)) hv418) cv_Fee_44 (by decide +kernel) (ddd hd (Nat.le_of_ble_eq_true rfl)) rfl (Nat.le_of_ble_eq_true rfl) rfl rfl ?_
                      rcases ifb_some h with ⟨hq419, h⟩ | ⟨hq419, h⟩
                      · refine X.if_eq_t (pc := 152) (off := 38) (tgt := 190) hq419 rfl (by decide +kernel) ?_
                        refine X.iload_7 (pc := 190) (by decide +kernel) ?_
                        rcases ifb_some h with ⟨hq420, h⟩ | ⟨hq420, h⟩
                        · refine X.if_eq_t (pc := 192) (off := 54) (tgt := 246) hq420 rfl (by decide +kernel) ?_
                          refine X.iload_5 (pc := 246) (by decide +kernel) ?_
                          have j0 := Option.some.inj h
                          obtain ⟨i0, j1⟩ := Prod.mk.inj j0
                          subst i0
                          subst j1
                          exact X.ireturn (pc := 248) (by decide +kernel) ⟨_, rfl, rfl⟩ ⟨rfl, rfl, rfl, rfl, rfl, rfl⟩
                        · refine X.if_eq_f (pc := 192) (off := 54) (tgt := 246) hq420 rfl (by decide +kernel) ?_
                          refine X.iload_2 (pc := 195) (by decide +kernel) ?_
                          rcases ifb_some h with ⟨hq421, h⟩ | ⟨hq421, h⟩
                          · refine X.if_eq_t (pc := 196) (off := 50) (tgt := 246) hq421 rfl (by decide +kernel) ?_
                            refine X.iload_5 (pc := 246) (by decide +kernel) ?_
                            have j0 := Option.some.inj h
                            obtain ⟨i0, j1⟩ := Prod.mk.inj j0
                            subst i0
                            subst j1
                            exact X.ireturn (pc := 248) (by decide +kernel) ⟨_, rfl, rfl⟩ ⟨rfl, rfl, rfl, rfl, rfl, rfl⟩
                          · refine X.if_eq_f (pc := 196) (off := 50) (tgt := 246) hq421 rfl (by decide +kernel) ?_
                            refine X.iload_2 (pc := 199) (by decide +kernel) ?_
                            refine X.iconst (pc := 200) (i := 3) (v := 3) ic_3 (by decide +kernel) ?_
                            rcases ifb_some h with ⟨hq422, h⟩ | ⟨hq422, h⟩
                            · refine X.icmp_eq_t (pc := 201) (off := 45) (tgt := 246) hq422 rfl (by decide +kernel) ?_
                              refine X.iload_5 (pc := 246) (by decide +kernel) ?_
                              have j0 := Option.some.inj h
                              obtain ⟨i0, j1⟩ := Prod.mk.inj j0
                              subst i0
                              subst j1
                              exact X.ireturn (pc := 248) (by decide +kernel) ⟨_, rfl, rfl⟩ ⟨rfl, rfl, rfl, rfl, rfl, rfl⟩
                            · refine X.icmp_eq_f (pc := 201) (off := 45) (tgt := 246) hq422 rfl (by decide +kernel) ?_
                              refine X.aload_0 (pc := 204) (by decide +kernel) ?_
                              refine X.dupr (pc := 205) (by decide +kernel) ?_
                              refine X.getI (pc := 206) (k := 0) fw_Fee_15 (by decide +kernel) (fun _ => rfl) hS ?_
                              refine X.iload_3 (pc := 209) (by decide +kernel) ?_
                              refine X.iload_4 (pc := 210) (by decide +kernel) ?_
                              refine X.imul (pc := 212) (by decide +kernel) ?_
                              refine X.iadd (pc := 213) (by decide +kernel) ?_
                              refine X.nameI (fun x423 hx423 => ?_)
                              have h := lt_at hx423 h
                              refine X.putI (pc := 214) (k := 0) fw_Fee_15 (by decide +kernel) rfl rfl hS ?_
                              refine X.nameMI (fun I424 hI424 => ?_)
                              have h := lt_at hI424 h
                              refine X.iload_6 (pc := 217) (by decide +kernel) ?_
                              refine X.iconst (pc := 219) (i := (-1)) (v := (-1)) ic_m1 (by decide +kernel) ?_
                              rcases ifb_some h with ⟨hq425, h⟩ | ⟨hq425, h⟩
                              · refine X.icmp_ne_f (pc := 220) (off := 5) (tgt := 225) hq425 rfl (by decide +kernel) ?_
                                refine X.iconst (pc := 223) (i := (-1)) (v := (-1)) ic_m1 (by decide +kernel) ?_
                                have j0 := Option.some.inj h
                                obtain ⟨i0, j1⟩ := Prod.mk.inj j0
                                subst i0
                                subst j1
                                exact X.ireturn (pc := 224) (by decide +kernel) ⟨_, rfl, rfl⟩ ⟨rfl, rfl, rfl, rfl, rfl, rfl⟩
                              · refine X.icmp_ne_t (pc := 220) (off := 5) (tgt := 225) hq425 rfl (by decide +kernel) ?_
                                refine X.iload_6 (pc := 225) (by decide +kernel) ?_
                                refine X.bipush (pc := 227) (i := 45) (v := 45) bp_45 (by decide +kernel) ?_
                                obtain ⟨y427, hr428, h⟩ := bnd1_some h
                                have hj429 : X E y_Fee_learn b_Fee_learn 8 (some .int) tg d 0 0 237 [some (.ref (e_b E + v0)), some (.ref (e_b E + v1)), none, none, none, some (.int v5), none, none] [.int y427] S I424 L R n (Kq (some (.int v)) S I' L R n) := by
                                  refine X.istore_3 (pc := 237) (by decide +kernel) (by decide) rfl ?_
                                  refine X.iconst (pc := 238) (i := 0) (v := 0) ic_0 (by decide +kernel) ?_
                                  refine X.istore_4 (pc := 239) (by decide +kernel) (by decide) rfl ?_
                                  refine X.iconst (pc := 241) (i := 0) (v := 0) ic_0 (by decide +kernel) ?_
                                  refine X.istore_2 (pc := 242) (by decide +kernel) (by decide) rfl ?_
                                  refine X.goto (pc := 243) (off := 6) (tgt := 249) (by decide +kernel) rfl ?_
                                  refine X.iinc_5 (pc := 249) (z := 1) (v := 1) ic_1 (by decide +kernel) (by decide) rfl ?_
                                  refine X.goto (pc := 252) (off := (-223)) (tgt := 29) (by decide +kernel) rfl ?_
                                  exact ih hS h
                                have h := hr428
                                rcases ifb_some h with ⟨hq426, h⟩ | ⟨hq426, h⟩
                                · refine X.icmp_ne_f (pc := 229) (off := 7) (tgt := 236) hq426 rfl (by decide +kernel) ?_
                                  refine X.iconst (pc := 232) (i := (-1)) (v := (-1)) ic_m1 (by decide +kernel) ?_
                                  refine X.goto (pc := 233) (off := 4) (tgt := 237) (by decide +kernel) rfl ?_
                                  have j0 := Option.some.inj h
                                  subst j0
                                  refine X.fgt (o' := [some (.ref (e_b E + v0)), some (.ref (e_b E + v1)), none, none, none, some (.int v5), none, none]) ⟨rfl, ⟨rfl, ⟨rfl, trivial⟩⟩⟩ ?_
                                  exact hj429
                                · refine X.icmp_ne_t (pc := 229) (off := 7) (tgt := 236) hq426 rfl (by decide +kernel) ?_
                                  refine X.iconst (pc := 236) (i := 1) (v := 1) ic_1 (by decide +kernel) ?_
                                  have j0 := Option.some.inj h
                                  subst j0
                                  refine X.fgt (o' := [some (.ref (e_b E + v0)), some (.ref (e_b E + v1)), none, none, none, some (.int v5), none, none]) ⟨rfl, ⟨rfl, ⟨rfl, trivial⟩⟩⟩ ?_
                                  exact hj429
                      · refine X.if_eq_f (pc := 152) (off := 38) (tgt := 190) hq419 rfl (by decide +kernel) ?_
                        refine X.iload_2 (pc := 155) (by decide +kernel) ?_
                        rcases ifb_some h with ⟨hq430, h⟩ | ⟨hq430, h⟩
                        · refine X.if_eq_t (pc := 156) (off := 8) (tgt := 164) hq430 rfl (by decide +kernel) ?_
                          refine X.aload_0 (pc := 164) (by decide +kernel) ?_
                          refine X.iload_6 (pc := 165) (by decide +kernel) ?_
                          refine X.iload_3 (pc := 167) (by decide +kernel) ?_
                          refine X.iload_2 (pc := 168) (by decide +kernel) ?_
                          obtain ⟨y432, hr433, h⟩ := bnd1_some h
                          have hj434 : X E y_Fee_learn b_Fee_learn 8 (some .int) tg d 0 0 178 [some (.ref (e_b E + v0)), some (.ref (e_b E + v1)), none, some (.int v3), none, some (.int v5), none, none] [.int y432, .int v3, .int x12, .ref (e_b E + v0)] S I L R n (Kq (some (.int v)) S I' L R n) := by
                            refine X.imul (pc := 178) (by decide +kernel) ?_
                            obtain ⟨I435, hv436, h⟩ := bnd1_some h
                            refine X.callVv (pc := 179) (nc := 0) (ns := 0) (c_Fee_addTo hE (dle hd (Nat.le_of_ble_eq_true rfl)) hS hv436) cv_Fee_48 (by decide +kernel) hS ⟨by decide, rfl⟩ (ddd hd (Nat.le_of_ble_eq_true rfl)) rfl (Nat.le_of_ble_eq_true rfl) rfl rfl ?_
                            refine X.iconst (pc := 182) (i := 0) (v := 0) ic_0 (by decide +kernel) ?_
                            refine X.istore_4 (pc := 183) (by decide +kernel) (by decide) rfl ?_
                            refine X.iconst (pc := 185) (i := 4) (v := 4) ic_4 (by decide +kernel) ?_
                            refine X.istore_2 (pc := 186) (by decide +kernel) (by decide) rfl ?_
                            refine X.goto (pc := 187) (off := 62) (tgt := 249) (by decide +kernel) rfl ?_
                            refine X.iinc_5 (pc := 249) (z := 1) (v := 1) ic_1 (by decide +kernel) (by decide) rfl ?_
                            refine X.goto (pc := 252) (off := (-223)) (tgt := 29) (by decide +kernel) rfl ?_
                            exact ih hS h
                          have h := hr433
                          rcases ifb_some h with ⟨hq431, h⟩ | ⟨hq431, h⟩
                          · refine X.if_ne_f (pc := 169) (off := 7) (tgt := 176) hq431 rfl (by decide +kernel) ?_
                            refine X.iconst (pc := 172) (i := 1) (v := 1) ic_1 (by decide +kernel) ?_
                            refine X.goto (pc := 173) (off := 5) (tgt := 178) (by decide +kernel) rfl ?_
                            have j0 := Option.some.inj h
                            subst j0
                            refine X.fgt (o' := [some (.ref (e_b E + v0)), some (.ref (e_b E + v1)), none, some (.int v3), none, some (.int v5), none, none]) ⟨rfl, ⟨rfl, ⟨rfl, ⟨rfl, trivial⟩⟩⟩⟩ ?_
                            exact hj434
                          · refine X.if_ne_t (pc := 169) (off := 7) (tgt := 176) hq431 rfl (by decide +kernel) ?_
                            refine X.iload_4 (pc := 176) (by decide +kernel) ?_
                            have j0 := Option.some.inj h
                            subst j0
                            refine X.fgt (o' := [some (.ref (e_b E + v0)), some (.ref (e_b E + v1)), none, some (.int v3), none, some (.int v5), none, none]) ⟨rfl, ⟨rfl, ⟨rfl, ⟨rfl, trivial⟩⟩⟩⟩ ?_
                            exact hj434
                        · refine X.if_eq_f (pc := 156) (off := 8) (tgt := 164) hq430 rfl (by decide +kernel) ?_
                          refine X.iload_2 (pc := 159) (by decide +kernel) ?_
                          refine X.iconst (pc := 160) (i := 3) (v := 3) ic_3 (by decide +kernel) ?_
                          rcases ifb_some h with ⟨hq437, h⟩ | ⟨hq437, h⟩
                          · refine X.icmp_ne_f (pc := 161) (off := 29) (tgt := 190) hq437 rfl (by decide +kernel) ?_
                            refine X.aload_0 (pc := 164) (by decide +kernel) ?_
                            refine X.iload_6 (pc := 165) (by decide +kernel) ?_
                            refine X.iload_3 (pc := 167) (by decide +kernel) ?_
                            refine X.iload_2 (pc := 168) (by decide +kernel) ?_
                            obtain ⟨y439, hr440, h⟩ := bnd1_some h
                            have hj441 : X E y_Fee_learn b_Fee_learn 8 (some .int) tg d 0 0 178 [some (.ref (e_b E + v0)), some (.ref (e_b E + v1)), none, some (.int v3), none, some (.int v5), none, none] [.int y439, .int v3, .int x12, .ref (e_b E + v0)] S I L R n (Kq (some (.int v)) S I' L R n) := by
                              refine X.imul (pc := 178) (by decide +kernel) ?_
                              obtain ⟨I442, hv443, h⟩ := bnd1_some h
                              refine X.callVv (pc := 179) (nc := 0) (ns := 0) (c_Fee_addTo hE (dle hd (Nat.le_of_ble_eq_true rfl)) hS hv443) cv_Fee_48 (by decide +kernel) hS ⟨by decide, rfl⟩ (ddd hd (Nat.le_of_ble_eq_true rfl)) rfl (Nat.le_of_ble_eq_true rfl) rfl rfl ?_
                              refine X.iconst (pc := 182) (i := 0) (v := 0) ic_0 (by decide +kernel) ?_
                              refine X.istore_4 (pc := 183) (by decide +kernel) (by decide) rfl ?_
                              refine X.iconst (pc := 185) (i := 4) (v := 4) ic_4 (by decide +kernel) ?_
                              refine X.istore_2 (pc := 186) (by decide +kernel) (by decide) rfl ?_
                              refine X.goto (pc := 187) (off := 62) (tgt := 249) (by decide +kernel) rfl ?_
                              refine X.iinc_5 (pc := 249) (z := 1) (v := 1) ic_1 (by decide +kernel) (by decide) rfl ?_
                              refine X.goto (pc := 252) (off := (-223)) (tgt := 29) (by decide +kernel) rfl ?_
                              exact ih hS h
                            have h := hr440
                            rcases ifb_some h with ⟨hq438, h⟩ | ⟨hq438, h⟩
                            · refine X.if_ne_f (pc := 169) (off := 7) (tgt := 176) hq438 rfl (by decide +kernel) ?_
                              refine X.iconst (pc := 172) (i := 1) (v := 1) ic_1 (by decide +kernel) ?_
                              refine X.goto (pc := 173) (off := 5) (tgt := 178) (by decide +kernel) rfl ?_
                              have j0 := Option.some.inj h
                              subst j0
                              refine X.fgt (o' := [some (.ref (e_b E + v0)), some (.ref (e_b E + v1)), none, some (.int v3), none, some (.int v5), none, none]) ⟨rfl, ⟨rfl, ⟨rfl, ⟨rfl, trivial⟩⟩⟩⟩ ?_
                              exact hj441
                            · refine X.if_ne_t (pc := 169) (off := 7) (tgt := 176) hq438 rfl (by decide +kernel) ?_
                              refine X.iload_4 (pc := 176) (by decide +kernel) ?_
                              have j0 := Option.some.inj h
                              subst j0
                              refine X.fgt (o' := [some (.ref (e_b E + v0)), some (.ref (e_b E + v1)), none, some (.int v3), none, some (.int v5), none, none]) ⟨rfl, ⟨rfl, ⟨rfl, ⟨rfl, trivial⟩⟩⟩⟩ ?_
                              exact hj441
                          · refine X.icmp_ne_t (pc := 161) (off := 29) (tgt := 190) hq437 rfl (by decide +kernel) ?_
                            refine X.iload_7 (pc := 190) (by decide +kernel) ?_
                            rcases ifb_some h with ⟨hq444, h⟩ | ⟨hq444, h⟩
                            · refine X.if_eq_t (pc := 192) (off := 54) (tgt := 246) hq444 rfl (by decide +kernel) ?_
                              refine X.iload_5 (pc := 246) (by decide +kernel) ?_
                              have j0 := Option.some.inj h
                              obtain ⟨i0, j1⟩ := Prod.mk.inj j0
                              subst i0
                              subst j1
                              exact X.ireturn (pc := 248) (by decide +kernel) ⟨_, rfl, rfl⟩ ⟨rfl, rfl, rfl, rfl, rfl, rfl⟩
                            · refine X.if_eq_f (pc := 192) (off := 54) (tgt := 246) hq444 rfl (by decide +kernel) ?_
                              refine X.iload_2 (pc := 195) (by decide +kernel) ?_
                              rcases ifb_some h with ⟨hq445, h⟩ | ⟨hq445, h⟩
                              · refine X.if_eq_t (pc := 196) (off := 50) (tgt := 246) hq445 rfl (by decide +kernel) ?_
                                refine X.iload_5 (pc := 246) (by decide +kernel) ?_
                                have j0 := Option.some.inj h
                                obtain ⟨i0, j1⟩ := Prod.mk.inj j0
                                subst i0
                                subst j1
                                exact X.ireturn (pc := 248) (by decide +kernel) ⟨_, rfl, rfl⟩ ⟨rfl, rfl, rfl, rfl, rfl, rfl⟩
                              · refine X.if_eq_f (pc := 196) (off := 50) (tgt := 246) hq445 rfl (by decide +kernel) ?_
                                refine X.iload_2 (pc := 199) (by decide +kernel) ?_
                                refine X.iconst (pc := 200) (i := 3) (v := 3) ic_3 (by decide +kernel) ?_
                                rcases ifb_some h with ⟨hq446, h⟩ | ⟨hq446, h⟩
                                · refine X.icmp_eq_t (pc := 201) (off := 45) (tgt := 246) hq446 rfl (by decide +kernel) ?_
                                  refine X.iload_5 (pc := 246) (by decide +kernel) ?_
                                  have j0 := Option.some.inj h
                                  obtain ⟨i0, j1⟩ := Prod.mk.inj j0
                                  subst i0
                                  subst j1
                                  exact X.ireturn (pc := 248) (by decide +kernel) ⟨_, rfl, rfl⟩ ⟨rfl, rfl, rfl, rfl, rfl, rfl⟩
                                · refine X.icmp_eq_f (pc := 201) (off := 45) (tgt := 246) hq446 rfl (by decide +kernel) ?_
                                  refine X.aload_0 (pc := 204) (by decide +kernel) ?_
                                  refine X.dupr (pc := 205) (by decide +kernel) ?_
                                  refine X.getI (pc := 206) (k := 0) fw_Fee_15 (by decide +kernel) (fun _ => rfl) hS ?_
                                  refine X.iload_3 (pc := 209) (by decide +kernel) ?_
                                  refine X.iload_4 (pc := 210) (by decide +kernel) ?_
                                  refine X.imul (pc := 212) (by decide +kernel) ?_
                                  refine X.iadd (pc := 213) (by decide +kernel) ?_
                                  refine X.nameI (fun x447 hx447 => ?_)
                                  have h := lt_at hx447 h
                                  refine X.putI (pc := 214) (k := 0) fw_Fee_15 (by decide +kernel) rfl rfl hS ?_
                                  refine X.nameMI (fun I448 hI448 => ?_)
                                  have h := lt_at hI448 h
                                  refine X.iload_6 (pc := 217) (by decide +kernel) ?_
                                  refine X.iconst (pc := 219) (i := (-1)) (v := (-1)) ic_m1 (by decide +kernel) ?_
                                  rcases ifb_some h with ⟨hq449, h⟩ | ⟨hq449, h⟩
                                  · refine X.icmp_ne_f (pc := 220) (off := 5) (tgt := 225) hq449 rfl (by decide +kernel) ?_
                                    refine X.iconst (pc := 223) (i := (-1)) (v := (-1)) ic_m1 (by decide +kernel) ?_
                                    have j0 := Option.some.inj h
                                    obtain ⟨i0, j1⟩ := Prod.mk.inj j0
                                    subst i0
                                    subst j1
                                    exact X.ireturn (pc := 224) (by decide +kernel) ⟨_, rfl, rfl⟩ ⟨rfl, rfl, rfl, rfl, rfl, rfl⟩
                                  · refine X.icmp_ne_t (pc := 220) (off := 5) (tgt := 225) hq449 rfl (by decide +kernel) ?_
                                    refine X.iload_6 (pc := 225) (by decide +kernel) ?_
                                    refine X.bipush (pc := 227) (i := 45) (v := 45) bp_45 (by decide +kernel) ?_
                                    obtain ⟨y451, hr452, h⟩ := bnd1_some h
                                    have hj453 : X E y_Fee_learn b_Fee_learn 8 (some .int) tg d 0 0 237 [some (.ref (e_b E + v0)), some (.ref (e_b E + v1)), none, none, none, some (.int v5), none, none] [.int y451] S I448 L R n (Kq (some (.int v)) S I' L R n) := by
                                      refine X.istore_3 (pc := 237) (by decide +kernel) (by decide) rfl ?_
                                      refine X.iconst (pc := 238) (i := 0) (v := 0) ic_0 (by decide +kernel) ?_
                                      refine X.istore_4 (pc := 239) (by decide +kernel) (by decide) rfl ?_
                                      refine X.iconst (pc := 241) (i := 0) (v := 0) ic_0 (by decide +kernel) ?_
                                      refine X.istore_2 (pc := 242) (by decide +kernel) (by decide) rfl ?_
                                      refine X.goto (pc := 243) (off := 6) (tgt := 249) (by decide +kernel) rfl ?_
                                      refine X.iinc_5 (pc := 249) (z := 1) (v := 1) ic_1 (by decide +kernel) (by decide) rfl ?_
                                      refine X.goto (pc := 252) (off := (-223)) (tgt := 29) (by decide +kernel) rfl ?_
                                      exact ih hS h
                                    have h := hr452
                                    rcases ifb_some h with ⟨hq450, h⟩ | ⟨hq450, h⟩
                                    · refine X.icmp_ne_f (pc := 229) (off := 7) (tgt := 236) hq450 rfl (by decide +kernel) ?_
                                      refine X.iconst (pc := 232) (i := (-1)) (v := (-1)) ic_m1 (by decide +kernel) ?_
                                      refine X.goto (pc := 233) (off := 4) (tgt := 237) (by decide +kernel) rfl ?_
                                      have j0 := Option.some.inj h
                                      subst j0
                                      refine X.fgt (o' := [some (.ref (e_b E + v0)), some (.ref (e_b E + v1)), none, none, none, some (.int v5), none, none]) ⟨rfl, ⟨rfl, ⟨rfl, trivial⟩⟩⟩ ?_
                                      exact hj453
                                    · refine X.icmp_ne_t (pc := 229) (off := 7) (tgt := 236) hq450 rfl (by decide +kernel) ?_
                                      refine X.iconst (pc := 236) (i := 1) (v := 1) ic_1 (by decide +kernel) ?_
                                      have j0 := Option.some.inj h
                                      subst j0
                                      refine X.fgt (o' := [some (.ref (e_b E + v0)), some (.ref (e_b E + v1)), none, none, none, some (.int v5), none, none]) ⟨rfl, ⟨rfl, ⟨rfl, trivial⟩⟩⟩ ?_
                                      exact hj453
                · refine X.icmp_ne_t (pc := 129) (off := 18) (tgt := 147) hq414 rfl (by decide +kernel) ?_
                  refine X.iload_6 (pc := 147) (by decide +kernel) ?_
                  obtain ⟨x454, hv455, h⟩ := bnd1_some h
                  refine X.callSi (pc := 149) (nc := 0) (ns := 0) (c_Fee_isLetter hE (dle hd (Nat.le_of_ble_eq_true rfl)) hv455) cv_Fee_44 (by decide +kernel) (ddd hd (Nat.le_of_ble_eq_true rfl)) rfl (Nat.le_of_ble_eq_true rfl) rfl rfl ?_
                  rcases ifb_some h with ⟨hq456, h⟩ | ⟨hq456, h⟩
                  · refine X.if_eq_t (pc := 152) (off := 38) (tgt := 190) hq456 rfl (by decide +kernel) ?_
                    refine X.iload_7 (pc := 190) (by decide +kernel) ?_
                    rcases ifb_some h with ⟨hq457, h⟩ | ⟨hq457, h⟩
                    · refine X.if_eq_t (pc := 192) (off := 54) (tgt := 246) hq457 rfl (by decide +kernel) ?_
                      refine X.iload_5 (pc := 246) (by decide +kernel) ?_
                      have j0 := Option.some.inj h
                      obtain ⟨i0, j1⟩ := Prod.mk.inj j0
                      subst i0
                      subst j1
                      exact X.ireturn (pc := 248) (by decide +kernel) ⟨_, rfl, rfl⟩ ⟨rfl, rfl, rfl, rfl, rfl, rfl⟩
                    · refine X.if_eq_f (pc := 192) (off := 54) (tgt := 246) hq457 rfl (by decide +kernel) ?_
                      refine X.iload_2 (pc := 195) (by decide +kernel) ?_
                      rcases ifb_some h with ⟨hq458, h⟩ | ⟨hq458, h⟩
                      · refine X.if_eq_t (pc := 196) (off := 50) (tgt := 246) hq458 rfl (by decide +kernel) ?_
                        refine X.iload_5 (pc := 246) (by decide +kernel) ?_
                        have j0 := Option.some.inj h
                        obtain ⟨i0, j1⟩ := Prod.mk.inj j0
                        subst i0
                        subst j1
                        exact X.ireturn (pc := 248) (by decide +kernel) ⟨_, rfl, rfl⟩ ⟨rfl, rfl, rfl, rfl, rfl, rfl⟩
                      · refine X.if_eq_f (pc := 196) (off := 50) (tgt := 246) hq458 rfl (by decide +kernel) ?_
                        refine X.iload_2 (pc := 199) (by decide +kernel) ?_
                        refine X.iconst (pc := 200) (i := 3) (v := 3) ic_3 (by decide +kernel) ?_
                        rcases ifb_some h with ⟨hq459, h⟩ | ⟨hq459, h⟩
                        · refine X.icmp_eq_t (pc := 201) (off := 45) (tgt := 246) hq459 rfl (by decide +kernel) ?_
                          refine X.iload_5 (pc := 246) (by decide +kernel) ?_
                          have j0 := Option.some.inj h
                          obtain ⟨i0, j1⟩ := Prod.mk.inj j0
                          subst i0
                          subst j1
                          exact X.ireturn (pc := 248) (by decide +kernel) ⟨_, rfl, rfl⟩ ⟨rfl, rfl, rfl, rfl, rfl, rfl⟩
                        · refine X.icmp_eq_f (pc := 201) (off := 45) (tgt := 246) hq459 rfl (by decide +kernel) ?_
                          refine X.aload_0 (pc := 204) (by decide +kernel) ?_
                          refine X.dupr (pc := 205) (by decide +kernel) ?_
                          refine X.getI (pc := 206) (k := 0) fw_Fee_15 (by decide +kernel) (fun _ => rfl) hS ?_
                          refine X.iload_3 (pc := 209) (by decide +kernel) ?_
                          refine X.iload_4 (pc := 210) (by decide +kernel) ?_
                          refine X.imul (pc := 212) (by decide +kernel) ?_
                          refine X.iadd (pc := 213) (by decide +kernel) ?_
                          refine X.nameI (fun x460 hx460 => ?_)
                          have h := lt_at hx460 h
                          refine X.putI (pc := 214) (k := 0) fw_Fee_15 (by decide +kernel) rfl rfl hS ?_
                          refine X.nameMI (fun I461 hI461 => ?_)
                          have h := lt_at hI461 h
                          refine X.iload_6 (pc := 217) (by decide +kernel) ?_
                          refine X.iconst (pc := 219) (i := (-1)) (v := (-1)) ic_m1 (by decide +kernel) ?_
                          rcases ifb_some h with ⟨hq462, h⟩ | ⟨hq462, h⟩
                          · refine X.icmp_ne_f (pc := 220) (off := 5) (tgt := 225) hq462 rfl (by decide +kernel) ?_
                            refine X.iconst (pc := 223) (i := (-1)) (v := (-1)) ic_m1 (by decide +kernel) ?_
                            have j0 := Option.some.inj h
                            obtain ⟨i0, j1⟩ := Prod.mk.inj j0
                            subst i0
                            subst j1
                            exact X.ireturn (pc := 224) (by decide +kernel) ⟨_, rfl, rfl⟩ ⟨rfl, rfl, rfl, rfl, rfl, rfl⟩
                          · refine X.icmp_ne_t (pc := 220) (off := 5) (tgt := 225) hq462 rfl (by decide +kernel) ?_
                            refine X.iload_6 (pc := 225) (by decide +kernel) ?_
                            refine X.bipush (pc := 227) (i := 45) (v := 45) bp_45 (by decide +kernel) ?_
                            obtain ⟨y464, hr465, h⟩ := bnd1_some h
                            have hj466 : X E y_Fee_learn b_Fee_learn 8 (some .int) tg d 0 0 237 [some (.ref (e_b E + v0)), some (.ref (e_b E + v1)), none, none, none, some (.int v5), none, none] [.int y464] S I461 L R n (Kq (some (.int v)) S I' L R n) := by
                              refine X.istore_3 (pc := 237) (by decide +kernel) (by decide) rfl ?_
                              refine X.iconst (pc := 238) (i := 0) (v := 0) ic_0 (by decide +kernel) ?_
                              refine X.istore_4 (pc := 239) (by decide +kernel) (by decide) rfl ?_
                              refine X.iconst (pc := 241) (i := 0) (v := 0) ic_0 (by decide +kernel) ?_
                              refine X.istore_2 (pc := 242) (by decide +kernel) (by decide) rfl ?_
                              refine X.goto (pc := 243) (off := 6) (tgt := 249) (by decide +kernel) rfl ?_
                              refine X.iinc_5 (pc := 249) (z := 1) (v := 1) ic_1 (by decide +kernel) (by decide) rfl ?_
                              refine X.goto (pc := 252) (off := (-223)) (tgt := 29) (by decide +kernel) rfl ?_
                              exact ih hS h
                            have h := hr465
                            rcases ifb_some h with ⟨hq463, h⟩ | ⟨hq463, h⟩
                            · refine X.icmp_ne_f (pc := 229) (off := 7) (tgt := 236) hq463 rfl (by decide +kernel) ?_
                              refine X.iconst (pc := 232) (i := (-1)) (v := (-1)) ic_m1 (by decide +kernel) ?_
                              refine X.goto (pc := 233) (off := 4) (tgt := 237) (by decide +kernel) rfl ?_
                              have j0 := Option.some.inj h
                              subst j0
                              refine X.fgt (o' := [some (.ref (e_b E + v0)), some (.ref (e_b E + v1)), none, none, none, some (.int v5), none, none]) ⟨rfl, ⟨rfl, ⟨rfl, trivial⟩⟩⟩ ?_
                              exact hj466
                            · refine X.icmp_ne_t (pc := 229) (off := 7) (tgt := 236) hq463 rfl (by decide +kernel) ?_
                              refine X.iconst (pc := 236) (i := 1) (v := 1) ic_1 (by decide +kernel) ?_
                              have j0 := Option.some.inj h
                              subst j0
                              refine X.fgt (o' := [some (.ref (e_b E + v0)), some (.ref (e_b E + v1)), none, none, none, some (.int v5), none, none]) ⟨rfl, ⟨rfl, ⟨rfl, trivial⟩⟩⟩ ?_
                              exact hj466
                  · refine X.if_eq_f (pc := 152) (off := 38) (tgt := 190) hq456 rfl (by decide +kernel) ?_
                    refine X.iload_2 (pc := 155) (by decide +kernel) ?_
                    rcases ifb_some h with ⟨hq467, h⟩ | ⟨hq467, h⟩
                    · refine X.if_eq_t (pc := 156) (off := 8) (tgt := 164) hq467 rfl (by decide +kernel) ?_
                      refine X.aload_0 (pc := 164) (by decide +kernel) ?_
                      refine X.iload_6 (pc := 165) (by decide +kernel) ?_
                      refine X.iload_3 (pc := 167) (by decide +kernel) ?_
                      refine X.iload_2 (pc := 168) (by decide +kernel) ?_
                      obtain ⟨y469, hr470, h⟩ := bnd1_some h
                      have hj471 : X E y_Fee_learn b_Fee_learn 8 (some .int) tg d 0 0 178 [some (.ref (e_b E + v0)), some (.ref (e_b E + v1)), none, some (.int v3), none, some (.int v5), none, none] [.int y469, .int v3, .int x12, .ref (e_b E + v0)] S I L R n (Kq (some (.int v)) S I' L R n) := by
                        refine X.imul (pc := 178) (by decide +kernel) ?_
                        obtain ⟨I472, hv473, h⟩ := bnd1_some h
                        refine X.callVv (pc := 179) (nc := 0) (ns := 0) (c_Fee_addTo hE (dle hd (Nat.le_of_ble_eq_true rfl)) hS hv473) cv_Fee_48 (by decide +kernel) hS ⟨by decide, rfl⟩ (ddd hd (Nat.le_of_ble_eq_true rfl)) rfl (Nat.le_of_ble_eq_true rfl) rfl rfl ?_
                        refine X.iconst (pc := 182) (i := 0) (v := 0) ic_0 (by decide +kernel) ?_
                        refine X.istore_4 (pc := 183) (by decide +kernel) (by decide) rfl ?_
                        refine X.iconst (pc := 185) (i := 4) (v := 4) ic_4 (by decide +kernel) ?_
                        refine X.istore_2 (pc := 186) (by decide +kernel) (by decide) rfl ?_
                        refine X.goto (pc := 187) (off := 62) (tgt := 249) (by decide +kernel) rfl ?_
                        refine X.iinc_5 (pc := 249) (z := 1) (v := 1) ic_1 (by decide +kernel) (by decide) rfl ?_
                        refine X.goto (pc := 252) (off := (-223)) (tgt := 29) (by decide +kernel) rfl ?_
                        exact ih hS h
                      have h := hr470
                      rcases ifb_some h with ⟨hq468, h⟩ | ⟨hq468, h⟩
                      · refine X.if_ne_f (pc := 169) (off := 7) (tgt := 176) hq468 rfl (by decide +kernel) ?_
                        refine X.iconst (pc := 172) (i := 1) (v := 1) ic_1 (by decide +kernel) ?_
                        refine X.goto (pc := 173) (off := 5) (tgt := 178) (by decide +kernel) rfl ?_
                        have j0 := Option.some.inj h
                        subst j0
                        refine X.fgt (o' := [some (.ref (e_b E + v0)), some (.ref (e_b E + v1)), none, some (.int v3), none, some (.int v5), none, none]) ⟨rfl, ⟨rfl, ⟨rfl, ⟨rfl, trivial⟩⟩⟩⟩ ?_
                        exact hj471
                      · refine X.if_ne_t (pc := 169) (off := 7) (tgt := 176) hq468 rfl (by decide +kernel) ?_
                        refine X.iload_4 (pc := 176) (by decide +kernel) ?_
                        have j0 := Option.some.inj h
                        subst j0
                        refine X.fgt (o' := [some (.ref (e_b E + v0)), some (.ref (e_b E + v1)), none, some (.int v3), none, some (.int v5), none, none]) ⟨rfl, ⟨rfl, ⟨rfl, ⟨rfl, trivial⟩⟩⟩⟩ ?_
                        exact hj471
                    · refine X.if_eq_f (pc := 156) (off := 8) (tgt := 164) hq467 rfl (by decide +kernel) ?_
                      refine X.iload_2 (pc := 159) (by decide +kernel) ?_
                      refine X.iconst (pc := 160) (i := 3) (v := 3) ic_3 (by decide +kernel) ?_
                      rcases ifb_some h with ⟨hq474, h⟩ | ⟨hq474, h⟩
                      · refine X.icmp_ne_f (pc := 161) (off := 29) (tgt := 190) hq474 rfl (by decide +kernel) ?_
                        refine X.aload_0 (pc := 164) (by decide +kernel) ?_
                        refine X.iload_6 (pc := 165) (by decide +kernel) ?_
                        refine X.iload_3 (pc := 167) (by decide +kernel) ?_
                        refine X.iload_2 (pc := 168) (by decide +kernel) ?_
                        obtain ⟨y476, hr477, h⟩ := bnd1_some h
                        have hj478 : X E y_Fee_learn b_Fee_learn 8 (some .int) tg d 0 0 178 [some (.ref (e_b E + v0)), some (.ref (e_b E + v1)), none, some (.int v3), none, some (.int v5), none, none] [.int y476, .int v3, .int x12, .ref (e_b E + v0)] S I L R n (Kq (some (.int v)) S I' L R n) := by
                          refine X.imul (pc := 178) (by decide +kernel) ?_
                          obtain ⟨I479, hv480, h⟩ := bnd1_some h
                          refine X.callVv (pc := 179) (nc := 0) (ns := 0) (c_Fee_addTo hE (dle hd (Nat.le_of_ble_eq_true rfl)) hS hv480) cv_Fee_48 (by decide +kernel) hS ⟨by decide, rfl⟩ (ddd hd (Nat.le_of_ble_eq_true rfl)) rfl (Nat.le_of_ble_eq_true rfl) rfl rfl ?_
                          refine X.iconst (pc := 182) (i := 0) (v := 0) ic_0 (by decide +kernel) ?_
                          refine X.istore_4 (pc := 183) (by decide +kernel) (by decide) rfl ?_
                          refine X.iconst (pc := 185) (i := 4) (v := 4) ic_4 (by decide +kernel) ?_
                          refine X.istore_2 (pc := 186) (by decide +kernel) (by decide) rfl ?_
                          refine X.goto (pc := 187) (off := 62) (tgt := 249) (by decide +kernel) rfl ?_
                          refine X.iinc_5 (pc := 249) (z := 1) (v := 1) ic_1 (by decide +kernel) (by decide) rfl ?_
                          refine X.goto (pc := 252) (off := (-223)) (tgt := 29) (by decide +kernel) rfl ?_
                          exact ih hS h
                        have h := hr477
                        rcases ifb_some h with ⟨hq475, h⟩ | ⟨hq475, h⟩
                        · refine X.if_ne_f (pc := 169) (off := 7) (tgt := 176) hq475 rfl (by decide +kernel) ?_
                          refine X.iconst (pc := 172) (i := 1) (v := 1) ic_1 (by decide +kernel) ?_
                          refine X.goto (pc := 173) (off := 5) (tgt := 178) (by decide +kernel) rfl ?_
                          have j0 := Option.some.inj h
                          subst j0
                          refine X.fgt (o' := [some (.ref (e_b E + v0)), some (.ref (e_b E + v1)), none, some (.int v3), none, some (.int v5), none, none]) ⟨rfl, ⟨rfl, ⟨rfl, ⟨rfl, trivial⟩⟩⟩⟩ ?_
                          exact hj478
                        · refine X.if_ne_t (pc := 169) (off := 7) (tgt := 176) hq475 rfl (by decide +kernel) ?_
                          refine X.iload_4 (pc := 176) (by decide +kernel) ?_
                          have j0 := Option.some.inj h
                          subst j0
                          refine X.fgt (o' := [some (.ref (e_b E + v0)), some (.ref (e_b E + v1)), none, some (.int v3), none, some (.int v5), none, none]) ⟨rfl, ⟨rfl, ⟨rfl, ⟨rfl, trivial⟩⟩⟩⟩ ?_
                          exact hj478
                      · refine X.icmp_ne_t (pc := 161) (off := 29) (tgt := 190) hq474 rfl (by decide +kernel) ?_
                        refine X.iload_7 (pc := 190) (by decide +kernel) ?_
                        rcases ifb_some h with ⟨hq481, h⟩ | ⟨hq481, h⟩
                        · refine X.if_eq_t (pc := 192) (off := 54) (tgt := 246) hq481 rfl (by decide +kernel) ?_
                          refine X.iload_5 (pc := 246) (by decide +kernel) ?_
                          have j0 := Option.some.inj h
                          obtain ⟨i0, j1⟩ := Prod.mk.inj j0
                          subst i0
                          subst j1
                          exact X.ireturn (pc := 248) (by decide +kernel) ⟨_, rfl, rfl⟩ ⟨rfl, rfl, rfl, rfl, rfl, rfl⟩
                        · refine X.if_eq_f (pc := 192) (off := 54) (tgt := 246) hq481 rfl (by decide +kernel) ?_
                          refine X.iload_2 (pc := 195) (by decide +kernel) ?_
                          rcases ifb_some h with ⟨hq482, h⟩ | ⟨hq482, h⟩
                          · refine X.if_eq_t (pc := 196) (off := 50) (tgt := 246) hq482 rfl (by decide +kernel) ?_
                            refine X.iload_5 (pc := 246) (by decide +kernel) ?_
                            have j0 := Option.some.inj h
                            obtain ⟨i0, j1⟩ := Prod.mk.inj j0
                            subst i0
                            subst j1
                            exact X.ireturn (pc := 248) (by decide +kernel) ⟨_, rfl, rfl⟩ ⟨rfl, rfl, rfl, rfl, rfl, rfl⟩
                          · refine X.if_eq_f (pc := 196) (off := 50) (tgt := 246) hq482 rfl (by decide +kernel) ?_
                            refine X.iload_2 (pc := 199) (by decide +kernel) ?_
                            refine X.iconst (pc := 200) (i := 3) (v := 3) ic_3 (by decide +kernel) ?_
                            rcases ifb_some h with ⟨hq483, h⟩ | ⟨hq483, h⟩
                            · refine X.icmp_eq_t (pc := 201) (off := 45) (tgt := 246) hq483 rfl (by decide +kernel) ?_
                              refine X.iload_5 (pc := 246) (by decide +kernel) ?_
                              have j0 := Option.some.inj h
                              obtain ⟨i0, j1⟩ := Prod.mk.inj j0
                              subst i0
                              subst j1
                              exact X.ireturn (pc := 248) (by decide +kernel) ⟨_, rfl, rfl⟩ ⟨rfl, rfl, rfl, rfl, rfl, rfl⟩
                            · refine X.icmp_eq_f (pc := 201) (off := 45) (tgt := 246) hq483 rfl (by decide +kernel) ?_
                              refine X.aload_0 (pc := 204) (by decide +kernel) ?_
                              refine X.dupr (pc := 205) (by decide +kernel) ?_
                              refine X.getI (pc := 206) (k := 0) fw_Fee_15 (by decide +kernel) (fun _ => rfl) hS ?_
                              refine X.iload_3 (pc := 209) (by decide +kernel) ?_
                              refine X.iload_4 (pc := 210) (by decide +kernel) ?_
                              refine X.imul (pc := 212) (by decide +kernel) ?_
                              refine X.iadd (pc := 213) (by decide +kernel) ?_
                              refine X.nameI (fun x484 hx484 => ?_)
                              have h := lt_at hx484 h
                              refine X.putI (pc := 214) (k := 0) fw_Fee_15 (by decide +kernel) rfl rfl hS ?_
                              refine X.nameMI (fun I485 hI485 => ?_)
                              have h := lt_at hI485 h
                              refine X.iload_6 (pc := 217) (by decide +kernel) ?_
                              refine X.iconst (pc := 219) (i := (-1)) (v := (-1)) ic_m1 (by decide +kernel) ?_
                              rcases ifb_some h with ⟨hq486, h⟩ | ⟨hq486, h⟩
                              · refine X.icmp_ne_f (pc := 220) (off := 5) (tgt := 225) hq486 rfl (by decide +kernel) ?_
                                refine X.iconst (pc := 223) (i := (-1)) (v := (-1)) ic_m1 (by decide +kernel) ?_
                                have j0 := Option.some.inj h
                                obtain ⟨i0, j1⟩ := Prod.mk.inj j0
                                subst i0
                                subst j1
                                exact X.ireturn (pc := 224) (by decide +kernel) ⟨_, rfl, rfl⟩ ⟨rfl, rfl, rfl, rfl, rfl, rfl⟩
                              · refine X.icmp_ne_t (pc := 220) (off := 5) (tgt := 225) hq486 rfl (by decide +kernel) ?_
                                refine X.iload_6 (pc := 225) (by decide +kernel) ?_
                                refine X.bipush (pc := 227) (i := 45) (v := 45) bp_45 (by decide +kernel) ?_
                                obtain ⟨y488, hr489, h⟩ := bnd1_some h
                                have hj490 : X E y_Fee_learn b_Fee_learn 8 (some .int) tg d 0 0 237 [some (.ref (e_b E + v0)), some (.ref (e_b E + v1)), none, none, none, some (.int v5), none, none] [.int y488] S I485 L R n (Kq (some (.int v)) S I' L R n) := by
                                  refine X.istore_3 (pc := 237) (by decide +kernel) (by decide) rfl ?_
                                  refine X.iconst (pc := 238) (i := 0) (v := 0) ic_0 (by decide +kernel) ?_
                                  refine X.istore_4 (pc := 239) (by decide +kernel) (by decide) rfl ?_
                                  refine X.iconst (pc := 241) (i := 0) (v := 0) ic_0 (by decide +kernel) ?_
                                  refine X.istore_2 (pc := 242) (by decide +kernel) (by decide) rfl ?_
                                  refine X.goto (pc := 243) (off := 6) (tgt := 249) (by decide +kernel) rfl ?_
                                  refine X.iinc_5 (pc := 249) (z := 1) (v := 1) ic_1 (by decide +kernel) (by decide) rfl ?_
                                  refine X.goto (pc := 252) (off := (-223)) (tgt := 29) (by decide +kernel) rfl ?_
                                  exact ih hS h
                                have h := hr489
                                rcases ifb_some h with ⟨hq487, h⟩ | ⟨hq487, h⟩
                                · refine X.icmp_ne_f (pc := 229) (off := 7) (tgt := 236) hq487 rfl (by decide +kernel) ?_
                                  refine X.iconst (pc := 232) (i := (-1)) (v := (-1)) ic_m1 (by decide +kernel) ?_
                                  refine X.goto (pc := 233) (off := 4) (tgt := 237) (by decide +kernel) rfl ?_
                                  have j0 := Option.some.inj h
                                  subst j0
                                  refine X.fgt (o' := [some (.ref (e_b E + v0)), some (.ref (e_b E + v1)), none, none, none, some (.int v5), none, none]) ⟨rfl, ⟨rfl, ⟨rfl, trivial⟩⟩⟩ ?_
                                  exact hj490
                                · refine X.icmp_ne_t (pc := 229) (off := 7) (tgt := 236) hq487 rfl (by decide +kernel) ?_
                                  refine X.iconst (pc := 236) (i := 1) (v := 1) ic_1 (by decide +kernel) ?_
                                  have j0 := Option.some.inj h
                                  subst j0
                                  refine X.fgt (o' := [some (.ref (e_b E + v0)), some (.ref (e_b E + v1)), none, none, none, some (.int v5), none, none]) ⟨rfl, ⟨rfl, ⟨rfl, trivial⟩⟩⟩ ?_
                                  exact hj490
              · refine X.icmp_gt_f (pc := 103) (off := 22) (tgt := 125) hq413 rfl (by decide +kernel) ?_
                refine X.iload_4 (pc := 106) (by decide +kernel) ?_
                refine X.bipush (pc := 108) (i := 10) (v := 10) bp_10 (by decide +kernel) ?_
                refine X.imul (pc := 110) (by decide +kernel) ?_
                refine X.iload_6 (pc := 111) (by decide +kernel) ?_
                refine X.iadd (pc := 113) (by decide +kernel) ?_
                refine X.bipush (pc := 114) (i := 48) (v := 48) bp_48 (by decide +kernel) ?_
                refine X.isub (pc := 116) (by decide +kernel) ?_
                refine X.nameI (fun x491 hx491 => ?_)
                have h := lt_at hx491 h
                refine X.istore_4 (pc := 117) (by decide +kernel) (by decide) rfl ?_
                refine X.iinc_2 (pc := 119) (z := 1) (v := 1) ic_1 (by decide +kernel) (by decide) rfl ?_
                refine X.goto (pc := 122) (off := 127) (tgt := 249) (by decide +kernel) rfl ?_
                refine X.iinc_5 (pc := 249) (z := 1) (v := 1) ic_1 (by decide +kernel) (by decide) rfl ?_
                refine X.goto (pc := 252) (off := (-223)) (tgt := 29) (by decide +kernel) rfl ?_
                refine X.fgt (o' := [some (.ref (e_b E + v0)), some (.ref (e_b E + v1)), some (.int (v2 + 1)), some (.int v3), some (.int x491), some (.int (v5 + 1)), none, none]) ⟨rfl, ⟨rfl, ⟨rfl, ⟨rfl, ⟨rfl, ⟨rfl, trivial⟩⟩⟩⟩⟩⟩ ?_
                exact ih hS h
      have h := hr16
      rcases ifb_some h with ⟨hq14, h⟩ | ⟨hq14, h⟩
      · refine X.icmp_eq_t (pc := 47) (off := 17) (tgt := 64) hq14 rfl (by decide +kernel) ?_
        refine X.iconst (pc := 64) (i := 1) (v := 1) ic_1 (by decide +kernel) ?_
        refine X.goto (pc := 65) (off := 4) (tgt := 69) (by decide +kernel) rfl ?_
        have j0 := Option.some.inj h
        subst j0
        exact hj17
      · refine X.icmp_eq_f (pc := 47) (off := 17) (tgt := 64) hq14 rfl (by decide +kernel) ?_
        refine X.iload_6 (pc := 50) (by decide +kernel) ?_
        refine X.bipush (pc := 52) (i := 43) (v := 43) bp_43 (by decide +kernel) ?_
        rcases ifb_some h with ⟨hq18, h⟩ | ⟨hq18, h⟩
        · refine X.icmp_eq_t (pc := 54) (off := 10) (tgt := 64) hq18 rfl (by decide +kernel) ?_
          refine X.iconst (pc := 64) (i := 1) (v := 1) ic_1 (by decide +kernel) ?_
          refine X.goto (pc := 65) (off := 4) (tgt := 69) (by decide +kernel) rfl ?_
          have j0 := Option.some.inj h
          subst j0
          exact hj17
        · refine X.icmp_eq_f (pc := 54) (off := 10) (tgt := 64) hq18 rfl (by decide +kernel) ?_
          refine X.iload_6 (pc := 57) (by decide +kernel) ?_
          refine X.bipush (pc := 59) (i := 45) (v := 45) bp_45 (by decide +kernel) ?_
          rcases ifb_some h with ⟨hq19, h⟩ | ⟨hq19, h⟩
          · refine X.icmp_ne_f (pc := 61) (off := 7) (tgt := 68) hq19 rfl (by decide +kernel) ?_
            refine X.iconst (pc := 64) (i := 1) (v := 1) ic_1 (by decide +kernel) ?_
            refine X.goto (pc := 65) (off := 4) (tgt := 69) (by decide +kernel) rfl ?_
            have j0 := Option.some.inj h
            subst j0
            exact hj17
          · refine X.icmp_ne_t (pc := 61) (off := 7) (tgt := 68) hq19 rfl (by decide +kernel) ?_
            refine X.iconst (pc := 68) (i := 0) (v := 0) ic_0 (by decide +kernel) ?_
            have j0 := Option.some.inj h
            subst j0
            exact hj17
set_option maxRecDepth 100000 in
noncomputable def f_Fee_learn (g : Nat) (S : MS) (R : MR) (I : MI) (t : Nat) (p1 : Nat) : Option (Int32 × MI) :=
  bnd1 (f_Fee_want S I t 0 0 0 0) fun I1 =>
  asrt ((S p1).1 = 8) <|
  bnd1 (f_Signs_length S I1 p1) fun x4 =>
  bnd1 (ifb (x4 = 0)
      (some 4)
      (some 0)) fun (y7 : Int32) =>
  l_Fee_learn_29 S R t p1 g I1 y7 1 0 0
set_option maxRecDepth 100000 in
set_option maxHeartbeats 4000000 in
theorem c_Fee_learn {E : Env} (hE : OKE E) {tg : Bool} {d : Nat} (hd : 1 ≤ d) {g : Nat} {S : MS} {I : MI} {L : ML} {R : MR} {n : Nat} {t : Nat} {p1 : Nat} {v : Int32} {I' : MI} (hS : (S t).1 = 0) (h : f_Fee_learn g S R I t p1 = some (v, I')) : C E y_Fee_learn b_Fee_learn 8 (some .int) tg d 0 0 [.ref (e_b E + t), .ref (e_b E + p1)] S I L R n (Kq (some (.int v)) S I' L R n) := by
  refine C.of (o := [some (.ref (e_b E + t)), some (.ref (e_b E + p1)), none, none, none, none, none, none]) (by decide) rfl (Nat.le_of_ble_eq_true rfl) ?_
  rw [f_Fee_learn] at h
  refine X.aload_0 (pc := 0) (by decide +kernel) ?_
  refine X.iconst (pc := 1) (i := 0) (v := 0) ic_0 (by decide +kernel) ?_
  refine X.iconst (pc := 2) (i := 0) (v := 0) ic_0 (by decide +kernel) ?_
  refine X.iconst (pc := 3) (i := 0) (v := 0) ic_0 (by decide +kernel) ?_
  refine X.iconst (pc := 4) (i := 0) (v := 0) ic_0 (by decide +kernel) ?_
  obtain ⟨I1, hv2, h⟩ := bnd1_some h
  refine X.callVv (pc := 5) (nc := 0) (ns := 0) (c_Fee_want hE (dle hd (Nat.le_of_ble_eq_true rfl)) hS hv2) cv_Fee_30 (by decide +kernel) hS ⟨by decide, rfl⟩ (ddd hd (Nat.le_of_ble_eq_true rfl)) rfl (Nat.le_of_ble_eq_true rfl) rfl rfl ?_
  refine X.aload_1 (pc := 8) (by decide +kernel) ?_
  obtain ⟨hc3, h⟩ := asrt_some h
  obtain ⟨x4, hv5, h⟩ := bnd1_some h
  refine X.callVi (pc := 9) (nc := 0) (ns := 0) (c_Signs_length hE (dle hd (Nat.le_of_ble_eq_true rfl)) hc3 hv5) cv_Fee_34 (by decide +kernel) hc3 ⟨by decide, rfl⟩ (ddd hd (Nat.le_of_ble_eq_true rfl)) rfl (Nat.le_of_ble_eq_true rfl) rfl rfl ?_
  obtain ⟨y7, hr8, h⟩ := bnd1_some h
  have hj9 : X E y_Fee_learn b_Fee_learn 8 (some .int) tg d 0 0 20 [some (.ref (e_b E + t)), some (.ref (e_b E + p1)), none, none, none, none, none, none] [.int y7] S I1 L R n (Kq (some (.int v)) S I' L R n) := by
    refine X.istore_2 (pc := 20) (by decide +kernel) (by decide) rfl ?_
    refine X.iconst (pc := 21) (i := 1) (v := 1) ic_1 (by decide +kernel) ?_
    refine X.istore_3 (pc := 22) (by decide +kernel) (by decide) rfl ?_
    refine X.iconst (pc := 23) (i := 0) (v := 0) ic_0 (by decide +kernel) ?_
    refine X.istore_4 (pc := 24) (by decide +kernel) (by decide) rfl ?_
    refine X.iconst (pc := 26) (i := 0) (v := 0) ic_0 (by decide +kernel) ?_
    refine X.istore_5 (pc := 27) (by decide +kernel) (by decide) rfl ?_
    exact xl_Fee_learn_29 hE hd hS h
  have h := hr8
  rcases ifb_some h with ⟨hq6, h⟩ | ⟨hq6, h⟩
  · refine X.if_ne_f (pc := 12) (off := 7) (tgt := 19) hq6 rfl (by decide +kernel) ?_
    refine X.iconst (pc := 15) (i := 4) (v := 4) ic_4 (by decide +kernel) ?_
    refine X.goto (pc := 16) (off := 4) (tgt := 20) (by decide +kernel) rfl ?_
    have j0 := Option.some.inj h
    subst j0
    exact hj9
  · refine X.if_ne_t (pc := 12) (off := 7) (tgt := 19) hq6 rfl (by decide +kernel) ?_
    refine X.iconst (pc := 19) (i := 0) (v := 0) ic_0 (by decide +kernel) ?_
    have j0 := Option.some.inj h
    subst j0
    exact hj9
set_option maxRecDepth 100000 in
noncomputable def f_Fee_takeFrom (S : MS) (I : MI) (t : Nat) (p1 : Nat) : Option MI :=
  asrt ((S p1).1 = 0) <|
  lt (I p1 0) fun (x2 : Int32) =>
  lt (wI I t 0 x2) fun (I3 : MI) =>
  lt (I3 p1 1) fun (x4 : Int32) =>
  lt (wI I3 t 1 x4) fun (I5 : MI) =>
  lt (I5 p1 2) fun (x6 : Int32) =>
  lt (wI I5 t 2 x6) fun (I7 : MI) =>
  lt (I7 p1 3) fun (x8 : Int32) =>
  lt (wI I7 t 3 x8) fun (I9 : MI) =>
  lt (I9 p1 4) fun (x10 : Int32) =>
  lt (wI I9 t 4 x10) fun (I11 : MI) =>
  lt (I11 p1 5) fun (x12 : Int32) =>
  lt (wI I11 t 5 x12) fun (I13 : MI) =>
  some I13
set_option maxRecDepth 100000 in
set_option maxHeartbeats 4000000 in
theorem c_Fee_takeFrom {E : Env} (hE : OKE E) {tg : Bool} {d : Nat} (hd : 0 ≤ d) {S : MS} {I : MI} {L : ML} {R : MR} {n : Nat} {t : Nat} {p1 : Nat} {I' : MI} (hS : (S t).1 = 0) (h : f_Fee_takeFrom S I t p1 = some I') : C E y_Fee_takeFrom b_Fee_takeFrom 2 none tg d 0 0 [.ref (e_b E + t), .ref (e_b E + p1)] S I L R n (Kq none S I' L R n) := by
  refine C.of (o := [some (.ref (e_b E + t)), some (.ref (e_b E + p1))]) (by decide) rfl (Nat.le_of_ble_eq_true rfl) ?_
  rw [f_Fee_takeFrom] at h
  refine X.aload_0 (pc := 0) (by decide +kernel) ?_
  refine X.aload_1 (pc := 1) (by decide +kernel) ?_
  obtain ⟨hc1, h⟩ := asrt_some h
  refine X.getI (pc := 2) (k := 0) fw_Fee_15 (by decide +kernel) (fun _ => rfl) hc1 ?_
  refine X.nameI (fun x2 hx2 => ?_)
  have h := lt_at hx2 h
  refine X.putI (pc := 5) (k := 0) fw_Fee_15 (by decide +kernel) rfl rfl hS ?_
  refine X.nameMI (fun I3 hI3 => ?_)
  have h := lt_at hI3 h
  refine X.aload_0 (pc := 8) (by decide +kernel) ?_
  refine X.aload_1 (pc := 9) (by decide +kernel) ?_
  refine X.getI (pc := 10) (k := 1) fw_Fee_18 (by decide +kernel) (fun _ => rfl) hc1 ?_
  refine X.nameI (fun x4 hx4 => ?_)
  have h := lt_at hx4 h
  refine X.putI (pc := 13) (k := 1) fw_Fee_18 (by decide +kernel) rfl rfl hS ?_
  refine X.nameMI (fun I5 hI5 => ?_)
  have h := lt_at hI5 h
  refine X.aload_0 (pc := 16) (by decide +kernel) ?_
  refine X.aload_1 (pc := 17) (by decide +kernel) ?_
  refine X.getI (pc := 18) (k := 2) fw_Fee_21 (by decide +kernel) (fun _ => rfl) hc1 ?_
  refine X.nameI (fun x6 hx6 => ?_)
  have h := lt_at hx6 h
  refine X.putI (pc := 21) (k := 2) fw_Fee_21 (by decide +kernel) rfl rfl hS ?_
  refine X.nameMI (fun I7 hI7 => ?_)
  have h := lt_at hI7 h
  refine X.aload_0 (pc := 24) (by decide +kernel) ?_
  refine X.aload_1 (pc := 25) (by decide +kernel) ?_
  refine X.getI (pc := 26) (k := 3) fw_Fee_24 (by decide +kernel) (fun _ => rfl) hc1 ?_
  refine X.nameI (fun x8 hx8 => ?_)
  have h := lt_at hx8 h
  refine X.putI (pc := 29) (k := 3) fw_Fee_24 (by decide +kernel) rfl rfl hS ?_
  refine X.nameMI (fun I9 hI9 => ?_)
  have h := lt_at hI9 h
  refine X.aload_0 (pc := 32) (by decide +kernel) ?_
  refine X.aload_1 (pc := 33) (by decide +kernel) ?_
  refine X.getI (pc := 34) (k := 4) fw_Fee_27 (by decide +kernel) (fun _ => rfl) hc1 ?_
  refine X.nameI (fun x10 hx10 => ?_)
  have h := lt_at hx10 h
  refine X.putI (pc := 37) (k := 4) fw_Fee_27 (by decide +kernel) rfl rfl hS ?_
  refine X.nameMI (fun I11 hI11 => ?_)
  have h := lt_at hI11 h
  refine X.aload_0 (pc := 40) (by decide +kernel) ?_
  refine X.aload_1 (pc := 41) (by decide +kernel) ?_
  refine X.getI (pc := 42) (k := 5) fw_Fee_9 (by decide +kernel) (fun _ => rfl) hc1 ?_
  refine X.nameI (fun x12 hx12 => ?_)
  have h := lt_at hx12 h
  refine X.putI (pc := 45) (k := 5) fw_Fee_9 (by decide +kernel) rfl rfl hS ?_
  refine X.nameMI (fun I13 hI13 => ?_)
  have h := lt_at hI13 h
  have j0 := Option.some.inj h
  subst j0
  exact X.vreturn (pc := 48) (by decide +kernel) rfl ⟨rfl, rfl, rfl, rfl, rfl, rfl⟩
set_option maxRecDepth 100000 in
noncomputable def f_GWL_fee (g : Nat) (S : MS) (R : MR) (I : MI) (t : Nat) : Option (Int32 × MI) :=
  bnd1 (R t 8) fun b1 =>
  bnd1 (R t 0) fun b2 =>
  asrt ((S b1).1 = 0) <|
  bnd2 (f_Fee_learn g S R I b1 b2) fun x4 I5 =>
  asrt ((S b2).1 = 8) <|
  bnd1 (f_Signs_empty S I5 b2) fun I8 =>
  ifb (x4 = (-1))
    (bnd1 (R t 7) fun b11 =>
    asrt ((S b11).1 = 0) <|
    bnd1 (f_Fee_takeFrom S I8 b11 b1) fun I13 =>
    some (0, I13))
    (lt ((-1) - x4) fun (x15 : Int32) =>
    some (x15, I8))
set_option maxRecDepth 100000 in
set_option maxHeartbeats 4000000 in
theorem c_GWL_fee {E : Env} (hE : OKE E) {tg : Bool} {d : Nat} (hd : 2 ≤ d) {g : Nat} {S : MS} {I : MI} {L : ML} {R : MR} {n : Nat} {t : Nat} {v : Int32} {I' : MI} (hS : (S t).1 = 11) (h : f_GWL_fee g S R I t = some (v, I')) : C E y_GWL_fee b_GWL_fee 2 (some .int) tg d 0 0 [.ref (e_b E + t)] S I L R n (Kq (some (.int v)) S I' L R n) := by
  refine C.of (o := [some (.ref (e_b E + t)), none]) (by decide) rfl (Nat.le_of_ble_eq_true rfl) ?_
  rw [f_GWL_fee] at h
  refine X.aload_0 (pc := 0) (by decide +kernel) ?_
  obtain ⟨b1, hb1, h⟩ := bnd1_some h
  refine X.getR (pc := 1) (k := 8) fw_GWL_41 (by decide +kernel) (fun _ => rfl) hS hb1 ?_
  refine X.aload_0 (pc := 4) (by decide +kernel) ?_
  obtain ⟨b2, hb2, h⟩ := bnd1_some h
  refine X.getR (pc := 5) (k := 0) fw_GWL_10 (by decide +kernel) (fun _ => rfl) hS hb2 ?_
  obtain ⟨hc3, h⟩ := asrt_some h
  obtain ⟨x4, I5, hv6, h⟩ := bnd2_some h
  refine X.callVi (pc := 8) (nc := 0) (ns := 0) (c_Fee_learn hE (dle hd (Nat.le_of_ble_eq_true rfl)) hc3 hv6) cv_GWL_162 (by decide +kernel) hc3 ⟨by decide, rfl⟩ (ddd hd (Nat.le_of_ble_eq_true rfl)) rfl (Nat.le_of_ble_eq_true rfl) rfl rfl ?_
  refine X.istore_1 (pc := 11) (by decide +kernel) (by decide) rfl ?_
  refine X.aload_0 (pc := 12) (by decide +kernel) ?_
  refine X.getR (pc := 13) (k := 0) fw_GWL_10 (by decide +kernel) (fun _ => rfl) hS hb2 ?_
  obtain ⟨hc7, h⟩ := asrt_some h
  obtain ⟨I8, hv9, h⟩ := bnd1_some h
  refine X.callVv (pc := 16) (nc := 0) (ns := 0) (c_Signs_empty hE (dle hd (Nat.le_of_ble_eq_true rfl)) hc7 hv9) cv_GWL_156 (by decide +kernel) hc7 ⟨by decide, rfl⟩ (ddd hd (Nat.le_of_ble_eq_true rfl)) rfl (Nat.le_of_ble_eq_true rfl) rfl rfl ?_
  refine X.iload_1 (pc := 19) (by decide +kernel) ?_
  refine X.iconst (pc := 20) (i := (-1)) (v := (-1)) ic_m1 (by decide +kernel) ?_
  rcases ifb_some h with ⟨hq10, h⟩ | ⟨hq10, h⟩
  · refine X.icmp_eq_t (pc := 21) (off := 7) (tgt := 28) hq10 rfl (by decide +kernel) ?_
    refine X.aload_0 (pc := 28) (by decide +kernel) ?_
    obtain ⟨b11, hb11, h⟩ := bnd1_some h
    refine X.getR (pc := 29) (k := 7) fw_GWL_37 (by decide +kernel) (fun _ => rfl) hS hb11 ?_
    refine X.aload_0 (pc := 32) (by decide +kernel) ?_
    refine X.getR (pc := 33) (k := 8) fw_GWL_41 (by decide +kernel) (fun _ => rfl) hS hb1 ?_
    obtain ⟨hc12, h⟩ := asrt_some h
    obtain ⟨I13, hv14, h⟩ := bnd1_some h
    refine X.callVv (pc := 36) (nc := 0) (ns := 0) (c_Fee_takeFrom hE (dle hd (Nat.le_of_ble_eq_true rfl)) hc12 hv14) cv_GWL_164 (by decide +kernel) hc12 ⟨by decide, rfl⟩ (ddd hd (Nat.le_of_ble_eq_true rfl)) rfl (Nat.le_of_ble_eq_true rfl) rfl rfl ?_
    refine X.iconst (pc := 39) (i := 0) (v := 0) ic_0 (by decide +kernel) ?_
    have j0 := Option.some.inj h
    obtain ⟨i0, j1⟩ := Prod.mk.inj j0
    subst i0
    subst j1
    exact X.ireturn (pc := 40) (by decide +kernel) ⟨_, rfl, rfl⟩ ⟨rfl, rfl, rfl, rfl, rfl, rfl⟩
  · refine X.icmp_eq_f (pc := 21) (off := 7) (tgt := 28) hq10 rfl (by decide +kernel) ?_
    refine X.iconst (pc := 24) (i := (-1)) (v := (-1)) ic_m1 (by decide +kernel) ?_
    refine X.iload_1 (pc := 25) (by decide +kernel) ?_
    refine X.isub (pc := 26) (by decide +kernel) ?_
    refine X.nameI (fun x15 hx15 => ?_)
    have h := lt_at hx15 h
    have j0 := Option.some.inj h
    obtain ⟨i0, j1⟩ := Prod.mk.inj j0
    subst i0
    subst j1
    exact X.ireturn (pc := 27) (by decide +kernel) ⟨_, rfl, rfl⟩ ⟨rfl, rfl, rfl, rfl, rfl, rfl⟩
set_option maxRecDepth 100000 in
noncomputable def f_GWL_cell (S : MS) (R : MR) (I : MI) (t : Nat) (p1 : Int32) : Option Int32 :=
  bnd1 (R t 2) fun b1 =>
  asrt ((S b1).1 = 2) <|
  bnd1 (f_Land_kindOf S R I b1 p1) fun x3 =>
  some x3
set_option maxRecDepth 100000 in
set_option maxHeartbeats 4000000 in
theorem c_GWL_cell {E : Env} (hE : OKE E) {tg : Bool} {d : Nat} (hd : 1 ≤ d) {S : MS} {I : MI} {L : ML} {R : MR} {n : Nat} {t : Nat} {p1 : Int32} {v : Int32} (hS : (S t).1 = 11) (h : f_GWL_cell S R I t p1 = some v) : C E y_GWL_cell b_GWL_cell 2 (some .int) tg d 0 0 [.ref (e_b E + t), .int p1] S I L R n (Kq (some (.int v)) S I L R n) := by
  refine C.of (o := [some (.ref (e_b E + t)), some (.int p1)]) (by decide) rfl (Nat.le_of_ble_eq_true rfl) ?_
  rw [f_GWL_cell] at h
  refine X.aload_0 (pc := 0) (by decide +kernel) ?_
  obtain ⟨b1, hb1, h⟩ := bnd1_some h
  refine X.getR (pc := 1) (k := 2) fw_GWL_83 (by decide +kernel) (fun _ => rfl) hS hb1 ?_
  refine X.iload_1 (pc := 4) (by decide +kernel) ?_
  obtain ⟨hc2, h⟩ := asrt_some h
  obtain ⟨x3, hv4, h⟩ := bnd1_some h
  refine X.callVi (pc := 5) (nc := 0) (ns := 0) (c_Land_kindOf hE (dle hd (Nat.le_of_ble_eq_true rfl)) hc2 hv4) cv_GWL_168 (by decide +kernel) hc2 ⟨by decide, rfl⟩ (ddd hd (Nat.le_of_ble_eq_true rfl)) rfl (Nat.le_of_ble_eq_true rfl) rfl rfl ?_
  have j0 := Option.some.inj h
  subst j0
  exact X.ireturn (pc := 8) (by decide +kernel) ⟨_, rfl, rfl⟩ ⟨rfl, rfl, rfl, rfl, rfl, rfl⟩
set_option maxRecDepth 100000 in
noncomputable def f_Land_has (S : MS) (I : MI) (t : Nat) (p1 : Int32) : Option Int32 :=
  bnd1 (ifb (p1 < 0)
      (some 0)
      (ifb (((I t 0) * (I t 1)) ≤ p1)
        (some 0)
        (ifb (36 ≤ p1)
          (some 0)
          (some 1)))) fun (y2 : Int32) =>
  asrt (y2 = 0 ∨ y2 = 1) <|
  some y2
set_option maxRecDepth 100000 in
set_option maxHeartbeats 4000000 in
theorem c_Land_has {E : Env} (hE : OKE E) {tg : Bool} {d : Nat} (hd : 0 ≤ d) {S : MS} {I : MI} {L : ML} {R : MR} {n : Nat} {t : Nat} {p1 : Int32} {v : Int32} (hS : (S t).1 = 2) (h : f_Land_has S I t p1 = some v) : C E y_Land_has b_Land_has 2 (some .boolean) tg d 0 0 [.ref (e_b E + t), .int p1] S I L R n (Kq (some (.int v)) S I L R n) := by
  refine C.of (o := [some (.ref (e_b E + t)), some (.int p1)]) (by decide) rfl (Nat.le_of_ble_eq_true rfl) ?_
  rw [f_Land_has] at h
  refine X.iload_1 (pc := 0) (by decide +kernel) ?_
  obtain ⟨y2, hr3, h⟩ := bnd1_some h
  have hj4 : X E y_Land_has b_Land_has 2 (some .boolean) tg d 0 0 28 [none, none] [.int y2] S I L R n (Kq (some (.int v)) S I L R n) := by
    obtain ⟨hb7, h⟩ := asrt_some h
    have j0 := Option.some.inj h
    subst j0
    exact X.ireturn (pc := 28) (by decide +kernel) ⟨_, rfl, nz01 hb7⟩ ⟨rfl, rfl, rfl, rfl, rfl, rfl⟩
  have h := hr3
  rcases ifb_some h with ⟨hq1, h⟩ | ⟨hq1, h⟩
  · refine X.if_lt_t (pc := 1) (off := 26) (tgt := 27) hq1 rfl (by decide +kernel) ?_
    refine X.iconst (pc := 27) (i := 0) (v := 0) ic_0 (by decide +kernel) ?_
    have j0 := Option.some.inj h
    subst j0
    refine X.fgt (o' := [none, none]) trivial ?_
    exact hj4
  · refine X.if_lt_f (pc := 1) (off := 26) (tgt := 27) hq1 rfl (by decide +kernel) ?_
    refine X.iload_1 (pc := 4) (by decide +kernel) ?_
    refine X.aload_0 (pc := 5) (by decide +kernel) ?_
    refine X.getI (pc := 6) (k := 0) fw_Land_9 (by decide +kernel) (fun _ => rfl) hS ?_
    refine X.aload_0 (pc := 9) (by decide +kernel) ?_
    refine X.getI (pc := 10) (k := 1) fw_Land_15 (by decide +kernel) (fun _ => rfl) hS ?_
    refine X.imul (pc := 13) (by decide +kernel) ?_
    rcases ifb_some h with ⟨hq5, h⟩ | ⟨hq5, h⟩
    · refine X.icmp_ge_t (pc := 14) (off := 13) (tgt := 27) hq5 rfl (by decide +kernel) ?_
      refine X.iconst (pc := 27) (i := 0) (v := 0) ic_0 (by decide +kernel) ?_
      have j0 := Option.some.inj h
      subst j0
      refine X.fgt (o' := [none, none]) trivial ?_
      exact hj4
    · refine X.icmp_ge_f (pc := 14) (off := 13) (tgt := 27) hq5 rfl (by decide +kernel) ?_
      refine X.iload_1 (pc := 17) (by decide +kernel) ?_
      refine X.bipush (pc := 18) (i := 36) (v := 36) bp_36 (by decide +kernel) ?_
      rcases ifb_some h with ⟨hq6, h⟩ | ⟨hq6, h⟩
      · refine X.icmp_ge_t (pc := 20) (off := 7) (tgt := 27) hq6 rfl (by decide +kernel) ?_
        refine X.iconst (pc := 27) (i := 0) (v := 0) ic_0 (by decide +kernel) ?_
        have j0 := Option.some.inj h
        subst j0
        refine X.fgt (o' := [none, none]) trivial ?_
        exact hj4
      · refine X.icmp_ge_f (pc := 20) (off := 7) (tgt := 27) hq6 rfl (by decide +kernel) ?_
        refine X.iconst (pc := 23) (i := 1) (v := 1) ic_1 (by decide +kernel) ?_
        refine X.goto (pc := 24) (off := 4) (tgt := 28) (by decide +kernel) rfl ?_
        have j0 := Option.some.inj h
        subst j0
        refine X.fgt (o' := [none, none]) trivial ?_
        exact hj4
set_option maxRecDepth 100000 in
noncomputable def f_Land_become (g : Nat) (S : MS) (R : MR) (I : MI) (t : Nat) (p1 : Int32) (p2 : Int32) : Option MI :=
  bnd1 (ifb (p1 < 0)
      (some I)
      (ifb (36 ≤ p1)
        (some I)
        (bnd1 (R t 2) fun b6 =>
        asrt ((S b6).1 = 20) <|
        asrt (vp_in p1 (S b6).2) <|
        lt (wI I b6 (Int32.toNatClampNeg p1) p2) fun (I9 : MI) =>
        bnd1 (f_Land_survey g S R I9 t) fun I10 =>
        some I10))) fun (I2 : MI) =>
  some I2
set_option maxRecDepth 100000 in
set_option maxHeartbeats 4000000 in
theorem c_Land_become {E : Env} (hE : OKE E) {tg : Bool} {d : Nat} (hd : 3 ≤ d) {g : Nat} {S : MS} {I : MI} {L : ML} {R : MR} {n : Nat} {t : Nat} {p1 : Int32} {p2 : Int32} {I' : MI} (hS : (S t).1 = 2) (h : f_Land_become g S R I t p1 p2 = some I') : C E y_Land_become b_Land_become 3 none tg d 0 0 [.ref (e_b E + t), .int p1, .int p2] S I L R n (Kq none S I' L R n) := by
  refine C.of (o := [some (.ref (e_b E + t)), some (.int p1), some (.int p2)]) (by decide) rfl (Nat.le_of_ble_eq_true rfl) ?_
  rw [f_Land_become] at h
  refine X.iload_1 (pc := 0) (by decide +kernel) ?_
  obtain ⟨I2, hr3, h⟩ := bnd1_some h
  have hj4 : X E y_Land_become b_Land_become 3 none tg d 0 0 21 [none, none, none] [] S I2 L R n (Kq none S I' L R n) := by
    have j0 := Option.some.inj h
    subst j0
    exact X.vreturn (pc := 21) (by decide +kernel) rfl ⟨rfl, rfl, rfl, rfl, rfl, rfl⟩
  have h := hr3
  rcases ifb_some h with ⟨hq1, h⟩ | ⟨hq1, h⟩
  · refine X.if_lt_t (pc := 1) (off := 20) (tgt := 21) hq1 rfl (by decide +kernel) ?_
    have j0 := Option.some.inj h
    subst j0
    refine X.fgt (o' := [none, none, none]) trivial ?_
    exact hj4
  · refine X.if_lt_f (pc := 1) (off := 20) (tgt := 21) hq1 rfl (by decide +kernel) ?_
    refine X.iload_1 (pc := 4) (by decide +kernel) ?_
    refine X.bipush (pc := 5) (i := 36) (v := 36) bp_36 (by decide +kernel) ?_
    rcases ifb_some h with ⟨hq5, h⟩ | ⟨hq5, h⟩
    · refine X.icmp_ge_t (pc := 7) (off := 14) (tgt := 21) hq5 rfl (by decide +kernel) ?_
      have j0 := Option.some.inj h
      subst j0
      refine X.fgt (o' := [none, none, none]) trivial ?_
      exact hj4
    · refine X.icmp_ge_f (pc := 7) (off := 14) (tgt := 21) hq5 rfl (by decide +kernel) ?_
      refine X.aload_0 (pc := 10) (by decide +kernel) ?_
      obtain ⟨b6, hb6, h⟩ := bnd1_some h
      refine X.getR (pc := 11) (k := 2) fw_Land_18 (by decide +kernel) (fun _ => rfl) hS hb6 ?_
      refine X.iload_1 (pc := 14) (by decide +kernel) ?_
      refine X.iload_2 (pc := 15) (by decide +kernel) ?_
      obtain ⟨hc7, h⟩ := asrt_some h
      obtain ⟨hi8, h⟩ := asrt_some h
      refine X.iastore (pc := 16) (by decide +kernel) hc7 hi8 ?_
      refine X.nameMI (fun I9 hI9 => ?_)
      have h := lt_at hI9 h
      refine X.aload_0 (pc := 17) (by decide +kernel) ?_
      obtain ⟨I10, hv11, h⟩ := bnd1_some h
      refine X.callVv (pc := 18) (nc := 0) (ns := 0) (c_Land_survey hE (dle hd (Nat.le_of_ble_eq_true rfl)) hS hv11) cv_Land_32 (by decide +kernel) hS ⟨by decide, rfl⟩ (ddd hd (Nat.le_of_ble_eq_true rfl)) rfl (Nat.le_of_ble_eq_true rfl) rfl rfl ?_
      have j0 := Option.some.inj h
      subst j0
      refine X.fgt (o' := [none, none, none]) trivial ?_
      exact hj4
set_option maxRecDepth 100000 in
noncomputable def f_GWL_put (g : Nat) (S : MS) (R : MR) (I : MI) (t : Nat) (p1 : Int32) (p2 : Int32) : Option (Int32 × MI) :=
  bnd1 (R t 2) fun b1 =>
  asrt ((S b1).1 = 2) <|
  bnd1 (f_Land_has S I b1 p1) fun x3 =>
  ifb (x3 = 0)
    (some ((-1), I))
    (ifb (p2 < 0)
      (some ((-1), I))
      (ifb (3 < p2)
        (some ((-1), I))
        (bnd1 (R t 3) fun b8 =>
        asrt ((S b8).1 = 5) <|
        ifb (p1 = (I b8 0))
          (some ((-1), I))
          (bnd1 (f_Land_kindOf S R I b1 p1) fun x11 =>
          bnd1 (f_Land_become g S R I b1 p1 p2) fun I13 =>
          bnd1 (R t 4) fun b15 =>
          asrt ((S b15).1 = 6) <|
          bnd1 (f_Past_forget S I13 b15) fun I17 =>
          some (x11, I17)))))
set_option maxRecDepth 100000 in
set_option maxHeartbeats 4000000 in
theorem c_GWL_put {E : Env} (hE : OKE E) {tg : Bool} {d : Nat} (hd : 4 ≤ d) {g : Nat} {S : MS} {I : MI} {L : ML} {R : MR} {n : Nat} {t : Nat} {p1 : Int32} {p2 : Int32} {v : Int32} {I' : MI} (hS : (S t).1 = 11) (h : f_GWL_put g S R I t p1 p2 = some (v, I')) : C E y_GWL_put b_GWL_put 4 (some .int) tg d 0 0 [.ref (e_b E + t), .int p1, .int p2] S I L R n (Kq (some (.int v)) S I' L R n) := by
  refine C.of (o := [some (.ref (e_b E + t)), some (.int p1), some (.int p2), none]) (by decide) rfl (Nat.le_of_ble_eq_true rfl) ?_
  rw [f_GWL_put] at h
  refine X.aload_0 (pc := 0) (by decide +kernel) ?_
  obtain ⟨b1, hb1, h⟩ := bnd1_some h
  refine X.getR (pc := 1) (k := 2) fw_GWL_83 (by decide +kernel) (fun _ => rfl) hS hb1 ?_
  refine X.iload_1 (pc := 4) (by decide +kernel) ?_
  obtain ⟨hc2, h⟩ := asrt_some h
  obtain ⟨x3, hv4, h⟩ := bnd1_some h
  refine X.callVi (pc := 5) (nc := 0) (ns := 0) (c_Land_has hE (dle hd (Nat.le_of_ble_eq_true rfl)) hc2 hv4) cv_GWL_172 (by decide +kernel) hc2 ⟨by decide, rfl⟩ (ddd hd (Nat.le_of_ble_eq_true rfl)) rfl (Nat.le_of_ble_eq_true rfl) rfl rfl ?_
  rcases ifb_some h with ⟨hq5, h⟩ | ⟨hq5, h⟩
  · refine X.if_eq_t (pc := 8) (off := 23) (tgt := 31) hq5 rfl (by decide +kernel) ?_
    refine X.iconst (pc := 31) (i := (-1)) (v := (-1)) ic_m1 (by decide +kernel) ?_
    have j0 := Option.some.inj h
    obtain ⟨i0, j1⟩ := Prod.mk.inj j0
    subst i0
    subst j1
    exact X.ireturn (pc := 32) (by decide +kernel) ⟨_, rfl, rfl⟩ ⟨rfl, rfl, rfl, rfl, rfl, rfl⟩
  · refine X.if_eq_f (pc := 8) (off := 23) (tgt := 31) hq5 rfl (by decide +kernel) ?_
    refine X.iload_2 (pc := 11) (by decide +kernel) ?_
    rcases ifb_some h with ⟨hq6, h⟩ | ⟨hq6, h⟩
    · refine X.if_lt_t (pc := 12) (off := 19) (tgt := 31) hq6 rfl (by decide +kernel) ?_
      refine X.iconst (pc := 31) (i := (-1)) (v := (-1)) ic_m1 (by decide +kernel) ?_
      have j0 := Option.some.inj h
      obtain ⟨i0, j1⟩ := Prod.mk.inj j0
      subst i0
      subst j1
      exact X.ireturn (pc := 32) (by decide +kernel) ⟨_, rfl, rfl⟩ ⟨rfl, rfl, rfl, rfl, rfl, rfl⟩
    · refine X.if_lt_f (pc := 12) (off := 19) (tgt := 31) hq6 rfl (by decide +kernel) ?_
      refine X.iload_2 (pc := 15) (by decide +kernel) ?_
      refine X.iconst (pc := 16) (i := 3) (v := 3) ic_3 (by decide +kernel) ?_
      rcases ifb_some h with ⟨hq7, h⟩ | ⟨hq7, h⟩
      · refine X.icmp_gt_t (pc := 17) (off := 14) (tgt := 31) hq7 rfl (by decide +kernel) ?_
        refine X.iconst (pc := 31) (i := (-1)) (v := (-1)) ic_m1 (by decide +kernel) ?_
        have j0 := Option.some.inj h
        obtain ⟨i0, j1⟩ := Prod.mk.inj j0
        subst i0
        subst j1
        exact X.ireturn (pc := 32) (by decide +kernel) ⟨_, rfl, rfl⟩ ⟨rfl, rfl, rfl, rfl, rfl, rfl⟩
      · refine X.icmp_gt_f (pc := 17) (off := 14) (tgt := 31) hq7 rfl (by decide +kernel) ?_
        refine X.iload_1 (pc := 20) (by decide +kernel) ?_
        refine X.aload_0 (pc := 21) (by decide +kernel) ?_
        obtain ⟨b8, hb8, h⟩ := bnd1_some h
        refine X.getR (pc := 22) (k := 3) fw_GWL_87 (by decide +kernel) (fun _ => rfl) hS hb8 ?_
        obtain ⟨hc9, h⟩ := asrt_some h
        refine X.getI (pc := 25) (k := 0) fw_GWL_175 (by decide +kernel) (fun _ => rfl) hc9 ?_
        rcases ifb_some h with ⟨hq10, h⟩ | ⟨hq10, h⟩
        · refine X.icmp_ne_f (pc := 28) (off := 5) (tgt := 33) hq10 rfl (by decide +kernel) ?_
          refine X.iconst (pc := 31) (i := (-1)) (v := (-1)) ic_m1 (by decide +kernel) ?_
          have j0 := Option.some.inj h
          obtain ⟨i0, j1⟩ := Prod.mk.inj j0
          subst i0
          subst j1
          exact X.ireturn (pc := 32) (by decide +kernel) ⟨_, rfl, rfl⟩ ⟨rfl, rfl, rfl, rfl, rfl, rfl⟩
        · refine X.icmp_ne_t (pc := 28) (off := 5) (tgt := 33) hq10 rfl (by decide +kernel) ?_
          refine X.aload_0 (pc := 33) (by decide +kernel) ?_
          refine X.getR (pc := 34) (k := 2) fw_GWL_83 (by decide +kernel) (fun _ => rfl) hS hb1 ?_
          refine X.iload_1 (pc := 37) (by decide +kernel) ?_
          obtain ⟨x11, hv12, h⟩ := bnd1_some h
          refine X.callVi (pc := 38) (nc := 0) (ns := 0) (c_Land_kindOf hE (dle hd (Nat.le_of_ble_eq_true rfl)) hc2 hv12) cv_GWL_168 (by decide +kernel) hc2 ⟨by decide, rfl⟩ (ddd hd (Nat.le_of_ble_eq_true rfl)) rfl (Nat.le_of_ble_eq_true rfl) rfl rfl ?_
          refine X.istore_3 (pc := 41) (by decide +kernel) (by decide) rfl ?_
          refine X.aload_0 (pc := 42) (by decide +kernel) ?_
          refine X.getR (pc := 43) (k := 2) fw_GWL_83 (by decide +kernel) (fun _ => rfl) hS hb1 ?_
          refine X.iload_1 (pc := 46) (by decide +kernel) ?_
          refine X.iload_2 (pc := 47) (by decide +kernel) ?_
          obtain ⟨I13, hv14, h⟩ := bnd1_some h
          refine X.callVv (pc := 48) (nc := 0) (ns := 0) (c_Land_become hE (dle hd (Nat.le_of_ble_eq_true rfl)) hc2 hv14) cv_GWL_178 (by decide +kernel) hc2 ⟨by decide, rfl⟩ (ddd hd (Nat.le_of_ble_eq_true rfl)) rfl (Nat.le_of_ble_eq_true rfl) rfl rfl ?_
          refine X.aload_0 (pc := 51) (by decide +kernel) ?_
          obtain ⟨b15, hb15, h⟩ := bnd1_some h
          refine X.getR (pc := 52) (k := 4) fw_GWL_26 (by decide +kernel) (fun _ => rfl) hS hb15 ?_
          obtain ⟨hc16, h⟩ := asrt_some h
          obtain ⟨I17, hv18, h⟩ := bnd1_some h
          refine X.callVv (pc := 55) (nc := 0) (ns := 0) (c_Past_forget hE (dle hd (Nat.le_of_ble_eq_true rfl)) hc16 hv18) cv_GWL_148 (by decide +kernel) hc16 ⟨by decide, rfl⟩ (ddd hd (Nat.le_of_ble_eq_true rfl)) rfl (Nat.le_of_ble_eq_true rfl) rfl rfl ?_
          refine X.iload_3 (pc := 58) (by decide +kernel) ?_
          have j0 := Option.some.inj h
          obtain ⟨i0, j1⟩ := Prod.mk.inj j0
          subst i0
          subst j1
          exact X.ireturn (pc := 59) (by decide +kernel) ⟨_, rfl, rfl⟩ ⟨rfl, rfl, rfl, rfl, rfl, rfl⟩
set_option maxRecDepth 100000 in
noncomputable def f_GWL_go (S : MS) (R : MR) (I : MI) (t : Nat) (p1 : Int32) (p2 : Int32) : Option (Int32 × MI) :=
  bnd1 (R t 2) fun b1 =>
  asrt ((S b1).1 = 2) <|
  bnd1 (f_Land_kindOf S R I b1 p1) fun x3 =>
  ifb (x3 = 0)
    (ifb (p2 < 0)
      (some (0, I))
      (ifb (p2 < 4)
        (bnd1 (R t 3) fun b8 =>
        asrt ((S b8).1 = 5) <|
        bnd1 (f_Party_begin S I b8 p1 p2) fun I10 =>
        bnd1 (R t 4) fun b12 =>
        asrt ((S b12).1 = 6) <|
        bnd1 (f_Past_forget S I10 b12) fun I14 =>
        some (1, I14))
        (some (0, I))))
    (some (0, I))
set_option maxRecDepth 100000 in
set_option maxHeartbeats 4000000 in
theorem c_GWL_go {E : Env} (hE : OKE E) {tg : Bool} {d : Nat} (hd : 1 ≤ d) {S : MS} {I : MI} {L : ML} {R : MR} {n : Nat} {t : Nat} {p1 : Int32} {p2 : Int32} {v : Int32} {I' : MI} (hS : (S t).1 = 11) (h : f_GWL_go S R I t p1 p2 = some (v, I')) : C E y_GWL_go b_GWL_go 3 (some .boolean) tg d 0 0 [.ref (e_b E + t), .int p1, .int p2] S I L R n (Kq (some (.int v)) S I' L R n) := by
  refine C.of (o := [some (.ref (e_b E + t)), some (.int p1), some (.int p2)]) (by decide) rfl (Nat.le_of_ble_eq_true rfl) ?_
  rw [f_GWL_go] at h
  refine X.aload_0 (pc := 0) (by decide +kernel) ?_
  obtain ⟨b1, hb1, h⟩ := bnd1_some h
  refine X.getR (pc := 1) (k := 2) fw_GWL_83 (by decide +kernel) (fun _ => rfl) hS hb1 ?_
  refine X.iload_1 (pc := 4) (by decide +kernel) ?_
  obtain ⟨hc2, h⟩ := asrt_some h
  obtain ⟨x3, hv4, h⟩ := bnd1_some h
  refine X.callVi (pc := 5) (nc := 0) (ns := 0) (c_Land_kindOf hE (dle hd (Nat.le_of_ble_eq_true rfl)) hc2 hv4) cv_GWL_168 (by decide +kernel) hc2 ⟨by decide, rfl⟩ (ddd hd (Nat.le_of_ble_eq_true rfl)) rfl (Nat.le_of_ble_eq_true rfl) rfl rfl ?_
  rcases ifb_some h with ⟨hq5, h⟩ | ⟨hq5, h⟩
  · refine X.if_ne_f (pc := 8) (off := 12) (tgt := 20) hq5 rfl (by decide +kernel) ?_
    refine X.iload_2 (pc := 11) (by decide +kernel) ?_
    rcases ifb_some h with ⟨hq6, h⟩ | ⟨hq6, h⟩
    · refine X.if_lt_t (pc := 12) (off := 8) (tgt := 20) hq6 rfl (by decide +kernel) ?_
      refine X.iconst (pc := 20) (i := 0) (v := 0) ic_0 (by decide +kernel) ?_
      have j0 := Option.some.inj h
      obtain ⟨i0, j1⟩ := Prod.mk.inj j0
      subst i0
      subst j1
      exact X.ireturn (pc := 21) (by decide +kernel) ⟨_, rfl, nz01 (Or.inl rfl)⟩ ⟨rfl, rfl, rfl, rfl, rfl, rfl⟩
    · refine X.if_lt_f (pc := 12) (off := 8) (tgt := 20) hq6 rfl (by decide +kernel) ?_
      refine X.iload_2 (pc := 15) (by decide +kernel) ?_
      refine X.iconst (pc := 16) (i := 4) (v := 4) ic_4 (by decide +kernel) ?_
      rcases ifb_some h with ⟨hq7, h⟩ | ⟨hq7, h⟩
      · refine X.icmp_lt_t (pc := 17) (off := 5) (tgt := 22) hq7 rfl (by decide +kernel) ?_
        refine X.aload_0 (pc := 22) (by decide +kernel) ?_
        obtain ⟨b8, hb8, h⟩ := bnd1_some h
        refine X.getR (pc := 23) (k := 3) fw_GWL_87 (by decide +kernel) (fun _ => rfl) hS hb8 ?_
        refine X.iload_1 (pc := 26) (by decide +kernel) ?_
        refine X.iload_2 (pc := 27) (by decide +kernel) ?_
        obtain ⟨hc9, h⟩ := asrt_some h
        obtain ⟨I10, hv11, h⟩ := bnd1_some h
        refine X.callVv (pc := 28) (nc := 0) (ns := 0) (c_Party_begin hE (dle hd (Nat.le_of_ble_eq_true rfl)) hc9 hv11) cv_GWL_138 (by decide +kernel) hc9 ⟨by decide, rfl⟩ (ddd hd (Nat.le_of_ble_eq_true rfl)) rfl (Nat.le_of_ble_eq_true rfl) rfl rfl ?_
        refine X.aload_0 (pc := 31) (by decide +kernel) ?_
        obtain ⟨b12, hb12, h⟩ := bnd1_some h
        refine X.getR (pc := 32) (k := 4) fw_GWL_26 (by decide +kernel) (fun _ => rfl) hS hb12 ?_
        obtain ⟨hc13, h⟩ := asrt_some h
        obtain ⟨I14, hv15, h⟩ := bnd1_some h
        refine X.callVv (pc := 35) (nc := 0) (ns := 0) (c_Past_forget hE (dle hd (Nat.le_of_ble_eq_true rfl)) hc13 hv15) cv_GWL_148 (by decide +kernel) hc13 ⟨by decide, rfl⟩ (ddd hd (Nat.le_of_ble_eq_true rfl)) rfl (Nat.le_of_ble_eq_true rfl) rfl rfl ?_
        refine X.iconst (pc := 38) (i := 1) (v := 1) ic_1 (by decide +kernel) ?_
        have j0 := Option.some.inj h
        obtain ⟨i0, j1⟩ := Prod.mk.inj j0
        subst i0
        subst j1
        exact X.ireturn (pc := 39) (by decide +kernel) ⟨_, rfl, nz01 (Or.inr rfl)⟩ ⟨rfl, rfl, rfl, rfl, rfl, rfl⟩
      · refine X.icmp_lt_f (pc := 17) (off := 5) (tgt := 22) hq7 rfl (by decide +kernel) ?_
        refine X.iconst (pc := 20) (i := 0) (v := 0) ic_0 (by decide +kernel) ?_
        have j0 := Option.some.inj h
        obtain ⟨i0, j1⟩ := Prod.mk.inj j0
        subst i0
        subst j1
        exact X.ireturn (pc := 21) (by decide +kernel) ⟨_, rfl, nz01 (Or.inl rfl)⟩ ⟨rfl, rfl, rfl, rfl, rfl, rfl⟩
  · refine X.if_ne_t (pc := 8) (off := 12) (tgt := 20) hq5 rfl (by decide +kernel) ?_
    refine X.iconst (pc := 20) (i := 0) (v := 0) ic_0 (by decide +kernel) ?_
    have j0 := Option.some.inj h
    obtain ⟨i0, j1⟩ := Prod.mk.inj j0
    subst i0
    subst j1
    exact X.ireturn (pc := 21) (by decide +kernel) ⟨_, rfl, nz01 (Or.inl rfl)⟩ ⟨rfl, rfl, rfl, rfl, rfl, rfl⟩
set_option maxRecDepth 100000 in
noncomputable def f_GWL_weights (S : MS) (R : MR) (I : MI) (t : Nat) (p1 : Int32) (p2 : Int32) : Option (Int32 × MI) :=
  ifb (p1 < 0)
    (some (0, I))
    (ifb (10 < p1)
      (some (0, I))
      (ifb (p2 < 0)
        (some (0, I))
        (ifb (p2 ≤ (10 - p1))
          (bnd1 (R t 5) fun b5 =>
          asrt ((S b5).1 = 20) <|
          asrt (vp_in 0 (S b5).2) <|
          lt (wI I b5 (Int32.toNatClampNeg 0) p1) fun (I8 : MI) =>
          asrt (vp_in 1 (S b5).2) <|
          lt (wI I8 b5 (Int32.toNatClampNeg 1) p2) fun (I10 : MI) =>
          lt ((10 - p1) - p2) fun (x11 : Int32) =>
          asrt (vp_in 2 (S b5).2) <|
          lt (wI I10 b5 (Int32.toNatClampNeg 2) x11) fun (I13 : MI) =>
          some (1, I13))
          (some (0, I)))))
set_option maxRecDepth 100000 in
set_option maxHeartbeats 4000000 in
theorem c_GWL_weights {E : Env} (hE : OKE E) {tg : Bool} {d : Nat} (hd : 0 ≤ d) {S : MS} {I : MI} {L : ML} {R : MR} {n : Nat} {t : Nat} {p1 : Int32} {p2 : Int32} {v : Int32} {I' : MI} (hS : (S t).1 = 11) (h : f_GWL_weights S R I t p1 p2 = some (v, I')) : C E y_GWL_weights b_GWL_weights 3 (some .boolean) tg d 0 0 [.ref (e_b E + t), .int p1, .int p2] S I L R n (Kq (some (.int v)) S I' L R n) := by
  refine C.of (o := [some (.ref (e_b E + t)), some (.int p1), some (.int p2)]) (by decide) rfl (Nat.le_of_ble_eq_true rfl) ?_
  rw [f_GWL_weights] at h
  refine X.iload_1 (pc := 0) (by decide +kernel) ?_
  rcases ifb_some h with ⟨hq1, h⟩ | ⟨hq1, h⟩
  · refine X.if_lt_t (pc := 1) (off := 21) (tgt := 22) hq1 rfl (by decide +kernel) ?_
    refine X.iconst (pc := 22) (i := 0) (v := 0) ic_0 (by decide +kernel) ?_
    have j0 := Option.some.inj h
    obtain ⟨i0, j1⟩ := Prod.mk.inj j0
    subst i0
    subst j1
    exact X.ireturn (pc := 23) (by decide +kernel) ⟨_, rfl, nz01 (Or.inl rfl)⟩ ⟨rfl, rfl, rfl, rfl, rfl, rfl⟩
  · refine X.if_lt_f (pc := 1) (off := 21) (tgt := 22) hq1 rfl (by decide +kernel) ?_
    refine X.iload_1 (pc := 4) (by decide +kernel) ?_
    refine X.bipush (pc := 5) (i := 10) (v := 10) bp_10 (by decide +kernel) ?_
    rcases ifb_some h with ⟨hq2, h⟩ | ⟨hq2, h⟩
    · refine X.icmp_gt_t (pc := 7) (off := 15) (tgt := 22) hq2 rfl (by decide +kernel) ?_
      refine X.iconst (pc := 22) (i := 0) (v := 0) ic_0 (by decide +kernel) ?_
      have j0 := Option.some.inj h
      obtain ⟨i0, j1⟩ := Prod.mk.inj j0
      subst i0
      subst j1
      exact X.ireturn (pc := 23) (by decide +kernel) ⟨_, rfl, nz01 (Or.inl rfl)⟩ ⟨rfl, rfl, rfl, rfl, rfl, rfl⟩
    · refine X.icmp_gt_f (pc := 7) (off := 15) (tgt := 22) hq2 rfl (by decide +kernel) ?_
      refine X.iload_2 (pc := 10) (by decide +kernel) ?_
      rcases ifb_some h with ⟨hq3, h⟩ | ⟨hq3, h⟩
      · refine X.if_lt_t (pc := 11) (off := 11) (tgt := 22) hq3 rfl (by decide +kernel) ?_
        refine X.iconst (pc := 22) (i := 0) (v := 0) ic_0 (by decide +kernel) ?_
        have j0 := Option.some.inj h
        obtain ⟨i0, j1⟩ := Prod.mk.inj j0
        subst i0
        subst j1
        exact X.ireturn (pc := 23) (by decide +kernel) ⟨_, rfl, nz01 (Or.inl rfl)⟩ ⟨rfl, rfl, rfl, rfl, rfl, rfl⟩
      · refine X.if_lt_f (pc := 11) (off := 11) (tgt := 22) hq3 rfl (by decide +kernel) ?_
        refine X.iload_2 (pc := 14) (by decide +kernel) ?_
        refine X.bipush (pc := 15) (i := 10) (v := 10) bp_10 (by decide +kernel) ?_
        refine X.iload_1 (pc := 17) (by decide +kernel) ?_
        refine X.isub (pc := 18) (by decide +kernel) ?_
        rcases ifb_some h with ⟨hq4, h⟩ | ⟨hq4, h⟩
        · refine X.icmp_le_t (pc := 19) (off := 5) (tgt := 24) hq4 rfl (by decide +kernel) ?_
          refine X.aload_0 (pc := 24) (by decide +kernel) ?_
          obtain ⟨b5, hb5, h⟩ := bnd1_some h
          refine X.getR (pc := 25) (k := 5) fw_GWL_91 (by decide +kernel) (fun _ => rfl) hS hb5 ?_
          refine X.iconst (pc := 28) (i := 0) (v := 0) ic_0 (by decide +kernel) ?_
          refine X.iload_1 (pc := 29) (by decide +kernel) ?_
          obtain ⟨hc6, h⟩ := asrt_some h
          obtain ⟨hi7, h⟩ := asrt_some h
          refine X.iastore (pc := 30) (by decide +kernel) hc6 hi7 ?_
          refine X.nameMI (fun I8 hI8 => ?_)
          have h := lt_at hI8 h
          refine X.aload_0 (pc := 31) (by decide +kernel) ?_
          refine X.getR (pc := 32) (k := 5) fw_GWL_91 (by decide +kernel) (fun _ => rfl) hS hb5 ?_
          refine X.iconst (pc := 35) (i := 1) (v := 1) ic_1 (by decide +kernel) ?_
          refine X.iload_2 (pc := 36) (by decide +kernel) ?_
          obtain ⟨hi9, h⟩ := asrt_some h
          refine X.iastore (pc := 37) (by decide +kernel) hc6 hi9 ?_
          refine X.nameMI (fun I10 hI10 => ?_)
          have h := lt_at hI10 h
          refine X.aload_0 (pc := 38) (by decide +kernel) ?_
          refine X.getR (pc := 39) (k := 5) fw_GWL_91 (by decide +kernel) (fun _ => rfl) hS hb5 ?_
          refine X.iconst (pc := 42) (i := 2) (v := 2) ic_2 (by decide +kernel) ?_
          refine X.bipush (pc := 43) (i := 10) (v := 10) bp_10 (by decide +kernel) ?_
          refine X.iload_1 (pc := 45) (by decide +kernel) ?_
          refine X.isub (pc := 46) (by decide +kernel) ?_
          refine X.iload_2 (pc := 47) (by decide +kernel) ?_
          refine X.isub (pc := 48) (by decide +kernel) ?_
          refine X.nameI (fun x11 hx11 => ?_)
          have h := lt_at hx11 h
          obtain ⟨hi12, h⟩ := asrt_some h
          refine X.iastore (pc := 49) (by decide +kernel) hc6 hi12 ?_
          refine X.nameMI (fun I13 hI13 => ?_)
          have h := lt_at hI13 h
          refine X.iconst (pc := 50) (i := 1) (v := 1) ic_1 (by decide +kernel) ?_
          have j0 := Option.some.inj h
          obtain ⟨i0, j1⟩ := Prod.mk.inj j0
          subst i0
          subst j1
          exact X.ireturn (pc := 51) (by decide +kernel) ⟨_, rfl, nz01 (Or.inr rfl)⟩ ⟨rfl, rfl, rfl, rfl, rfl, rfl⟩
        · refine X.icmp_le_f (pc := 19) (off := 5) (tgt := 24) hq4 rfl (by decide +kernel) ?_
          refine X.iconst (pc := 22) (i := 0) (v := 0) ic_0 (by decide +kernel) ?_
          have j0 := Option.some.inj h
          obtain ⟨i0, j1⟩ := Prod.mk.inj j0
          subst i0
          subst j1
          exact X.ireturn (pc := 23) (by decide +kernel) ⟨_, rfl, nz01 (Or.inl rfl)⟩ ⟨rfl, rfl, rfl, rfl, rfl, rfl⟩
