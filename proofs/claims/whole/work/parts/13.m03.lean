set_option maxRecDepth 100000 in
noncomputable def f_Prints_isFalse (S : MS) (R : MR) (I : MI) (t : Nat) (p1 : Int32) (p2 : Int32) : Option Int32 :=
  bnd1 (R t 0) fun b1 =>
  asrt ((S b1).1 = 2) <|
  bnd1 (f_Land_stepsHome S R I b1 p1) fun x3 =>
  bnd1 (R t 1) fun b5 =>
  bnd1 (f_GWL_tenthsOf S I b5 p2) fun x6 =>
  bnd1 (ifb (x6 = 0)
      (some 1)
      (some 0)) fun (y9 : Int32) =>
  bnd1 (ifb (y9 = 0)
      (some 0)
      (ifb (x3 = (-1))
        (some 1)
        (bnd1 (f_Land_after S R I b1 p1 p2) fun x17 =>
        bnd1 (f_Land_stepsHome S R I b1 x17) fun x19 =>
        ifb (x19 = (x3 - 1))
          (some 0)
          (some 1)))) fun (y13 : Int32) =>
  asrt (y13 = 0 ∨ y13 = 1) <|
  some y13
set_option maxRecDepth 100000 in
set_option maxHeartbeats 4000000 in
theorem c_Prints_isFalse {E : Env} (hE : OKE E) {tg : Bool} {d : Nat} (hd : 1 ≤ d) {S : MS} {I : MI} {L : ML} {R : MR} {n : Nat} {t : Nat} {p1 : Int32} {p2 : Int32} {v : Int32} (hS : (S t).1 = 7) (h : f_Prints_isFalse S R I t p1 p2 = some v) : C E y_Prints_isFalse b_Prints_isFalse 5 (some .boolean) tg d 0 0 [.ref (e_b E + t), .int p1, .int p2] S I L R n (Kq (some (.int v)) S I L R n) := by
  refine C.of (o := [some (.ref (e_b E + t)), some (.int p1), some (.int p2), none, none]) (by decide) rfl (Nat.le_of_ble_eq_true rfl) ?_
  rw [f_Prints_isFalse] at h
  refine X.aload_0 (pc := 0) (by decide +kernel) ?_
  obtain ⟨b1, hb1, h⟩ := bnd1_some h
  refine X.getR (pc := 1) (k := 0) fw_Prints_22 (by decide +kernel) (fun _ => rfl) hS hb1 ?_
  refine X.iload_1 (pc := 4) (by decide +kernel) ?_
  obtain ⟨hc2, h⟩ := asrt_some h
  obtain ⟨x3, hv4, h⟩ := bnd1_some h
  refine X.callVi (pc := 5) (nc := 0) (ns := 0) (c_Land_stepsHome hE (dle hd (Nat.le_of_ble_eq_true rfl)) hc2 hv4) cv_Prints_84 (by decide +kernel) hc2 ⟨by decide, rfl⟩ (ddd hd (Nat.le_of_ble_eq_true rfl)) rfl (Nat.le_of_ble_eq_true rfl) rfl rfl ?_
  refine X.istore_3 (pc := 8) (by decide +kernel) (by decide) rfl ?_
  refine X.aload_0 (pc := 9) (by decide +kernel) ?_
  obtain ⟨b5, hb5, h⟩ := bnd1_some h
  refine X.getR (pc := 10) (k := 1) fw_Prints_26 (by decide +kernel) (fun _ => rfl) hS hb5 ?_
  refine X.iload_2 (pc := 13) (by decide +kernel) ?_
  obtain ⟨x6, hv7, h⟩ := bnd1_some h
  refine X.callSi (pc := 14) (nc := 0) (ns := 0) (c_GWL_tenthsOf hE (dle hd (Nat.le_of_ble_eq_true rfl)) hv7) cv_Prints_87 (by decide +kernel) (ddd hd (Nat.le_of_ble_eq_true rfl)) rfl (Nat.le_of_ble_eq_true rfl) rfl rfl ?_
  obtain ⟨y9, hr10, h⟩ := bnd1_some h
  have hj11 : X E y_Prints_isFalse b_Prints_isFalse 5 (some .boolean) tg d 0 0 25 [some (.ref (e_b E + t)), some (.int p1), some (.int p2), some (.int x3), none] [.int y9] S I L R n (Kq (some (.int v)) S I L R n) := by
    refine X.istore_4 (pc := 25) (by decide +kernel) (by decide) rfl ?_
    refine X.iload_4 (pc := 27) (by decide +kernel) ?_
    obtain ⟨y13, hr14, h⟩ := bnd1_some h
    have hj15 : X E y_Prints_isFalse b_Prints_isFalse 5 (some .boolean) tg d 0 0 64 [none, none, none, none, none] [.int y13] S I L R n (Kq (some (.int v)) S I L R n) := by
      obtain ⟨hb22, h⟩ := asrt_some h
      have j0 := Option.some.inj h
      subst j0
      exact X.ireturn (pc := 64) (by decide +kernel) ⟨_, rfl, nz01 hb22⟩ ⟨rfl, rfl, rfl, rfl, rfl, rfl⟩
    have h := hr14
    rcases ifb_some h with ⟨hq12, h⟩ | ⟨hq12, h⟩
    · refine X.if_eq_t (pc := 29) (off := 34) (tgt := 63) hq12 rfl (by decide +kernel) ?_
      refine X.iconst (pc := 63) (i := 0) (v := 0) ic_0 (by decide +kernel) ?_
      have j0 := Option.some.inj h
      subst j0
      refine X.fgt (o' := [none, none, none, none, none]) trivial ?_
      exact hj15
    · refine X.if_eq_f (pc := 29) (off := 34) (tgt := 63) hq12 rfl (by decide +kernel) ?_
      refine X.iload_3 (pc := 32) (by decide +kernel) ?_
      refine X.iconst (pc := 33) (i := (-1)) (v := (-1)) ic_m1 (by decide +kernel) ?_
      rcases ifb_some h with ⟨hq16, h⟩ | ⟨hq16, h⟩
      · refine X.icmp_eq_t (pc := 34) (off := 25) (tgt := 59) hq16 rfl (by decide +kernel) ?_
        refine X.iconst (pc := 59) (i := 1) (v := 1) ic_1 (by decide +kernel) ?_
        refine X.goto (pc := 60) (off := 4) (tgt := 64) (by decide +kernel) rfl ?_
        have j0 := Option.some.inj h
        subst j0
        refine X.fgt (o' := [none, none, none, none, none]) trivial ?_
        exact hj15
      · refine X.icmp_eq_f (pc := 34) (off := 25) (tgt := 59) hq16 rfl (by decide +kernel) ?_
        refine X.aload_0 (pc := 37) (by decide +kernel) ?_
        refine X.getR (pc := 38) (k := 0) fw_Prints_22 (by decide +kernel) (fun _ => rfl) hS hb1 ?_
        refine X.aload_0 (pc := 41) (by decide +kernel) ?_
        refine X.getR (pc := 42) (k := 0) fw_Prints_22 (by decide +kernel) (fun _ => rfl) hS hb1 ?_
        refine X.iload_1 (pc := 45) (by decide +kernel) ?_
        refine X.iload_2 (pc := 46) (by decide +kernel) ?_
        obtain ⟨x17, hv18, h⟩ := bnd1_some h
        refine X.callVi (pc := 47) (nc := 0) (ns := 0) (c_Land_after hE (dle hd (Nat.le_of_ble_eq_true rfl)) hc2 hv18) cv_Prints_71 (by decide +kernel) hc2 ⟨by decide, rfl⟩ (ddd hd (Nat.le_of_ble_eq_true rfl)) rfl (Nat.le_of_ble_eq_true rfl) rfl rfl ?_
        obtain ⟨x19, hv20, h⟩ := bnd1_some h
        refine X.callVi (pc := 50) (nc := 0) (ns := 0) (c_Land_stepsHome hE (dle hd (Nat.le_of_ble_eq_true rfl)) hc2 hv20) cv_Prints_84 (by decide +kernel) hc2 ⟨by decide, rfl⟩ (ddd hd (Nat.le_of_ble_eq_true rfl)) rfl (Nat.le_of_ble_eq_true rfl) rfl rfl ?_
        refine X.iload_3 (pc := 53) (by decide +kernel) ?_
        refine X.iconst (pc := 54) (i := 1) (v := 1) ic_1 (by decide +kernel) ?_
        refine X.isub (pc := 55) (by decide +kernel) ?_
        rcases ifb_some h with ⟨hq21, h⟩ | ⟨hq21, h⟩
        · refine X.icmp_eq_t (pc := 56) (off := 7) (tgt := 63) hq21 rfl (by decide +kernel) ?_
          refine X.iconst (pc := 63) (i := 0) (v := 0) ic_0 (by decide +kernel) ?_
          have j0 := Option.some.inj h
          subst j0
          refine X.fgt (o' := [none, none, none, none, none]) trivial ?_
          exact hj15
        · refine X.icmp_eq_f (pc := 56) (off := 7) (tgt := 63) hq21 rfl (by decide +kernel) ?_
          refine X.iconst (pc := 59) (i := 1) (v := 1) ic_1 (by decide +kernel) ?_
          refine X.goto (pc := 60) (off := 4) (tgt := 64) (by decide +kernel) rfl ?_
          have j0 := Option.some.inj h
          subst j0
          refine X.fgt (o' := [none, none, none, none, none]) trivial ?_
          exact hj15
  have h := hr10
  rcases ifb_some h with ⟨hq8, h⟩ | ⟨hq8, h⟩
  · refine X.if_ne_f (pc := 17) (off := 7) (tgt := 24) hq8 rfl (by decide +kernel) ?_
    refine X.iconst (pc := 20) (i := 1) (v := 1) ic_1 (by decide +kernel) ?_
    refine X.goto (pc := 21) (off := 4) (tgt := 25) (by decide +kernel) rfl ?_
    have j0 := Option.some.inj h
    subst j0
    exact hj11
  · refine X.if_ne_t (pc := 17) (off := 7) (tgt := 24) hq8 rfl (by decide +kernel) ?_
    refine X.iconst (pc := 24) (i := 0) (v := 0) ic_0 (by decide +kernel) ?_
    have j0 := Option.some.inj h
    subst j0
    exact hj11
set_option maxRecDepth 100000 in
noncomputable def f_Prints_falseCalls (S : MS) (R : MR) (I : MI) (t : Nat) (p1 : Int32) (p2 : Int32) (p3 : Int32) : Option Int32 :=
  bnd1 (f_Prints_placeBehind S R I t p1 p2 p3) fun x1 =>
  ifb (x1 < 0)
    (some (-1))
    (bnd1 (R t 4) fun b4 =>
    asrt ((S b4).1 = 20) <|
    ifb ((Int32.ofNat (S b4).2) ≤ x1)
      (some (-1))
      (asrt (vp_in x1 (S b4).2) <|
      ifb ((I b4 (Int32.toNatClampNeg x1)) = (-1))
        (some (-1))
        (asrt (vp_in x1 (S b4).2) <|
        bnd1 (ifb ((I t 7) = 0)
            (some 0)
            (bnd1 (f_Prints_cellAt S R I t p1) fun x14 =>
            bnd1 (f_Prints_isFalse S R I t ((x14 * 4) + p2) p3) fun x16 =>
            ifb (x16 = 0)
              (some 0)
              (some 1))) fun (y11 : Int32) =>
        lt ((I b4 (Int32.toNatClampNeg x1)) + y11) fun (x19 : Int32) =>
        some x19)))
set_option maxRecDepth 100000 in
set_option maxHeartbeats 4000000 in
theorem c_Prints_falseCalls {E : Env} (hE : OKE E) {tg : Bool} {d : Nat} (hd : 3 ≤ d) {S : MS} {I : MI} {L : ML} {R : MR} {n : Nat} {t : Nat} {p1 : Int32} {p2 : Int32} {p3 : Int32} {v : Int32} (hS : (S t).1 = 7) (h : f_Prints_falseCalls S R I t p1 p2 p3 = some v) : C E y_Prints_falseCalls b_Prints_falseCalls 5 (some .int) tg d 0 0 [.ref (e_b E + t), .int p1, .int p2, .int p3] S I L R n (Kq (some (.int v)) S I L R n) := by
  refine C.of (o := [some (.ref (e_b E + t)), some (.int p1), some (.int p2), some (.int p3), none]) (by decide) rfl (Nat.le_of_ble_eq_true rfl) ?_
  rw [f_Prints_falseCalls] at h
  refine X.aload_0 (pc := 0) (by decide +kernel) ?_
  refine X.iload_1 (pc := 1) (by decide +kernel) ?_
  refine X.iload_2 (pc := 2) (by decide +kernel) ?_
  refine X.iload_3 (pc := 3) (by decide +kernel) ?_
  obtain ⟨x1, hv2, h⟩ := bnd1_some h
  refine X.callVi (pc := 4) (nc := 0) (ns := 0) (c_Prints_placeBehind hE (dle hd (Nat.le_of_ble_eq_true rfl)) hS hv2) cv_Prints_64 (by decide +kernel) hS ⟨by decide, rfl⟩ (ddd hd (Nat.le_of_ble_eq_true rfl)) rfl (Nat.le_of_ble_eq_true rfl) rfl rfl ?_
  refine X.istore_4 (pc := 7) (by decide +kernel) (by decide) rfl ?_
  refine X.iload_4 (pc := 9) (by decide +kernel) ?_
  rcases ifb_some h with ⟨hq3, h⟩ | ⟨hq3, h⟩
  · refine X.if_lt_t (pc := 11) (off := 24) (tgt := 35) hq3 rfl (by decide +kernel) ?_
    refine X.iconst (pc := 35) (i := (-1)) (v := (-1)) ic_m1 (by decide +kernel) ?_
    have j0 := Option.some.inj h
    subst j0
    exact X.ireturn (pc := 36) (by decide +kernel) ⟨_, rfl, rfl⟩ ⟨rfl, rfl, rfl, rfl, rfl, rfl⟩
  · refine X.if_lt_f (pc := 11) (off := 24) (tgt := 35) hq3 rfl (by decide +kernel) ?_
    refine X.iload_4 (pc := 14) (by decide +kernel) ?_
    refine X.aload_0 (pc := 16) (by decide +kernel) ?_
    obtain ⟨b4, hb4, h⟩ := bnd1_some h
    refine X.getR (pc := 17) (k := 4) fw_Prints_19 (by decide +kernel) (fun _ => rfl) hS hb4 ?_
    obtain ⟨hc5, h⟩ := asrt_some h
    refine X.alen (pc := 20) (by decide +kernel) (by rw [hc5]; decide) ?_
    rcases ifb_some h with ⟨hq6, h⟩ | ⟨hq6, h⟩
    · refine X.icmp_ge_t (pc := 21) (off := 14) (tgt := 35) hq6 rfl (by decide +kernel) ?_
      refine X.iconst (pc := 35) (i := (-1)) (v := (-1)) ic_m1 (by decide +kernel) ?_
      have j0 := Option.some.inj h
      subst j0
      exact X.ireturn (pc := 36) (by decide +kernel) ⟨_, rfl, rfl⟩ ⟨rfl, rfl, rfl, rfl, rfl, rfl⟩
    · refine X.icmp_ge_f (pc := 21) (off := 14) (tgt := 35) hq6 rfl (by decide +kernel) ?_
      refine X.aload_0 (pc := 24) (by decide +kernel) ?_
      refine X.getR (pc := 25) (k := 4) fw_Prints_19 (by decide +kernel) (fun _ => rfl) hS hb4 ?_
      refine X.iload_4 (pc := 28) (by decide +kernel) ?_
      obtain ⟨hi7, h⟩ := asrt_some h
      refine X.iaload (pc := 30) (by decide +kernel) hc5 hi7 ?_
      refine X.iconst (pc := 31) (i := (-1)) (v := (-1)) ic_m1 (by decide +kernel) ?_
      rcases ifb_some h with ⟨hq8, h⟩ | ⟨hq8, h⟩
      · refine X.icmp_ne_f (pc := 32) (off := 5) (tgt := 37) hq8 rfl (by decide +kernel) ?_
        refine X.iconst (pc := 35) (i := (-1)) (v := (-1)) ic_m1 (by decide +kernel) ?_
        have j0 := Option.some.inj h
        subst j0
        exact X.ireturn (pc := 36) (by decide +kernel) ⟨_, rfl, rfl⟩ ⟨rfl, rfl, rfl, rfl, rfl, rfl⟩
      · refine X.icmp_ne_t (pc := 32) (off := 5) (tgt := 37) hq8 rfl (by decide +kernel) ?_
        refine X.aload_0 (pc := 37) (by decide +kernel) ?_
        refine X.getR (pc := 38) (k := 4) fw_Prints_19 (by decide +kernel) (fun _ => rfl) hS hb4 ?_
        refine X.iload_4 (pc := 41) (by decide +kernel) ?_
        obtain ⟨hi9, h⟩ := asrt_some h
        refine X.iaload (pc := 43) (by decide +kernel) hc5 hi9 ?_
        refine X.aload_0 (pc := 44) (by decide +kernel) ?_
        refine X.getI (pc := 45) (k := 7) fw_Prints_53 (by decide +kernel) (fun _ => rfl) hS ?_
        obtain ⟨y11, hr12, h⟩ := bnd1_some h
        have hj13 : X E y_Prints_falseCalls b_Prints_falseCalls 5 (some .int) tg d 0 0 73 [none, none, none, none, none] [.int y11, .int (I b4 (Int32.toNatClampNeg x1))] S I L R n (Kq (some (.int v)) S I L R n) := by
          refine X.iadd (pc := 73) (by decide +kernel) ?_
          refine X.nameI (fun x19 hx19 => ?_)
          have h := lt_at hx19 h
          have j0 := Option.some.inj h
          subst j0
          exact X.ireturn (pc := 74) (by decide +kernel) ⟨_, rfl, rfl⟩ ⟨rfl, rfl, rfl, rfl, rfl, rfl⟩
        have h := hr12
        rcases ifb_some h with ⟨hq10, h⟩ | ⟨hq10, h⟩
        · refine X.if_eq_t (pc := 48) (off := 24) (tgt := 72) hq10 rfl (by decide +kernel) ?_
          refine X.iconst (pc := 72) (i := 0) (v := 0) ic_0 (by decide +kernel) ?_
          have j0 := Option.some.inj h
          subst j0
          refine X.fgt (o' := [none, none, none, none, none]) trivial ?_
          exact hj13
        · refine X.if_eq_f (pc := 48) (off := 24) (tgt := 72) hq10 rfl (by decide +kernel) ?_
          refine X.aload_0 (pc := 51) (by decide +kernel) ?_
          refine X.aload_0 (pc := 52) (by decide +kernel) ?_
          refine X.iload_1 (pc := 53) (by decide +kernel) ?_
          obtain ⟨x14, hv15, h⟩ := bnd1_some h
          refine X.callVi (pc := 54) (nc := 0) (ns := 0) (c_Prints_cellAt hE (dle hd (Nat.le_of_ble_eq_true rfl)) hS hv15) cv_Prints_33 (by decide +kernel) hS ⟨by decide, rfl⟩ (ddd hd (Nat.le_of_ble_eq_true rfl)) rfl (Nat.le_of_ble_eq_true rfl) rfl rfl ?_
          refine X.iconst (pc := 57) (i := 4) (v := 4) ic_4 (by decide +kernel) ?_
          refine X.imul (pc := 58) (by decide +kernel) ?_
          refine X.iload_2 (pc := 59) (by decide +kernel) ?_
          refine X.iadd (pc := 60) (by decide +kernel) ?_
          refine X.iload_3 (pc := 61) (by decide +kernel) ?_
          obtain ⟨x16, hv17, h⟩ := bnd1_some h
          refine X.callVi (pc := 62) (nc := 0) (ns := 0) (c_Prints_isFalse hE (dle hd (Nat.le_of_ble_eq_true rfl)) hS hv17) cv_Prints_81 (by decide +kernel) hS ⟨by decide, rfl⟩ (ddd hd (Nat.le_of_ble_eq_true rfl)) rfl (Nat.le_of_ble_eq_true rfl) rfl rfl ?_
          rcases ifb_some h with ⟨hq18, h⟩ | ⟨hq18, h⟩
          · refine X.if_eq_t (pc := 65) (off := 7) (tgt := 72) hq18 rfl (by decide +kernel) ?_
            refine X.iconst (pc := 72) (i := 0) (v := 0) ic_0 (by decide +kernel) ?_
            have j0 := Option.some.inj h
            subst j0
            refine X.fgt (o' := [none, none, none, none, none]) trivial ?_
            exact hj13
          · refine X.if_eq_f (pc := 65) (off := 7) (tgt := 72) hq18 rfl (by decide +kernel) ?_
            refine X.iconst (pc := 68) (i := 1) (v := 1) ic_1 (by decide +kernel) ?_
            refine X.goto (pc := 69) (off := 4) (tgt := 73) (by decide +kernel) rfl ?_
            have j0 := Option.some.inj h
            subst j0
            refine X.fgt (o' := [none, none, none, none, none]) trivial ?_
            exact hj13
set_option maxRecDepth 100000 in
noncomputable def f_Prints_traceOn (S : MS) (R : MR) (I : MI) (L : ML) (t : Nat) (p1 : Int32) (p2 : Int32) (p3 : Int32) : Option (MI × ML) :=
  lt ((p1 * 4) + p2) fun (x1 : Int32) =>
  bnd1 (f_Prints_placeBehind S R I t p1 p2 p3) fun x2 =>
  bnd1 (R t 3) fun b4 =>
  asrt ((S b4).1 = 21) <|
  bnd2 (ifb ((Int32.ofNat (S b4).2) ≤ x1)
      (some (I, L))
      (ifb (x2 < 0)
        (some (I, L))
        (ifb ((Int32.ofNat (S b4).2) ≤ x2)
          (some (I, L))
          (asrt (vp_in x1 (S b4).2) <|
          asrt (vp_in x2 (S b4).2) <|
          lt ((L b4 (Int32.toNatClampNeg x1)) + (L b4 (Int32.toNatClampNeg x2))) fun (x15 : Int64) =>
          asrt (vp_in x1 (S b4).2) <|
          lt (wL L b4 (Int32.toNatClampNeg x1) x15) fun (L17 : ML) =>
          bnd1 (f_Prints_falseCalls S R I t p1 p2 p3) fun x18 =>
          ifb (x18 = (-1))
            (some (I, L17))
            (bnd1 (R t 4) fun b21 =>
            asrt ((S b21).1 = 20) <|
            asrt (vp_in x1 (S b21).2) <|
            ifb ((I b21 (Int32.toNatClampNeg x1)) = (-1))
              (asrt (vp_in x1 (S b21).2) <|
              lt (wI I b21 (Int32.toNatClampNeg x1) x18) fun (I26 : MI) =>
              some (I26, L17))
              (asrt (vp_in x1 (S b21).2) <|
              ifb ((I b21 (Int32.toNatClampNeg x1)) ≤ x18)
                (some (I, L17))
                (asrt (vp_in x1 (S b21).2) <|
                lt (wI I b21 (Int32.toNatClampNeg x1) x18) fun (I30 : MI) =>
                some (I30, L17)))))))) fun (I7 : MI) (L8 : ML) =>
  some (I7, L8)
set_option maxRecDepth 100000 in
set_option maxHeartbeats 4000000 in
theorem c_Prints_traceOn {E : Env} (hE : OKE E) {tg : Bool} {d : Nat} (hd : 4 ≤ d) {S : MS} {I : MI} {L : ML} {R : MR} {n : Nat} {t : Nat} {p1 : Int32} {p2 : Int32} {p3 : Int32} {I' : MI} {L' : ML} (hS : (S t).1 = 7) (h : f_Prints_traceOn S R I L t p1 p2 p3 = some (I', L')) : C E y_Prints_traceOn b_Prints_traceOn 7 none tg d 0 0 [.ref (e_b E + t), .int p1, .int p2, .int p3] S I L R n (Kq none S I' L' R n) := by
  refine C.of (o := [some (.ref (e_b E + t)), some (.int p1), some (.int p2), some (.int p3), none, none, none]) (by decide) rfl (Nat.le_of_ble_eq_true rfl) ?_
  rw [f_Prints_traceOn] at h
  refine X.iload_1 (pc := 0) (by decide +kernel) ?_
  refine X.iconst (pc := 1) (i := 4) (v := 4) ic_4 (by decide +kernel) ?_
  refine X.imul (pc := 2) (by decide +kernel) ?_
  refine X.iload_2 (pc := 3) (by decide +kernel) ?_
  refine X.iadd (pc := 4) (by decide +kernel) ?_
  refine X.nameI (fun x1 hx1 => ?_)
  have h := lt_at hx1 h
  refine X.istore_4 (pc := 5) (by decide +kernel) (by decide) rfl ?_
  refine X.aload_0 (pc := 7) (by decide +kernel) ?_
  refine X.iload_1 (pc := 8) (by decide +kernel) ?_
  refine X.iload_2 (pc := 9) (by decide +kernel) ?_
  refine X.iload_3 (pc := 10) (by decide +kernel) ?_
  obtain ⟨x2, hv3, h⟩ := bnd1_some h
  refine X.callVi (pc := 11) (nc := 0) (ns := 0) (c_Prints_placeBehind hE (dle hd (Nat.le_of_ble_eq_true rfl)) hS hv3) cv_Prints_64 (by decide +kernel) hS ⟨by decide, rfl⟩ (ddd hd (Nat.le_of_ble_eq_true rfl)) rfl (Nat.le_of_ble_eq_true rfl) rfl rfl ?_
  refine X.istore_5 (pc := 14) (by decide +kernel) (by decide) rfl ?_
  refine X.iload_4 (pc := 16) (by decide +kernel) ?_
  refine X.aload_0 (pc := 18) (by decide +kernel) ?_
  obtain ⟨b4, hb4, h⟩ := bnd1_some h
  refine X.getR (pc := 19) (k := 3) fw_Prints_15 (by decide +kernel) (fun _ => rfl) hS hb4 ?_
  obtain ⟨hc5, h⟩ := asrt_some h
  refine X.alen (pc := 22) (by decide +kernel) (by rw [hc5]; decide) ?_
  obtain ⟨I7, L8, hr9, h⟩ := bnd2_some h
  have hj10 : X E y_Prints_traceOn b_Prints_traceOn 7 none tg d 0 0 105 [none, none, none, none, none, none, none] [] S I7 L8 R n (Kq none S I' L' R n) := by
    have j0 := Option.some.inj h
    obtain ⟨i0, j1⟩ := Prod.mk.inj j0
    subst i0
    subst j1
    exact X.vreturn (pc := 105) (by decide +kernel) rfl ⟨rfl, rfl, rfl, rfl, rfl, rfl⟩
  have h := hr9
  rcases ifb_some h with ⟨hq6, h⟩ | ⟨hq6, h⟩
  · refine X.icmp_ge_t (pc := 23) (off := 82) (tgt := 105) hq6 rfl (by decide +kernel) ?_
    have j0 := Option.some.inj h
    obtain ⟨i0, j1⟩ := Prod.mk.inj j0
    subst i0
    subst j1
    refine X.fgt (o' := [none, none, none, none, none, none, none]) trivial ?_
    exact hj10
  · refine X.icmp_ge_f (pc := 23) (off := 82) (tgt := 105) hq6 rfl (by decide +kernel) ?_
    refine X.iload_5 (pc := 26) (by decide +kernel) ?_
    rcases ifb_some h with ⟨hq11, h⟩ | ⟨hq11, h⟩
    · refine X.if_lt_t (pc := 28) (off := 77) (tgt := 105) hq11 rfl (by decide +kernel) ?_
      have j0 := Option.some.inj h
      obtain ⟨i0, j1⟩ := Prod.mk.inj j0
      subst i0
      subst j1
      refine X.fgt (o' := [none, none, none, none, none, none, none]) trivial ?_
      exact hj10
    · refine X.if_lt_f (pc := 28) (off := 77) (tgt := 105) hq11 rfl (by decide +kernel) ?_
      refine X.iload_5 (pc := 31) (by decide +kernel) ?_
      refine X.aload_0 (pc := 33) (by decide +kernel) ?_
      refine X.getR (pc := 34) (k := 3) fw_Prints_15 (by decide +kernel) (fun _ => rfl) hS hb4 ?_
      refine X.alen (pc := 37) (by decide +kernel) (by rw [hc5]; decide) ?_
      rcases ifb_some h with ⟨hq12, h⟩ | ⟨hq12, h⟩
      · refine X.icmp_ge_t (pc := 38) (off := 67) (tgt := 105) hq12 rfl (by decide +kernel) ?_
        have j0 := Option.some.inj h
        obtain ⟨i0, j1⟩ := Prod.mk.inj j0
        subst i0
        subst j1
        refine X.fgt (o' := [none, none, none, none, none, none, none]) trivial ?_
        exact hj10
      · refine X.icmp_ge_f (pc := 38) (off := 67) (tgt := 105) hq12 rfl (by decide +kernel) ?_
        refine X.aload_0 (pc := 41) (by decide +kernel) ?_
        refine X.getR (pc := 42) (k := 3) fw_Prints_15 (by decide +kernel) (fun _ => rfl) hS hb4 ?_
        refine X.iload_4 (pc := 45) (by decide +kernel) ?_
        refine X.dup2ir (pc := 47) (by decide +kernel) ?_
        obtain ⟨hi13, h⟩ := asrt_some h
        refine X.laload (pc := 48) (by decide +kernel) hc5 hi13 ?_
        refine X.aload_0 (pc := 49) (by decide +kernel) ?_
        refine X.getR (pc := 50) (k := 3) fw_Prints_15 (by decide +kernel) (fun _ => rfl) hS hb4 ?_
        refine X.iload_5 (pc := 53) (by decide +kernel) ?_
        obtain ⟨hi14, h⟩ := asrt_some h
        refine X.laload (pc := 55) (by decide +kernel) hc5 hi14 ?_
        refine X.ladd (pc := 56) (by decide +kernel) ?_
        refine X.nameL (fun x15 hx15 => ?_)
        have h := lt_at hx15 h
        obtain ⟨hi16, h⟩ := asrt_some h
        refine X.lastore (pc := 57) (by decide +kernel) hc5 hi16 ?_
        refine X.nameML (fun L17 hL17 => ?_)
        have h := lt_at hL17 h
        refine X.aload_0 (pc := 58) (by decide +kernel) ?_
        refine X.iload_1 (pc := 59) (by decide +kernel) ?_
        refine X.iload_2 (pc := 60) (by decide +kernel) ?_
        refine X.iload_3 (pc := 61) (by decide +kernel) ?_
        obtain ⟨x18, hv19, h⟩ := bnd1_some h
        refine X.callVi (pc := 62) (nc := 0) (ns := 0) (c_Prints_falseCalls hE (dle hd (Nat.le_of_ble_eq_true rfl)) hS hv19) cv_Prints_68 (by decide +kernel) hS ⟨by decide, rfl⟩ (ddd hd (Nat.le_of_ble_eq_true rfl)) rfl (Nat.le_of_ble_eq_true rfl) rfl rfl ?_
        refine X.istore_6 (pc := 65) (by decide +kernel) (by decide) rfl ?_
        refine X.iload_6 (pc := 67) (by decide +kernel) ?_
        refine X.iconst (pc := 69) (i := (-1)) (v := (-1)) ic_m1 (by decide +kernel) ?_
        rcases ifb_some h with ⟨hq20, h⟩ | ⟨hq20, h⟩
        · refine X.icmp_eq_t (pc := 70) (off := 35) (tgt := 105) hq20 rfl (by decide +kernel) ?_
          have j0 := Option.some.inj h
          obtain ⟨i0, j1⟩ := Prod.mk.inj j0
          subst i0
          subst j1
          refine X.fgt (o' := [none, none, none, none, none, none, none]) trivial ?_
          exact hj10
        · refine X.icmp_eq_f (pc := 70) (off := 35) (tgt := 105) hq20 rfl (by decide +kernel) ?_
          refine X.aload_0 (pc := 73) (by decide +kernel) ?_
          obtain ⟨b21, hb21, h⟩ := bnd1_some h
          refine X.getR (pc := 74) (k := 4) fw_Prints_19 (by decide +kernel) (fun _ => rfl) hS hb21 ?_
          refine X.iload_4 (pc := 77) (by decide +kernel) ?_
          obtain ⟨hc23, h⟩ := asrt_some h
          obtain ⟨hi22, h⟩ := asrt_some h
          refine X.iaload (pc := 79) (by decide +kernel) hc23 hi22 ?_
          refine X.iconst (pc := 80) (i := (-1)) (v := (-1)) ic_m1 (by decide +kernel) ?_
          rcases ifb_some h with ⟨hq24, h⟩ | ⟨hq24, h⟩
          · refine X.icmp_eq_t (pc := 81) (off := 15) (tgt := 96) hq24 rfl (by decide +kernel) ?_
            refine X.aload_0 (pc := 96) (by decide +kernel) ?_
            refine X.getR (pc := 97) (k := 4) fw_Prints_19 (by decide +kernel) (fun _ => rfl) hS hb21 ?_
            refine X.iload_4 (pc := 100) (by decide +kernel) ?_
            refine X.iload_6 (pc := 102) (by decide +kernel) ?_
            obtain ⟨hi25, h⟩ := asrt_some h
            refine X.iastore (pc := 104) (by decide +kernel) hc23 hi25 ?_
            refine X.nameMI (fun I26 hI26 => ?_)
            have h := lt_at hI26 h
            have j0 := Option.some.inj h
            obtain ⟨i0, j1⟩ := Prod.mk.inj j0
            subst i0
            subst j1
            refine X.fgt (o' := [none, none, none, none, none, none, none]) trivial ?_
            exact hj10
          · refine X.icmp_eq_f (pc := 81) (off := 15) (tgt := 96) hq24 rfl (by decide +kernel) ?_
            refine X.iload_6 (pc := 84) (by decide +kernel) ?_
            refine X.aload_0 (pc := 86) (by decide +kernel) ?_
            refine X.getR (pc := 87) (k := 4) fw_Prints_19 (by decide +kernel) (fun _ => rfl) hS hb21 ?_
            refine X.iload_4 (pc := 90) (by decide +kernel) ?_
            obtain ⟨hi27, h⟩ := asrt_some h
            refine X.iaload (pc := 92) (by decide +kernel) hc23 hi27 ?_
            rcases ifb_some h with ⟨hq28, h⟩ | ⟨hq28, h⟩
            · refine X.icmp_ge_t (pc := 93) (off := 12) (tgt := 105) hq28 rfl (by decide +kernel) ?_
              have j0 := Option.some.inj h
              obtain ⟨i0, j1⟩ := Prod.mk.inj j0
              subst i0
              subst j1
              refine X.fgt (o' := [none, none, none, none, none, none, none]) trivial ?_
              exact hj10
            · refine X.icmp_ge_f (pc := 93) (off := 12) (tgt := 105) hq28 rfl (by decide +kernel) ?_
              refine X.aload_0 (pc := 96) (by decide +kernel) ?_
              refine X.getR (pc := 97) (k := 4) fw_Prints_19 (by decide +kernel) (fun _ => rfl) hS hb21 ?_
              refine X.iload_4 (pc := 100) (by decide +kernel) ?_
              refine X.iload_6 (pc := 102) (by decide +kernel) ?_
              obtain ⟨hi29, h⟩ := asrt_some h
              refine X.iastore (pc := 104) (by decide +kernel) hc23 hi29 ?_
              refine X.nameMI (fun I30 hI30 => ?_)
              have h := lt_at hI30 h
              have j0 := Option.some.inj h
              obtain ⟨i0, j1⟩ := Prod.mk.inj j0
              subst i0
              subst j1
              refine X.fgt (o' := [none, none, none, none, none, none, none]) trivial ?_
              exact hj10
set_option maxRecDepth 100000 in
noncomputable def l_Prints_trace_89 (S : MS) (R : MR) (v0 : Nat) (v2 : Int32) (v3 : Int32) : Nat → MI → ML → Int32 → Option (MI × ML)
  | 0, _, _, _ => none
  | f + 1, I, L, v4 =>
    ifb (3 ≤ v4)
      (some (I, L))
      (ifb (((I v0 6) - 1) ≤ v2)
        (some (I, L))
        (bnd2 (f_Prints_traceOn S R I L v0 v2 v3 v4) fun I29 L30 =>
        l_Prints_trace_89 S R v0 v2 v3 f I29 L30 (v4 + 1)))
set_option maxRecDepth 100000 in
set_option maxHeartbeats 4000000 in
theorem xl_Prints_trace_89 {E : Env} (hE : OKE E) {tg : Bool} {d : Nat} (hd : 5 ≤ d) {S : MS} {R : MR} {n : Nat} {v0 : Nat} {v2 : Int32} {v3 : Int32} {K : KT} :
    ∀ {f : Nat} {I : MI} {L : ML} {v4 : Int32} {I' : MI} {L' : ML}, (S v0).1 = 7 → l_Prints_trace_89 S R v0 v2 v3 f I L v4 = some (I', L') → X E y_Prints_trace b_Prints_trace 5 none tg d 0 0 119 [some (.ref (e_b E + v0)), none, some (.int v2), some (.int v3), none] [] S I' L' R n K → X E y_Prints_trace b_Prints_trace 5 none tg d 0 0 89 [some (.ref (e_b E + v0)), none, some (.int v2), some (.int v3), some (.int v4)] [] S I L R n K := by
  intro f
  induction f with
  | zero =>
    intro I L v4 I' L' hS h hk
    rw [l_Prints_trace_89] at h
    cases h
  | succ f ih =>
    intro I L v4 I' L' hS h hk
    rw [l_Prints_trace_89] at h
    refine X.iload_4 (pc := 89) (by decide +kernel) ?_
    refine X.iconst (pc := 91) (i := 3) (v := 3) ic_3 (by decide +kernel) ?_
    rcases ifb_some h with ⟨hq27, h⟩ | ⟨hq27, h⟩
    · refine X.icmp_ge_t (pc := 92) (off := 27) (tgt := 119) hq27 rfl (by decide +kernel) ?_
      have j0 := Option.some.inj h
      obtain ⟨i0, j1⟩ := Prod.mk.inj j0
      subst i0
      subst j1
      refine X.fgt (o' := [some (.ref (e_b E + v0)), none, some (.int v2), some (.int v3), none]) ⟨rfl, ⟨rfl, ⟨rfl, trivial⟩⟩⟩ ?_
      exact hk
    · refine X.icmp_ge_f (pc := 92) (off := 27) (tgt := 119) hq27 rfl (by decide +kernel) ?_
      refine X.iload_2 (pc := 95) (by decide +kernel) ?_
      refine X.aload_0 (pc := 96) (by decide +kernel) ?_
      refine X.getI (pc := 97) (k := 6) fw_Prints_29 (by decide +kernel) (fun _ => rfl) hS ?_
      refine X.iconst (pc := 100) (i := 1) (v := 1) ic_1 (by decide +kernel) ?_
      refine X.isub (pc := 101) (by decide +kernel) ?_
      rcases ifb_some h with ⟨hq28, h⟩ | ⟨hq28, h⟩
      · refine X.icmp_ge_t (pc := 102) (off := 17) (tgt := 119) hq28 rfl (by decide +kernel) ?_
        have j0 := Option.some.inj h
        obtain ⟨i0, j1⟩ := Prod.mk.inj j0
        subst i0
        subst j1
        refine X.fgt (o' := [some (.ref (e_b E + v0)), none, some (.int v2), some (.int v3), none]) ⟨rfl, ⟨rfl, ⟨rfl, trivial⟩⟩⟩ ?_
        exact hk
      · refine X.icmp_ge_f (pc := 102) (off := 17) (tgt := 119) hq28 rfl (by decide +kernel) ?_
        refine X.aload_0 (pc := 105) (by decide +kernel) ?_
        refine X.iload_2 (pc := 106) (by decide +kernel) ?_
        refine X.iload_3 (pc := 107) (by decide +kernel) ?_
        refine X.iload_4 (pc := 108) (by decide +kernel) ?_
        obtain ⟨I29, L30, hv31, h⟩ := bnd2_some h
        refine X.callVv (pc := 110) (nc := 0) (ns := 0) (c_Prints_traceOn hE (dle hd (Nat.le_of_ble_eq_true rfl)) hS hv31) cv_Prints_60 (by decide +kernel) hS ⟨by decide, rfl⟩ (ddd hd (Nat.le_of_ble_eq_true rfl)) rfl (Nat.le_of_ble_eq_true rfl) rfl rfl ?_
        refine X.iinc_4 (pc := 113) (z := 1) (v := 1) ic_1 (by decide +kernel) (by decide) rfl ?_
        refine X.goto (pc := 116) (off := (-27)) (tgt := 89) (by decide +kernel) rfl ?_
        exact ih hS h hk
set_option maxRecDepth 100000 in
noncomputable def l_Prints_trace_31 (g : Nat) (S : MS) (R : MR) (v0 : Nat) (v2 : Int32) : Nat → MI → ML → Int32 → Option (MI × ML)
  | 0, _, _, _ => none
  | f + 1, I, L, v3 =>
    ifb (4 ≤ v3)
      (some (I, L))
      (bnd1 (R v0 3) fun b11 =>
      bnd1 (ifb (v2 = ((I v0 6) - 1))
          (some 1)
          (some 0)) fun (y13 : Int64) =>
      asrt ((S b11).1 = 21) <|
      asrt (vp_in ((v2 * 4) + v3) (S b11).2) <|
      lt (wL L b11 (Int32.toNatClampNeg ((v2 * 4) + v3)) y13) fun (L18 : ML) =>
      bnd1 (R v0 4) fun b19 =>
      bnd1 (ifb (v2 = ((I v0 6) - 1))
          (some 0)
          (some (-1))) fun (y21 : Int32) =>
      asrt ((S b19).1 = 20) <|
      asrt (vp_in ((v2 * 4) + v3) (S b19).2) <|
      lt (wI I b19 (Int32.toNatClampNeg ((v2 * 4) + v3)) y21) fun (I26 : MI) =>
      bnd2 (l_Prints_trace_89 S R v0 v2 v3 g I26 L18 0) fun I32 L33 =>
      l_Prints_trace_31 g S R v0 v2 f I32 L33 (v3 + 1))
set_option maxRecDepth 100000 in
set_option maxHeartbeats 4000000 in
theorem xl_Prints_trace_31 {E : Env} (hE : OKE E) {tg : Bool} {d : Nat} (hd : 5 ≤ d) {g : Nat} {S : MS} {R : MR} {n : Nat} {v0 : Nat} {v2 : Int32} {K : KT} :
    ∀ {f : Nat} {I : MI} {L : ML} {v3 : Int32} {I' : MI} {L' : ML}, (S v0).1 = 7 → l_Prints_trace_31 g S R v0 v2 f I L v3 = some (I', L') → X E y_Prints_trace b_Prints_trace 5 none tg d 0 0 125 [some (.ref (e_b E + v0)), none, some (.int v2), none, none] [] S I' L' R n K → X E y_Prints_trace b_Prints_trace 5 none tg d 0 0 31 [some (.ref (e_b E + v0)), none, some (.int v2), some (.int v3), none] [] S I L R n K := by
  intro f
  induction f with
  | zero =>
    intro I L v3 I' L' hS h hk
    rw [l_Prints_trace_31] at h
    cases h
  | succ f ih =>
    intro I L v3 I' L' hS h hk
    rw [l_Prints_trace_31] at h
    refine X.iload_3 (pc := 31) (by decide +kernel) ?_
    refine X.iconst (pc := 32) (i := 4) (v := 4) ic_4 (by decide +kernel) ?_
    rcases ifb_some h with ⟨hq10, h⟩ | ⟨hq10, h⟩
    · refine X.icmp_ge_t (pc := 33) (off := 92) (tgt := 125) hq10 rfl (by decide +kernel) ?_
      have j0 := Option.some.inj h
      obtain ⟨i0, j1⟩ := Prod.mk.inj j0
      subst i0
      subst j1
      refine X.fgt (o' := [some (.ref (e_b E + v0)), none, some (.int v2), none, none]) ⟨rfl, ⟨rfl, trivial⟩⟩ ?_
      exact hk
    · refine X.icmp_ge_f (pc := 33) (off := 92) (tgt := 125) hq10 rfl (by decide +kernel) ?_
      refine X.aload_0 (pc := 36) (by decide +kernel) ?_
      obtain ⟨b11, hb11, h⟩ := bnd1_some h
      refine X.getR (pc := 37) (k := 3) fw_Prints_15 (by decide +kernel) (fun _ => rfl) hS hb11 ?_
      refine X.iload_2 (pc := 40) (by decide +kernel) ?_
      refine X.iconst (pc := 41) (i := 4) (v := 4) ic_4 (by decide +kernel) ?_
      refine X.imul (pc := 42) (by decide +kernel) ?_
      refine X.iload_3 (pc := 43) (by decide +kernel) ?_
      refine X.iadd (pc := 44) (by decide +kernel) ?_
      refine X.iload_2 (pc := 45) (by decide +kernel) ?_
      refine X.aload_0 (pc := 46) (by decide +kernel) ?_
      refine X.getI (pc := 47) (k := 6) fw_Prints_29 (by decide +kernel) (fun _ => rfl) hS ?_
      refine X.iconst (pc := 50) (i := 1) (v := 1) ic_1 (by decide +kernel) ?_
      refine X.isub (pc := 51) (by decide +kernel) ?_
      obtain ⟨y13, hr14, h⟩ := bnd1_some h
      have hj15 : X E y_Prints_trace b_Prints_trace 5 none tg d 0 0 60 [some (.ref (e_b E + v0)), none, some (.int v2), some (.int v3), none] [.long y13, .int ((v2 * 4) + v3), .ref (e_b E + b11)] S I L R n K := by
        obtain ⟨hc16, h⟩ := asrt_some h
        obtain ⟨hi17, h⟩ := asrt_some h
        refine X.lastore (pc := 60) (by decide +kernel) hc16 hi17 ?_
        refine X.nameML (fun L18 hL18 => ?_)
        have h := lt_at hL18 h
        refine X.aload_0 (pc := 61) (by decide +kernel) ?_
        obtain ⟨b19, hb19, h⟩ := bnd1_some h
        refine X.getR (pc := 62) (k := 4) fw_Prints_19 (by decide +kernel) (fun _ => rfl) hS hb19 ?_
        refine X.iload_2 (pc := 65) (by decide +kernel) ?_
        refine X.iconst (pc := 66) (i := 4) (v := 4) ic_4 (by decide +kernel) ?_
        refine X.imul (pc := 67) (by decide +kernel) ?_
        refine X.iload_3 (pc := 68) (by decide +kernel) ?_
        refine X.iadd (pc := 69) (by decide +kernel) ?_
        refine X.iload_2 (pc := 70) (by decide +kernel) ?_
        refine X.aload_0 (pc := 71) (by decide +kernel) ?_
        refine X.getI (pc := 72) (k := 6) fw_Prints_29 (by decide +kernel) (fun _ => rfl) hS ?_
        refine X.iconst (pc := 75) (i := 1) (v := 1) ic_1 (by decide +kernel) ?_
        refine X.isub (pc := 76) (by decide +kernel) ?_
        obtain ⟨y21, hr22, h⟩ := bnd1_some h
        have hj23 : X E y_Prints_trace b_Prints_trace 5 none tg d 0 0 85 [some (.ref (e_b E + v0)), none, some (.int v2), some (.int v3), none] [.int y21, .int ((v2 * 4) + v3), .ref (e_b E + b19)] S I L18 R n K := by
          obtain ⟨hc24, h⟩ := asrt_some h
          obtain ⟨hi25, h⟩ := asrt_some h
          refine X.iastore (pc := 85) (by decide +kernel) hc24 hi25 ?_
          refine X.nameMI (fun I26 hI26 => ?_)
          have h := lt_at hI26 h
          refine X.iconst (pc := 86) (i := 0) (v := 0) ic_0 (by decide +kernel) ?_
          refine X.istore_4 (pc := 87) (by decide +kernel) (by decide) rfl ?_
          obtain ⟨I32, L33, hv34, h⟩ := bnd2_some h
          refine xl_Prints_trace_89 hE hd hS hv34 ?_
          refine X.iinc_3 (pc := 119) (z := 1) (v := 1) ic_1 (by decide +kernel) (by decide) rfl ?_
          refine X.goto (pc := 122) (off := (-91)) (tgt := 31) (by decide +kernel) rfl ?_
          exact ih hS h hk
        have h := hr22
        rcases ifb_some h with ⟨hq20, h⟩ | ⟨hq20, h⟩
        · refine X.icmp_ne_f (pc := 77) (off := 7) (tgt := 84) hq20 rfl (by decide +kernel) ?_
          refine X.iconst (pc := 80) (i := 0) (v := 0) ic_0 (by decide +kernel) ?_
          refine X.goto (pc := 81) (off := 4) (tgt := 85) (by decide +kernel) rfl ?_
          have j0 := Option.some.inj h
          subst j0
          exact hj23
        · refine X.icmp_ne_t (pc := 77) (off := 7) (tgt := 84) hq20 rfl (by decide +kernel) ?_
          refine X.iconst (pc := 84) (i := (-1)) (v := (-1)) ic_m1 (by decide +kernel) ?_
          have j0 := Option.some.inj h
          subst j0
          exact hj23
      have h := hr14
      rcases ifb_some h with ⟨hq12, h⟩ | ⟨hq12, h⟩
      · refine X.icmp_ne_f (pc := 52) (off := 7) (tgt := 59) hq12 rfl (by decide +kernel) ?_
        refine X.lconst (pc := 55) (i := 1) (v := 1) rfl (by decide +kernel) ?_
        refine X.goto (pc := 56) (off := 4) (tgt := 60) (by decide +kernel) rfl ?_
        have j0 := Option.some.inj h
        subst j0
        exact hj15
      · refine X.icmp_ne_t (pc := 52) (off := 7) (tgt := 59) hq12 rfl (by decide +kernel) ?_
        refine X.lconst (pc := 59) (i := 0) (v := 0) rfl (by decide +kernel) ?_
        have j0 := Option.some.inj h
        subst j0
        exact hj15
set_option maxRecDepth 100000 in
noncomputable def l_Prints_trace_19 (g : Nat) (S : MS) (R : MR) (v0 : Nat) : Nat → MI → ML → Int32 → Option (MI × ML)
  | 0, _, _, _ => none
  | f + 1, I, L, v2 =>
    ifb (v2 < 0)
      (some (I, L))
      (ifb (12 ≤ v2)
        (some (I, L))
        (bnd2 (l_Prints_trace_31 g S R v0 v2 g I L 0) fun I35 L36 =>
        l_Prints_trace_19 g S R v0 f I35 L36 (v2 + (-1))))
set_option maxRecDepth 100000 in
set_option maxHeartbeats 4000000 in
theorem xl_Prints_trace_19 {E : Env} (hE : OKE E) {tg : Bool} {d : Nat} (hd : 5 ≤ d) {g : Nat} {S : MS} {R : MR} {n : Nat} {v0 : Nat} {K : KT} :
    ∀ {f : Nat} {I : MI} {L : ML} {v2 : Int32} {I' : MI} {L' : ML}, (S v0).1 = 7 → l_Prints_trace_19 g S R v0 f I L v2 = some (I', L') → X E y_Prints_trace b_Prints_trace 5 none tg d 0 0 131 [none, none, none, none, none] [] S I' L' R n K → X E y_Prints_trace b_Prints_trace 5 none tg d 0 0 19 [some (.ref (e_b E + v0)), none, some (.int v2), none, none] [] S I L R n K := by
  intro f
  induction f with
  | zero =>
    intro I L v2 I' L' hS h hk
    rw [l_Prints_trace_19] at h
    cases h
  | succ f ih =>
    intro I L v2 I' L' hS h hk
    rw [l_Prints_trace_19] at h
    refine X.iload_2 (pc := 19) (by decide +kernel) ?_
    rcases ifb_some h with ⟨hq8, h⟩ | ⟨hq8, h⟩
    · refine X.if_lt_t (pc := 20) (off := 111) (tgt := 131) hq8 rfl (by decide +kernel) ?_
      have j0 := Option.some.inj h
      obtain ⟨i0, j1⟩ := Prod.mk.inj j0
      subst i0
      subst j1
      refine X.fgt (o' := [none, none, none, none, none]) trivial ?_
      exact hk
    · refine X.if_lt_f (pc := 20) (off := 111) (tgt := 131) hq8 rfl (by decide +kernel) ?_
      refine X.iload_2 (pc := 23) (by decide +kernel) ?_
      refine X.bipush (pc := 24) (i := 12) (v := 12) bp_12 (by decide +kernel) ?_
      rcases ifb_some h with ⟨hq9, h⟩ | ⟨hq9, h⟩
      · refine X.icmp_ge_t (pc := 26) (off := 105) (tgt := 131) hq9 rfl (by decide +kernel) ?_
        have j0 := Option.some.inj h
        obtain ⟨i0, j1⟩ := Prod.mk.inj j0
        subst i0
        subst j1
        refine X.fgt (o' := [none, none, none, none, none]) trivial ?_
        exact hk
      · refine X.icmp_ge_f (pc := 26) (off := 105) (tgt := 131) hq9 rfl (by decide +kernel) ?_
        refine X.iconst (pc := 29) (i := 0) (v := 0) ic_0 (by decide +kernel) ?_
        refine X.istore_3 (pc := 30) (by decide +kernel) (by decide) rfl ?_
        obtain ⟨I35, L36, hv37, h⟩ := bnd2_some h
        refine xl_Prints_trace_31 hE hd hS hv37 ?_
        refine X.iinc_2 (pc := 125) (z := (-1)) (v := (-1)) ic_m1 (by decide +kernel) (by decide) rfl ?_
        refine X.goto (pc := 128) (off := (-109)) (tgt := 19) (by decide +kernel) rfl ?_
        exact ih hS h hk
set_option maxRecDepth 100000 in
noncomputable def f_Prints_trace (g : Nat) (S : MS) (R : MR) (I : MI) (L : ML) (t : Nat) (p1 : Int32) : Option (MI × ML) :=
  asrt (p1 = 0 ∨ p1 = 1) <|
  lt (wI I t 7 p1) fun (I2 : MI) =>
  bnd1 (R t 0) fun b3 =>
  asrt ((S b3).1 = 2) <|
  bnd1 (f_Land_measure g S R I2 b3) fun I5 =>
  lt ((I5 t 6) - 1) fun (x7 : Int32) =>
  bnd2 (l_Prints_trace_19 g S R t g I5 L x7) fun I38 L39 =>
  some (I38, L39)
set_option maxRecDepth 100000 in
set_option maxHeartbeats 4000000 in
theorem c_Prints_trace {E : Env} (hE : OKE E) {tg : Bool} {d : Nat} (hd : 5 ≤ d) {g : Nat} {S : MS} {I : MI} {L : ML} {R : MR} {n : Nat} {t : Nat} {p1 : Int32} {I' : MI} {L' : ML} (hS : (S t).1 = 7) (h : f_Prints_trace g S R I L t p1 = some (I', L')) : C E y_Prints_trace b_Prints_trace 5 none tg d 0 0 [.ref (e_b E + t), .int p1] S I L R n (Kq none S I' L' R n) := by
  refine C.of (o := [some (.ref (e_b E + t)), some (.int p1), none, none, none]) (by decide) rfl (Nat.le_of_ble_eq_true rfl) ?_
  rw [f_Prints_trace] at h
  refine X.aload_0 (pc := 0) (by decide +kernel) ?_
  refine X.iload_1 (pc := 1) (by decide +kernel) ?_
  obtain ⟨hb1, h⟩ := asrt_some h
  refine X.putZ (pc := 2) (k := 7) fw_Prints_53 (by decide +kernel) rfl rfl hS hb1 ?_
  refine X.nameMI (fun I2 hI2 => ?_)
  have h := lt_at hI2 h
  refine X.aload_0 (pc := 5) (by decide +kernel) ?_
  obtain ⟨b3, hb3, h⟩ := bnd1_some h
  refine X.getR (pc := 6) (k := 0) fw_Prints_22 (by decide +kernel) (fun _ => rfl) hS hb3 ?_
  obtain ⟨hc4, h⟩ := asrt_some h
  obtain ⟨I5, hv6, h⟩ := bnd1_some h
  refine X.callVv (pc := 9) (nc := 0) (ns := 0) (c_Land_measure hE (dle hd (Nat.le_of_ble_eq_true rfl)) hc4 hv6) cv_Prints_57 (by decide +kernel) hc4 ⟨by decide, rfl⟩ (ddd hd (Nat.le_of_ble_eq_true rfl)) rfl (Nat.le_of_ble_eq_true rfl) rfl rfl ?_
  refine X.aload_0 (pc := 12) (by decide +kernel) ?_
  refine X.getI (pc := 13) (k := 6) fw_Prints_29 (by decide +kernel) (fun _ => rfl) hS ?_
  refine X.iconst (pc := 16) (i := 1) (v := 1) ic_1 (by decide +kernel) ?_
  refine X.isub (pc := 17) (by decide +kernel) ?_
  refine X.nameI (fun x7 hx7 => ?_)
  have h := lt_at hx7 h
  refine X.istore_2 (pc := 18) (by decide +kernel) (by decide) rfl ?_
  obtain ⟨I38, L39, hv40, h⟩ := bnd2_some h
  refine X.fgt (o' := [some (.ref (e_b E + t)), none, some (.int x7), none, none]) ⟨rfl, ⟨rfl, trivial⟩⟩ ?_
  refine xl_Prints_trace_19 hE hd hS hv40 ?_
  have j0 := Option.some.inj h
  obtain ⟨i0, j1⟩ := Prod.mk.inj j0
  subst i0
  subst j1
  exact X.vreturn (pc := 131) (by decide +kernel) rfl ⟨rfl, rfl, rfl, rfl, rfl, rfl⟩
set_option maxRecDepth 100000 in
noncomputable def f_Prints_fewestFalse (S : MS) (R : MR) (I : MI) (t : Nat) : Option Int32 :=
  bnd1 (ifb ((I t 5) < 0)
      (some (-1))
      (ifb (4 ≤ (I t 5))
        (some (-1))
        (bnd1 (R t 4) fun b6 =>
        lt (I t 5) fun (x7 : Int32) =>
        asrt ((S b6).1 = 20) <|
        asrt (vp_in x7 (S b6).2) <|
        some (I b6 (Int32.toNatClampNeg x7))))) fun (y2 : Int32) =>
  some y2
set_option maxRecDepth 100000 in
set_option maxHeartbeats 4000000 in
theorem c_Prints_fewestFalse {E : Env} (hE : OKE E) {tg : Bool} {d : Nat} (hd : 0 ≤ d) {S : MS} {I : MI} {L : ML} {R : MR} {n : Nat} {t : Nat} {v : Int32} (hS : (S t).1 = 7) (h : f_Prints_fewestFalse S R I t = some v) : C E y_Prints_fewestFalse b_Prints_fewestFalse 1 (some .int) tg d 0 0 [.ref (e_b E + t)] S I L R n (Kq (some (.int v)) S I L R n) := by
  refine C.of (o := [some (.ref (e_b E + t))]) (by decide) rfl (Nat.le_of_ble_eq_true rfl) ?_
  rw [f_Prints_fewestFalse] at h
  refine X.aload_0 (pc := 0) (by decide +kernel) ?_
  refine X.getI (pc := 1) (k := 5) fw_Prints_47 (by decide +kernel) (fun _ => rfl) hS ?_
  obtain ⟨y2, hr3, h⟩ := bnd1_some h
  have hj4 : X E y_Prints_fewestFalse b_Prints_fewestFalse 1 (some .int) tg d 0 0 28 [none] [.int y2] S I L R n (Kq (some (.int v)) S I L R n) := by
    have j0 := Option.some.inj h
    subst j0
    exact X.ireturn (pc := 28) (by decide +kernel) ⟨_, rfl, rfl⟩ ⟨rfl, rfl, rfl, rfl, rfl, rfl⟩
  have h := hr3
  rcases ifb_some h with ⟨hq1, h⟩ | ⟨hq1, h⟩
  · refine X.if_lt_t (pc := 4) (off := 23) (tgt := 27) hq1 rfl (by decide +kernel) ?_
    refine X.iconst (pc := 27) (i := (-1)) (v := (-1)) ic_m1 (by decide +kernel) ?_
    have j0 := Option.some.inj h
    subst j0
    refine X.fgt (o' := [none]) trivial ?_
    exact hj4
  · refine X.if_lt_f (pc := 4) (off := 23) (tgt := 27) hq1 rfl (by decide +kernel) ?_
    refine X.aload_0 (pc := 7) (by decide +kernel) ?_
    refine X.getI (pc := 8) (k := 5) fw_Prints_47 (by decide +kernel) (fun _ => rfl) hS ?_
    refine X.iconst (pc := 11) (i := 4) (v := 4) ic_4 (by decide +kernel) ?_
    rcases ifb_some h with ⟨hq5, h⟩ | ⟨hq5, h⟩
    · refine X.icmp_ge_t (pc := 12) (off := 15) (tgt := 27) hq5 rfl (by decide +kernel) ?_
      refine X.iconst (pc := 27) (i := (-1)) (v := (-1)) ic_m1 (by decide +kernel) ?_
      have j0 := Option.some.inj h
      subst j0
      refine X.fgt (o' := [none]) trivial ?_
      exact hj4
    · refine X.icmp_ge_f (pc := 12) (off := 15) (tgt := 27) hq5 rfl (by decide +kernel) ?_
      refine X.aload_0 (pc := 15) (by decide +kernel) ?_
      obtain ⟨b6, hb6, h⟩ := bnd1_some h
      refine X.getR (pc := 16) (k := 4) fw_Prints_19 (by decide +kernel) (fun _ => rfl) hS hb6 ?_
      refine X.aload_0 (pc := 19) (by decide +kernel) ?_
      refine X.getI (pc := 20) (k := 5) fw_Prints_47 (by decide +kernel) (fun _ => rfl) hS ?_
      refine X.nameI (fun x7 hx7 => ?_)
      have h := lt_at hx7 h
      obtain ⟨hc9, h⟩ := asrt_some h
      obtain ⟨hi8, h⟩ := asrt_some h
      refine X.iaload (pc := 23) (by decide +kernel) hc9 hi8 ?_
      refine X.goto (pc := 24) (off := 4) (tgt := 28) (by decide +kernel) rfl ?_
      have j0 := Option.some.inj h
      subst j0
      refine X.fgt (o' := [none]) trivial ?_
      exact hj4
set_option maxRecDepth 100000 in
noncomputable def l_Prints_leastTurn_9 (S : MS) (R : MR) (I : MI) (v0 : Nat) (v1 : Int32) (v2 : Int32) (v3 : Int32) : Nat → Int32 → Option Int32
  | 0, _ => none
  | f + 1, v4 =>
    ifb (3 ≤ v4)
      (some 0)
      (bnd1 (f_Prints_falseCalls S R I v0 v1 v2 v4) fun x3 =>
      ifb (x3 = (-1))
        (l_Prints_leastTurn_9 S R I v0 v1 v2 v3 f (v4 + 1))
        (ifb (v3 < 0)
          (l_Prints_leastTurn_9 S R I v0 v1 v2 v3 f (v4 + 1))
          (bnd1 (R v0 4) fun b7 =>
          asrt ((S b7).1 = 20) <|
          ifb ((Int32.ofNat (S b7).2) ≤ v3)
            (l_Prints_leastTurn_9 S R I v0 v1 v2 v3 f (v4 + 1))
            (asrt (vp_in v3 (S b7).2) <|
            ifb (x3 = (I b7 (Int32.toNatClampNeg v3)))
              (some v4)
              (l_Prints_leastTurn_9 S R I v0 v1 v2 v3 f (v4 + 1))))))
set_option maxRecDepth 100000 in
set_option maxHeartbeats 4000000 in
theorem xl_Prints_leastTurn_9 {E : Env} (hE : OKE E) {tg : Bool} {d : Nat} (hd : 4 ≤ d) {S : MS} {I : MI} {L : ML} {R : MR} {n : Nat} {v0 : Nat} {v1 : Int32} {v2 : Int32} {v3 : Int32} :
    ∀ {f : Nat}  {v4 : Int32} {v : Int32}, (S v0).1 = 7 → l_Prints_leastTurn_9 S R I v0 v1 v2 v3 f v4 = some v → X E y_Prints_leastTurn b_Prints_leastTurn 6 (some .int) tg d 0 0 9 [some (.ref (e_b E + v0)), some (.int v1), some (.int v2), some (.int v3), some (.int v4), none] [] S I L R n (Kq (some (.int v)) S I L R n) := by
  intro f
  induction f with
  | zero =>
    intro v4 v hS h
    rw [l_Prints_leastTurn_9] at h
    cases h
  | succ f ih =>
    intro v4 v hS h
    rw [l_Prints_leastTurn_9] at h
    refine X.iload_4 (pc := 9) (by decide +kernel) ?_
    refine X.iconst (pc := 11) (i := 3) (v := 3) ic_3 (by decide +kernel) ?_
    rcases ifb_some h with ⟨hq2, h⟩ | ⟨hq2, h⟩
    · refine X.icmp_ge_t (pc := 12) (off := 52) (tgt := 64) hq2 rfl (by decide +kernel) ?_
      refine X.iconst (pc := 64) (i := 0) (v := 0) ic_0 (by decide +kernel) ?_
      have j0 := Option.some.inj h
      subst j0
      exact X.ireturn (pc := 65) (by decide +kernel) ⟨_, rfl, rfl⟩ ⟨rfl, rfl, rfl, rfl, rfl, rfl⟩
    · refine X.icmp_ge_f (pc := 12) (off := 52) (tgt := 64) hq2 rfl (by decide +kernel) ?_
      refine X.aload_0 (pc := 15) (by decide +kernel) ?_
      refine X.iload_1 (pc := 16) (by decide +kernel) ?_
      refine X.iload_2 (pc := 17) (by decide +kernel) ?_
      refine X.iload_4 (pc := 18) (by decide +kernel) ?_
      obtain ⟨x3, hv4, h⟩ := bnd1_some h
      refine X.callVi (pc := 20) (nc := 0) (ns := 0) (c_Prints_falseCalls hE (dle hd (Nat.le_of_ble_eq_true rfl)) hS hv4) cv_Prints_68 (by decide +kernel) hS ⟨by decide, rfl⟩ (ddd hd (Nat.le_of_ble_eq_true rfl)) rfl (Nat.le_of_ble_eq_true rfl) rfl rfl ?_
      refine X.istore_5 (pc := 23) (by decide +kernel) (by decide) rfl ?_
      refine X.iload_5 (pc := 25) (by decide +kernel) ?_
      refine X.iconst (pc := 27) (i := (-1)) (v := (-1)) ic_m1 (by decide +kernel) ?_
      rcases ifb_some h with ⟨hq5, h⟩ | ⟨hq5, h⟩
      · refine X.icmp_eq_t (pc := 28) (off := 30) (tgt := 58) hq5 rfl (by decide +kernel) ?_
        refine X.iinc_4 (pc := 58) (z := 1) (v := 1) ic_1 (by decide +kernel) (by decide) rfl ?_
        refine X.goto (pc := 61) (off := (-52)) (tgt := 9) (by decide +kernel) rfl ?_
        refine X.fgt (o' := [some (.ref (e_b E + v0)), some (.int v1), some (.int v2), some (.int v3), some (.int (v4 + 1)), none]) ⟨rfl, ⟨rfl, ⟨rfl, ⟨rfl, ⟨rfl, trivial⟩⟩⟩⟩⟩ ?_
        exact ih hS h
      · refine X.icmp_eq_f (pc := 28) (off := 30) (tgt := 58) hq5 rfl (by decide +kernel) ?_
        refine X.iload_3 (pc := 31) (by decide +kernel) ?_
        rcases ifb_some h with ⟨hq6, h⟩ | ⟨hq6, h⟩
        · refine X.if_lt_t (pc := 32) (off := 26) (tgt := 58) hq6 rfl (by decide +kernel) ?_
          refine X.iinc_4 (pc := 58) (z := 1) (v := 1) ic_1 (by decide +kernel) (by decide) rfl ?_
          refine X.goto (pc := 61) (off := (-52)) (tgt := 9) (by decide +kernel) rfl ?_
          refine X.fgt (o' := [some (.ref (e_b E + v0)), some (.int v1), some (.int v2), some (.int v3), some (.int (v4 + 1)), none]) ⟨rfl, ⟨rfl, ⟨rfl, ⟨rfl, ⟨rfl, trivial⟩⟩⟩⟩⟩ ?_
          exact ih hS h
        · refine X.if_lt_f (pc := 32) (off := 26) (tgt := 58) hq6 rfl (by decide +kernel) ?_
          refine X.iload_3 (pc := 35) (by decide +kernel) ?_
          refine X.aload_0 (pc := 36) (by decide +kernel) ?_
          obtain ⟨b7, hb7, h⟩ := bnd1_some h
          refine X.getR (pc := 37) (k := 4) fw_Prints_19 (by decide +kernel) (fun _ => rfl) hS hb7 ?_
          obtain ⟨hc8, h⟩ := asrt_some h
          refine X.alen (pc := 40) (by decide +kernel) (by rw [hc8]; decide) ?_
          rcases ifb_some h with ⟨hq9, h⟩ | ⟨hq9, h⟩
          · refine X.icmp_ge_t (pc := 41) (off := 17) (tgt := 58) hq9 rfl (by decide +kernel) ?_
            refine X.iinc_4 (pc := 58) (z := 1) (v := 1) ic_1 (by decide +kernel) (by decide) rfl ?_
            refine X.goto (pc := 61) (off := (-52)) (tgt := 9) (by decide +kernel) rfl ?_
            refine X.fgt (o' := [some (.ref (e_b E + v0)), some (.int v1), some (.int v2), some (.int v3), some (.int (v4 + 1)), none]) ⟨rfl, ⟨rfl, ⟨rfl, ⟨rfl, ⟨rfl, trivial⟩⟩⟩⟩⟩ ?_
            exact ih hS h
          · refine X.icmp_ge_f (pc := 41) (off := 17) (tgt := 58) hq9 rfl (by decide +kernel) ?_
            refine X.iload_5 (pc := 44) (by decide +kernel) ?_
            refine X.aload_0 (pc := 46) (by decide +kernel) ?_
            refine X.getR (pc := 47) (k := 4) fw_Prints_19 (by decide +kernel) (fun _ => rfl) hS hb7 ?_
            refine X.iload_3 (pc := 50) (by decide +kernel) ?_
            obtain ⟨hi10, h⟩ := asrt_some h
            refine X.iaload (pc := 51) (by decide +kernel) hc8 hi10 ?_
            rcases ifb_some h with ⟨hq11, h⟩ | ⟨hq11, h⟩
            · refine X.icmp_ne_f (pc := 52) (off := 6) (tgt := 58) hq11 rfl (by decide +kernel) ?_
              refine X.iload_4 (pc := 55) (by decide +kernel) ?_
              have j0 := Option.some.inj h
              subst j0
              exact X.ireturn (pc := 57) (by decide +kernel) ⟨_, rfl, rfl⟩ ⟨rfl, rfl, rfl, rfl, rfl, rfl⟩
            · refine X.icmp_ne_t (pc := 52) (off := 6) (tgt := 58) hq11 rfl (by decide +kernel) ?_
              refine X.iinc_4 (pc := 58) (z := 1) (v := 1) ic_1 (by decide +kernel) (by decide) rfl ?_
              refine X.goto (pc := 61) (off := (-52)) (tgt := 9) (by decide +kernel) rfl ?_
              refine X.fgt (o' := [some (.ref (e_b E + v0)), some (.int v1), some (.int v2), some (.int v3), some (.int (v4 + 1)), none]) ⟨rfl, ⟨rfl, ⟨rfl, ⟨rfl, ⟨rfl, trivial⟩⟩⟩⟩⟩ ?_
              exact ih hS h
set_option maxRecDepth 100000 in
noncomputable def f_Prints_leastTurn (g : Nat) (S : MS) (R : MR) (I : MI) (t : Nat) (p1 : Int32) (p2 : Int32) : Option Int32 :=
  lt ((p1 * 4) + p2) fun (x1 : Int32) =>
  l_Prints_leastTurn_9 S R I t p1 p2 x1 g 0
set_option maxRecDepth 100000 in
set_option maxHeartbeats 4000000 in
theorem c_Prints_leastTurn {E : Env} (hE : OKE E) {tg : Bool} {d : Nat} (hd : 4 ≤ d) {g : Nat} {S : MS} {I : MI} {L : ML} {R : MR} {n : Nat} {t : Nat} {p1 : Int32} {p2 : Int32} {v : Int32} (hS : (S t).1 = 7) (h : f_Prints_leastTurn g S R I t p1 p2 = some v) : C E y_Prints_leastTurn b_Prints_leastTurn 6 (some .int) tg d 0 0 [.ref (e_b E + t), .int p1, .int p2] S I L R n (Kq (some (.int v)) S I L R n) := by
  refine C.of (o := [some (.ref (e_b E + t)), some (.int p1), some (.int p2), none, none, none]) (by decide) rfl (Nat.le_of_ble_eq_true rfl) ?_
  rw [f_Prints_leastTurn] at h
  refine X.iload_1 (pc := 0) (by decide +kernel) ?_
  refine X.iconst (pc := 1) (i := 4) (v := 4) ic_4 (by decide +kernel) ?_
  refine X.imul (pc := 2) (by decide +kernel) ?_
  refine X.iload_2 (pc := 3) (by decide +kernel) ?_
  refine X.iadd (pc := 4) (by decide +kernel) ?_
  refine X.nameI (fun x1 hx1 => ?_)
  have h := lt_at hx1 h
  refine X.istore_3 (pc := 5) (by decide +kernel) (by decide) rfl ?_
  refine X.iconst (pc := 6) (i := 0) (v := 0) ic_0 (by decide +kernel) ?_
  refine X.istore_4 (pc := 7) (by decide +kernel) (by decide) rfl ?_
  exact xl_Prints_leastTurn_9 hE hd hS h
set_option maxRecDepth 100000 in
noncomputable def l_Prints_tellLeast_7 (g : Nat) (S : MS) (R : MR) (v0 : Nat) (v1 : Nat) : Nat → MI → ML → Int32 → Int32 → Option (MI × ML)
  | 0, _, _, _, _ => none
  | f + 1, I, L, v2, v3 =>
    ifb (((I v0 6) - 1) ≤ v3)
      (some (I, L))
      (bnd1 (f_Prints_fewestFalse S R I v0) fun x3 =>
      ifb (x3 = (-1))
        (some (I, L))
        (bnd1 (f_Prints_leastTurn g S R I v0 v3 v2) fun x6 =>
        asrt ((S v1).1 = 4) <|
        bnd2 (f_Numbers_add S R I L v1 (Int32.toInt64 x6)) fun I9 L10 =>
        lt (((v2 + x6) + 3) &&& 3) fun (x12 : Int32) =>
        l_Prints_tellLeast_7 g S R v0 v1 f I9 L10 x12 (v3 + 1)))
set_option maxRecDepth 100000 in
set_option maxHeartbeats 4000000 in
theorem xl_Prints_tellLeast_7 {E : Env} (hE : OKE E) {tg : Bool} {d : Nat} (hd : 5 ≤ d) {g : Nat} {S : MS} {R : MR} {n : Nat} {v0 : Nat} {v1 : Nat} {K : KT} :
    ∀ {f : Nat} {I : MI} {L : ML} {v2 : Int32} {v3 : Int32} {I' : MI} {L' : ML}, (S v0).1 = 7 → l_Prints_tellLeast_7 g S R v0 v1 f I L v2 v3 = some (I', L') → X E y_Prints_tellLeast b_Prints_tellLeast 5 none tg d 0 0 55 [none, none, none, none, none] [] S I' L' R n K → X E y_Prints_tellLeast b_Prints_tellLeast 5 none tg d 0 0 7 [some (.ref (e_b E + v0)), some (.ref (e_b E + v1)), some (.int v2), some (.int v3), none] [] S I L R n K := by
  intro f
  induction f with
  | zero =>
    intro I L v2 v3 I' L' hS h hk
    rw [l_Prints_tellLeast_7] at h
    cases h
  | succ f ih =>
    intro I L v2 v3 I' L' hS h hk
    rw [l_Prints_tellLeast_7] at h
    refine X.iload_3 (pc := 7) (by decide +kernel) ?_
    refine X.aload_0 (pc := 8) (by decide +kernel) ?_
    refine X.getI (pc := 9) (k := 6) fw_Prints_29 (by decide +kernel) (fun _ => rfl) hS ?_
    refine X.iconst (pc := 12) (i := 1) (v := 1) ic_1 (by decide +kernel) ?_
    refine X.isub (pc := 13) (by decide +kernel) ?_
    rcases ifb_some h with ⟨hq2, h⟩ | ⟨hq2, h⟩
    · refine X.icmp_ge_t (pc := 14) (off := 41) (tgt := 55) hq2 rfl (by decide +kernel) ?_
      have j0 := Option.some.inj h
      obtain ⟨i0, j1⟩ := Prod.mk.inj j0
      subst i0
      subst j1
      refine X.fgt (o' := [none, none, none, none, none]) trivial ?_
      exact hk
    · refine X.icmp_ge_f (pc := 14) (off := 41) (tgt := 55) hq2 rfl (by decide +kernel) ?_
      refine X.aload_0 (pc := 17) (by decide +kernel) ?_
      obtain ⟨x3, hv4, h⟩ := bnd1_some h
      refine X.callVi (pc := 18) (nc := 0) (ns := 0) (c_Prints_fewestFalse hE (dle hd (Nat.le_of_ble_eq_true rfl)) hS hv4) cv_Prints_91 (by decide +kernel) hS ⟨by decide, rfl⟩ (ddd hd (Nat.le_of_ble_eq_true rfl)) rfl (Nat.le_of_ble_eq_true rfl) rfl rfl ?_
      refine X.iconst (pc := 21) (i := (-1)) (v := (-1)) ic_m1 (by decide +kernel) ?_
      rcases ifb_some h with ⟨hq5, h⟩ | ⟨hq5, h⟩
      · refine X.icmp_eq_t (pc := 22) (off := 33) (tgt := 55) hq5 rfl (by decide +kernel) ?_
        have j0 := Option.some.inj h
        obtain ⟨i0, j1⟩ := Prod.mk.inj j0
        subst i0
        subst j1
        refine X.fgt (o' := [none, none, none, none, none]) trivial ?_
        exact hk
      · refine X.icmp_eq_f (pc := 22) (off := 33) (tgt := 55) hq5 rfl (by decide +kernel) ?_
        refine X.aload_0 (pc := 25) (by decide +kernel) ?_
        refine X.iload_3 (pc := 26) (by decide +kernel) ?_
        refine X.iload_2 (pc := 27) (by decide +kernel) ?_
        obtain ⟨x6, hv7, h⟩ := bnd1_some h
        refine X.callVi (pc := 28) (nc := 0) (ns := 0) (c_Prints_leastTurn hE (dle hd (Nat.le_of_ble_eq_true rfl)) hS hv7) cv_Prints_95 (by decide +kernel) hS ⟨by decide, rfl⟩ (ddd hd (Nat.le_of_ble_eq_true rfl)) rfl (Nat.le_of_ble_eq_true rfl) rfl rfl ?_
        refine X.istore_4 (pc := 31) (by decide +kernel) (by decide) rfl ?_
        refine X.aload_1 (pc := 33) (by decide +kernel) ?_
        refine X.iload_4 (pc := 34) (by decide +kernel) ?_
        refine X.i2l (pc := 36) (by decide +kernel) ?_
        obtain ⟨hc8, h⟩ := asrt_some h
        obtain ⟨I9, L10, hv11, h⟩ := bnd2_some h
        refine X.callVv (pc := 37) (nc := 0) (ns := 0) (c_Numbers_add hE (dle hd (Nat.le_of_ble_eq_true rfl)) hc8 hv11) cv_Prints_98 (by decide +kernel) hc8 ⟨by decide, rfl⟩ (ddd hd (Nat.le_of_ble_eq_true rfl)) rfl (Nat.le_of_ble_eq_true rfl) rfl rfl ?_
        refine X.iload_2 (pc := 40) (by decide +kernel) ?_
        refine X.iload_4 (pc := 41) (by decide +kernel) ?_
        refine X.iadd (pc := 43) (by decide +kernel) ?_
        refine X.iconst (pc := 44) (i := 3) (v := 3) ic_3 (by decide +kernel) ?_
        refine X.iadd (pc := 45) (by decide +kernel) ?_
        refine X.iconst (pc := 46) (i := 3) (v := 3) ic_3 (by decide +kernel) ?_
        refine X.iand (pc := 47) (by decide +kernel) ?_
        refine X.nameI (fun x12 hx12 => ?_)
        have h := lt_at hx12 h
        refine X.istore_2 (pc := 48) (by decide +kernel) (by decide) rfl ?_
        refine X.iinc_3 (pc := 49) (z := 1) (v := 1) ic_1 (by decide +kernel) (by decide) rfl ?_
        refine X.goto (pc := 52) (off := (-45)) (tgt := 7) (by decide +kernel) rfl ?_
        refine X.fgt (o' := [some (.ref (e_b E + v0)), some (.ref (e_b E + v1)), some (.int x12), some (.int (v3 + 1)), none]) ⟨rfl, ⟨rfl, ⟨rfl, ⟨rfl, trivial⟩⟩⟩⟩ ?_
        exact ih hS h hk
set_option maxRecDepth 100000 in
noncomputable def f_Prints_tellLeast (g : Nat) (S : MS) (R : MR) (I : MI) (L : ML) (t : Nat) (p1 : Nat) : Option (MI × ML) :=
  lt (I t 5) fun (x1 : Int32) =>
  bnd2 (l_Prints_tellLeast_7 g S R t p1 g I L x1 0) fun I13 L14 =>
  some (I13, L14)
set_option maxRecDepth 100000 in
set_option maxHeartbeats 4000000 in
theorem c_Prints_tellLeast {E : Env} (hE : OKE E) {tg : Bool} {d : Nat} (hd : 5 ≤ d) {g : Nat} {S : MS} {I : MI} {L : ML} {R : MR} {n : Nat} {t : Nat} {p1 : Nat} {I' : MI} {L' : ML} (hS : (S t).1 = 7) (h : f_Prints_tellLeast g S R I L t p1 = some (I', L')) : C E y_Prints_tellLeast b_Prints_tellLeast 5 none tg d 0 0 [.ref (e_b E + t), .ref (e_b E + p1)] S I L R n (Kq none S I' L' R n) := by
  refine C.of (o := [some (.ref (e_b E + t)), some (.ref (e_b E + p1)), none, none, none]) (by decide) rfl (Nat.le_of_ble_eq_true rfl) ?_
  rw [f_Prints_tellLeast] at h
  refine X.aload_0 (pc := 0) (by decide +kernel) ?_
  refine X.getI (pc := 1) (k := 5) fw_Prints_47 (by decide +kernel) (fun _ => rfl) hS ?_
  refine X.nameI (fun x1 hx1 => ?_)
  have h := lt_at hx1 h
  refine X.istore_2 (pc := 4) (by decide +kernel) (by decide) rfl ?_
  refine X.iconst (pc := 5) (i := 0) (v := 0) ic_0 (by decide +kernel) ?_
  refine X.istore_3 (pc := 6) (by decide +kernel) (by decide) rfl ?_
  obtain ⟨I13, L14, hv15, h⟩ := bnd2_some h
  refine xl_Prints_tellLeast_7 hE hd hS hv15 ?_
  have j0 := Option.some.inj h
  obtain ⟨i0, j1⟩ := Prod.mk.inj j0
  subst i0
  subst j1
  exact X.vreturn (pc := 55) (by decide +kernel) rfl ⟨rfl, rfl, rfl, rfl, rfl, rfl⟩
set_option maxRecDepth 100000 in
noncomputable def f_Prints_manyRows (S : MS) (R : MR) (I : MI) (L : ML) (t : Nat) : Option Int64 :=
  bnd1 (ifb ((I t 5) < 0)
      (some 0)
      (ifb (4 ≤ (I t 5))
        (some 0)
        (bnd1 (R t 3) fun b6 =>
        lt (I t 5) fun (x7 : Int32) =>
        asrt ((S b6).1 = 21) <|
        asrt (vp_in x7 (S b6).2) <|
        some (L b6 (Int32.toNatClampNeg x7))))) fun (y2 : Int64) =>
  some y2
set_option maxRecDepth 100000 in
set_option maxHeartbeats 4000000 in
theorem c_Prints_manyRows {E : Env} (hE : OKE E) {tg : Bool} {d : Nat} (hd : 0 ≤ d) {S : MS} {I : MI} {L : ML} {R : MR} {n : Nat} {t : Nat} {v : Int64} (hS : (S t).1 = 7) (h : f_Prints_manyRows S R I L t = some v) : C E y_Prints_manyRows b_Prints_manyRows 1 (some .long) tg d 0 0 [.ref (e_b E + t)] S I L R n (Kq (some (.long v)) S I L R n) := by
  refine C.of (o := [some (.ref (e_b E + t))]) (by decide) rfl (Nat.le_of_ble_eq_true rfl) ?_
  rw [f_Prints_manyRows] at h
  refine X.aload_0 (pc := 0) (by decide +kernel) ?_
  refine X.getI (pc := 1) (k := 5) fw_Prints_47 (by decide +kernel) (fun _ => rfl) hS ?_
  obtain ⟨y2, hr3, h⟩ := bnd1_some h
  have hj4 : X E y_Prints_manyRows b_Prints_manyRows 1 (some .long) tg d 0 0 28 [none] [.long y2] S I L R n (Kq (some (.long v)) S I L R n) := by
    have j0 := Option.some.inj h
    subst j0
    exact X.lreturn (pc := 28) (by decide +kernel) rfl ⟨rfl, rfl, rfl, rfl, rfl, rfl⟩
  have h := hr3
  rcases ifb_some h with ⟨hq1, h⟩ | ⟨hq1, h⟩
  · refine X.if_lt_t (pc := 4) (off := 23) (tgt := 27) hq1 rfl (by decide +kernel) ?_
    refine X.lconst (pc := 27) (i := 0) (v := 0) rfl (by decide +kernel) ?_
    have j0 := Option.some.inj h
    subst j0
    refine X.fgt (o' := [none]) trivial ?_
    exact hj4
  · refine X.if_lt_f (pc := 4) (off := 23) (tgt := 27) hq1 rfl (by decide +kernel) ?_
    refine X.aload_0 (pc := 7) (by decide +kernel) ?_
    refine X.getI (pc := 8) (k := 5) fw_Prints_47 (by decide +kernel) (fun _ => rfl) hS ?_
    refine X.iconst (pc := 11) (i := 4) (v := 4) ic_4 (by decide +kernel) ?_
    rcases ifb_some h with ⟨hq5, h⟩ | ⟨hq5, h⟩
    · refine X.icmp_ge_t (pc := 12) (off := 15) (tgt := 27) hq5 rfl (by decide +kernel) ?_
      refine X.lconst (pc := 27) (i := 0) (v := 0) rfl (by decide +kernel) ?_
      have j0 := Option.some.inj h
      subst j0
      refine X.fgt (o' := [none]) trivial ?_
      exact hj4
    · refine X.icmp_ge_f (pc := 12) (off := 15) (tgt := 27) hq5 rfl (by decide +kernel) ?_
      refine X.aload_0 (pc := 15) (by decide +kernel) ?_
      obtain ⟨b6, hb6, h⟩ := bnd1_some h
      refine X.getR (pc := 16) (k := 3) fw_Prints_15 (by decide +kernel) (fun _ => rfl) hS hb6 ?_
      refine X.aload_0 (pc := 19) (by decide +kernel) ?_
      refine X.getI (pc := 20) (k := 5) fw_Prints_47 (by decide +kernel) (fun _ => rfl) hS ?_
      refine X.nameI (fun x7 hx7 => ?_)
      have h := lt_at hx7 h
      obtain ⟨hc9, h⟩ := asrt_some h
      obtain ⟨hi8, h⟩ := asrt_some h
      refine X.laload (pc := 23) (by decide +kernel) hc9 hi8 ?_
      refine X.goto (pc := 24) (off := 4) (tgt := 28) (by decide +kernel) rfl ?_
      have j0 := Option.some.inj h
      subst j0
      refine X.fgt (o' := [none]) trivial ?_
      exact hj4
set_option maxRecDepth 100000 in
noncomputable def f_GWL_rows (g : Nat) (S : MS) (R : MR) (I : MI) (L : ML) (t : Nat) : Option (Int64 × MI × ML) :=
  bnd1 (R t 17) fun b1 =>
  asrt ((S b1).1 = 7) <|
  ifb ((I b1 6) = 0)
    (some ((-2), I, L))
    (bnd2 (f_Prints_trace g S R I L b1 0) fun I4 L5 =>
    bnd1 (R t 1) fun b7 =>
    asrt ((S b7).1 = 4) <|
    bnd1 (f_Numbers_begin S I4 b7) fun I9 =>
    bnd2 (f_Prints_tellLeast g S R I9 L5 b1 b7) fun I11 L12 =>
    bnd1 (f_Prints_manyRows S R I11 L12 b1) fun x14 =>
    some (x14, I11, L12))
set_option maxRecDepth 100000 in
set_option maxHeartbeats 4000000 in
theorem c_GWL_rows {E : Env} (hE : OKE E) {tg : Bool} {d : Nat} (hd : 6 ≤ d) {g : Nat} {S : MS} {I : MI} {L : ML} {R : MR} {n : Nat} {t : Nat} {v : Int64} {I' : MI} {L' : ML} (hS : (S t).1 = 11) (h : f_GWL_rows g S R I L t = some (v, I', L')) : C E y_GWL_rows b_GWL_rows 1 (some .long) tg d 0 0 [.ref (e_b E + t)] S I L R n (Kq (some (.long v)) S I' L' R n) := by
  refine C.of (o := [some (.ref (e_b E + t))]) (by decide) rfl (Nat.le_of_ble_eq_true rfl) ?_
  rw [f_GWL_rows] at h
  refine X.aload_0 (pc := 0) (by decide +kernel) ?_
  obtain ⟨b1, hb1, h⟩ := bnd1_some h
  refine X.getR (pc := 1) (k := 17) fw_GWL_115 (by decide +kernel) (fun _ => rfl) hS hb1 ?_
  obtain ⟨hc2, h⟩ := asrt_some h
  refine X.getI (pc := 4) (k := 6) fw_GWL_362 (by decide +kernel) (fun _ => rfl) hc2 ?_
  rcases ifb_some h with ⟨hq3, h⟩ | ⟨hq3, h⟩
  · refine X.if_ne_f (pc := 7) (off := 7) (tgt := 14) hq3 rfl (by decide +kernel) ?_
    refine X.ldc2 (pc := 10) (x := 363) (v := (-2)) ld_GWL_363 (by decide +kernel) ?_
    have j0 := Option.some.inj h
    obtain ⟨i0, j1⟩ := Prod.mk.inj j0
    obtain ⟨i1, j2⟩ := Prod.mk.inj j1
    subst i0
    subst i1
    subst j2
    exact X.lreturn (pc := 13) (by decide +kernel) rfl ⟨rfl, rfl, rfl, rfl, rfl, rfl⟩
  · refine X.if_ne_t (pc := 7) (off := 7) (tgt := 14) hq3 rfl (by decide +kernel) ?_
    refine X.aload_0 (pc := 14) (by decide +kernel) ?_
    refine X.getR (pc := 15) (k := 17) fw_GWL_115 (by decide +kernel) (fun _ => rfl) hS hb1 ?_
    refine X.iconst (pc := 18) (i := 0) (v := 0) ic_0 (by decide +kernel) ?_
    obtain ⟨I4, L5, hv6, h⟩ := bnd2_some h
    refine X.callVv (pc := 19) (nc := 0) (ns := 0) (c_Prints_trace hE (dle hd (Nat.le_of_ble_eq_true rfl)) hc2 hv6) cv_GWL_365 (by decide +kernel) hc2 ⟨by decide, rfl⟩ (ddd hd (Nat.le_of_ble_eq_true rfl)) rfl (Nat.le_of_ble_eq_true rfl) rfl rfl ?_
    refine X.aload_0 (pc := 22) (by decide +kernel) ?_
    obtain ⟨b7, hb7, h⟩ := bnd1_some h
    refine X.getR (pc := 23) (k := 1) fw_GWL_19 (by decide +kernel) (fun _ => rfl) hS hb7 ?_
    obtain ⟨hc8, h⟩ := asrt_some h
    obtain ⟨I9, hv10, h⟩ := bnd1_some h
    refine X.callVv (pc := 26) (nc := 0) (ns := 0) (c_Numbers_begin hE (dle hd (Nat.le_of_ble_eq_true rfl)) hc8 hv10) cv_GWL_207 (by decide +kernel) hc8 ⟨by decide, rfl⟩ (ddd hd (Nat.le_of_ble_eq_true rfl)) rfl (Nat.le_of_ble_eq_true rfl) rfl rfl ?_
    refine X.aload_0 (pc := 29) (by decide +kernel) ?_
    refine X.getR (pc := 30) (k := 17) fw_GWL_115 (by decide +kernel) (fun _ => rfl) hS hb1 ?_
    refine X.aload_0 (pc := 33) (by decide +kernel) ?_
    refine X.getR (pc := 34) (k := 1) fw_GWL_19 (by decide +kernel) (fun _ => rfl) hS hb7 ?_
    obtain ⟨I11, L12, hv13, h⟩ := bnd2_some h
    refine X.callVv (pc := 37) (nc := 0) (ns := 0) (c_Prints_tellLeast hE (dle hd (Nat.le_of_ble_eq_true rfl)) hc2 hv13) cv_GWL_369 (by decide +kernel) hc2 ⟨by decide, rfl⟩ (ddd hd (Nat.le_of_ble_eq_true rfl)) rfl (Nat.le_of_ble_eq_true rfl) rfl rfl ?_
    refine X.aload_0 (pc := 40) (by decide +kernel) ?_
    refine X.getR (pc := 41) (k := 17) fw_GWL_115 (by decide +kernel) (fun _ => rfl) hS hb1 ?_
    obtain ⟨x14, hv15, h⟩ := bnd1_some h
    refine X.callVl (pc := 44) (nc := 0) (ns := 0) (c_Prints_manyRows hE (dle hd (Nat.le_of_ble_eq_true rfl)) hc2 hv15) cv_GWL_373 (by decide +kernel) hc2 ⟨by decide, rfl⟩ (ddd hd (Nat.le_of_ble_eq_true rfl)) rfl (Nat.le_of_ble_eq_true rfl) rfl rfl ?_
    have j0 := Option.some.inj h
    obtain ⟨i0, j1⟩ := Prod.mk.inj j0
    obtain ⟨i1, j2⟩ := Prod.mk.inj j1
    subst i0
    subst i1
    subst j2
    exact X.lreturn (pc := 47) (by decide +kernel) rfl ⟨rfl, rfl, rfl, rfl, rfl, rfl⟩
set_option maxRecDepth 100000 in
noncomputable def f_GWL_lies (g : Nat) (S : MS) (R : MR) (I : MI) (L : ML) (t : Nat) : Option (Int32 × MI × ML) :=
  bnd1 (R t 17) fun b1 =>
  asrt ((S b1).1 = 7) <|
  ifb ((I b1 6) = 0)
    (some ((-1), I, L))
    (bnd2 (f_Prints_trace g S R I L b1 1) fun I4 L5 =>
    bnd1 (f_Prints_fewestFalse S R I4 b1) fun x7 =>
    ifb (x7 = (-1))
      (some ((-2), I4, L5))
      (bnd1 (R t 1) fun b10 =>
      asrt ((S b10).1 = 4) <|
      bnd1 (f_Numbers_begin S I4 b10) fun I12 =>
      bnd2 (f_Prints_tellLeast g S R I12 L5 b1 b10) fun I14 L15 =>
      some (x7, I14, L15)))
set_option maxRecDepth 100000 in
set_option maxHeartbeats 4000000 in
theorem c_GWL_lies {E : Env} (hE : OKE E) {tg : Bool} {d : Nat} (hd : 6 ≤ d) {g : Nat} {S : MS} {I : MI} {L : ML} {R : MR} {n : Nat} {t : Nat} {v : Int32} {I' : MI} {L' : ML} (hS : (S t).1 = 11) (h : f_GWL_lies g S R I L t = some (v, I', L')) : C E y_GWL_lies b_GWL_lies 2 (some .int) tg d 0 0 [.ref (e_b E + t)] S I L R n (Kq (some (.int v)) S I' L' R n) := by
  refine C.of (o := [some (.ref (e_b E + t)), none]) (by decide) rfl (Nat.le_of_ble_eq_true rfl) ?_
  rw [f_GWL_lies] at h
  refine X.aload_0 (pc := 0) (by decide +kernel) ?_
  obtain ⟨b1, hb1, h⟩ := bnd1_some h
  refine X.getR (pc := 1) (k := 17) fw_GWL_115 (by decide +kernel) (fun _ => rfl) hS hb1 ?_
  obtain ⟨hc2, h⟩ := asrt_some h
  refine X.getI (pc := 4) (k := 6) fw_GWL_362 (by decide +kernel) (fun _ => rfl) hc2 ?_
  rcases ifb_some h with ⟨hq3, h⟩ | ⟨hq3, h⟩
  · refine X.if_ne_f (pc := 7) (off := 5) (tgt := 12) hq3 rfl (by decide +kernel) ?_
    refine X.iconst (pc := 10) (i := (-1)) (v := (-1)) ic_m1 (by decide +kernel) ?_
    have j0 := Option.some.inj h
    obtain ⟨i0, j1⟩ := Prod.mk.inj j0
    obtain ⟨i1, j2⟩ := Prod.mk.inj j1
    subst i0
    subst i1
    subst j2
    exact X.ireturn (pc := 11) (by decide +kernel) ⟨_, rfl, rfl⟩ ⟨rfl, rfl, rfl, rfl, rfl, rfl⟩
  · refine X.if_ne_t (pc := 7) (off := 5) (tgt := 12) hq3 rfl (by decide +kernel) ?_
    refine X.aload_0 (pc := 12) (by decide +kernel) ?_
    refine X.getR (pc := 13) (k := 17) fw_GWL_115 (by decide +kernel) (fun _ => rfl) hS hb1 ?_
    refine X.iconst (pc := 16) (i := 1) (v := 1) ic_1 (by decide +kernel) ?_
    obtain ⟨I4, L5, hv6, h⟩ := bnd2_some h
    refine X.callVv (pc := 17) (nc := 0) (ns := 0) (c_Prints_trace hE (dle hd (Nat.le_of_ble_eq_true rfl)) hc2 hv6) cv_GWL_365 (by decide +kernel) hc2 ⟨by decide, rfl⟩ (ddd hd (Nat.le_of_ble_eq_true rfl)) rfl (Nat.le_of_ble_eq_true rfl) rfl rfl ?_
    refine X.aload_0 (pc := 20) (by decide +kernel) ?_
    refine X.getR (pc := 21) (k := 17) fw_GWL_115 (by decide +kernel) (fun _ => rfl) hS hb1 ?_
    obtain ⟨x7, hv8, h⟩ := bnd1_some h
    refine X.callVi (pc := 24) (nc := 0) (ns := 0) (c_Prints_fewestFalse hE (dle hd (Nat.le_of_ble_eq_true rfl)) hc2 hv8) cv_GWL_376 (by decide +kernel) hc2 ⟨by decide, rfl⟩ (ddd hd (Nat.le_of_ble_eq_true rfl)) rfl (Nat.le_of_ble_eq_true rfl) rfl rfl ?_
    refine X.istore_1 (pc := 27) (by decide +kernel) (by decide) rfl ?_
    refine X.iload_1 (pc := 28) (by decide +kernel) ?_
    refine X.iconst (pc := 29) (i := (-1)) (v := (-1)) ic_m1 (by decide +kernel) ?_
    rcases ifb_some h with ⟨hq9, h⟩ | ⟨hq9, h⟩
    · refine X.icmp_ne_f (pc := 30) (off := 6) (tgt := 36) hq9 rfl (by decide +kernel) ?_
      refine X.bipush (pc := 33) (i := (-2)) (v := (-2)) bp_m2 (by decide +kernel) ?_
      have j0 := Option.some.inj h
      obtain ⟨i0, j1⟩ := Prod.mk.inj j0
      obtain ⟨i1, j2⟩ := Prod.mk.inj j1
      subst i0
      subst i1
      subst j2
      exact X.ireturn (pc := 35) (by decide +kernel) ⟨_, rfl, rfl⟩ ⟨rfl, rfl, rfl, rfl, rfl, rfl⟩
    · refine X.icmp_ne_t (pc := 30) (off := 6) (tgt := 36) hq9 rfl (by decide +kernel) ?_
      refine X.aload_0 (pc := 36) (by decide +kernel) ?_
      obtain ⟨b10, hb10, h⟩ := bnd1_some h
      refine X.getR (pc := 37) (k := 1) fw_GWL_19 (by decide +kernel) (fun _ => rfl) hS hb10 ?_
      obtain ⟨hc11, h⟩ := asrt_some h
      obtain ⟨I12, hv13, h⟩ := bnd1_some h
      refine X.callVv (pc := 40) (nc := 0) (ns := 0) (c_Numbers_begin hE (dle hd (Nat.le_of_ble_eq_true rfl)) hc11 hv13) cv_GWL_207 (by decide +kernel) hc11 ⟨by decide, rfl⟩ (ddd hd (Nat.le_of_ble_eq_true rfl)) rfl (Nat.le_of_ble_eq_true rfl) rfl rfl ?_
      refine X.aload_0 (pc := 43) (by decide +kernel) ?_
      refine X.getR (pc := 44) (k := 17) fw_GWL_115 (by decide +kernel) (fun _ => rfl) hS hb1 ?_
      refine X.aload_0 (pc := 47) (by decide +kernel) ?_
      refine X.getR (pc := 48) (k := 1) fw_GWL_19 (by decide +kernel) (fun _ => rfl) hS hb10 ?_
      obtain ⟨I14, L15, hv16, h⟩ := bnd2_some h
      refine X.callVv (pc := 51) (nc := 0) (ns := 0) (c_Prints_tellLeast hE (dle hd (Nat.le_of_ble_eq_true rfl)) hc2 hv16) cv_GWL_369 (by decide +kernel) hc2 ⟨by decide, rfl⟩ (ddd hd (Nat.le_of_ble_eq_true rfl)) rfl (Nat.le_of_ble_eq_true rfl) rfl rfl ?_
      refine X.iload_1 (pc := 54) (by decide +kernel) ?_
      have j0 := Option.some.inj h
      obtain ⟨i0, j1⟩ := Prod.mk.inj j0
      obtain ⟨i1, j2⟩ := Prod.mk.inj j1
      subst i0
      subst i1
      subst j2
      exact X.ireturn (pc := 55) (by decide +kernel) ⟨_, rfl, rfl⟩ ⟨rfl, rfl, rfl, rfl, rfl, rfl⟩
set_option maxRecDepth 100000 in
noncomputable def f_Market_isOne (t : Nat) (p1 : Int32) : Option Int32 :=
  bnd1 (ifb (p1 < 0)
      (some 0)
      (ifb (5 ≤ p1)
        (some 0)
        (some 1))) fun (y2 : Int32) =>
  asrt (y2 = 0 ∨ y2 = 1) <|
  some y2
set_option maxRecDepth 100000 in
set_option maxHeartbeats 4000000 in
theorem c_Market_isOne {E : Env} (hE : OKE E) {tg : Bool} {d : Nat} (hd : 0 ≤ d) {S : MS} {I : MI} {L : ML} {R : MR} {n : Nat} {t : Nat} {p1 : Int32} {v : Int32} (hS : (S t).1 = 3) (h : f_Market_isOne t p1 = some v) : C E y_Market_isOne b_Market_isOne 2 (some .boolean) tg d 0 0 [.ref (e_b E + t), .int p1] S I L R n (Kq (some (.int v)) S I L R n) := by
  refine C.of (o := [some (.ref (e_b E + t)), some (.int p1)]) (by decide) rfl (Nat.le_of_ble_eq_true rfl) ?_
  rw [f_Market_isOne] at h
  refine X.iload_1 (pc := 0) (by decide +kernel) ?_
  obtain ⟨y2, hr3, h⟩ := bnd1_some h
  have hj4 : X E y_Market_isOne b_Market_isOne 2 (some .boolean) tg d 0 0 14 [none, none] [.int y2] S I L R n (Kq (some (.int v)) S I L R n) := by
    obtain ⟨hb6, h⟩ := asrt_some h
    have j0 := Option.some.inj h
    subst j0
    exact X.ireturn (pc := 14) (by decide +kernel) ⟨_, rfl, nz01 hb6⟩ ⟨rfl, rfl, rfl, rfl, rfl, rfl⟩
  have h := hr3
  rcases ifb_some h with ⟨hq1, h⟩ | ⟨hq1, h⟩
  · refine X.if_lt_t (pc := 1) (off := 12) (tgt := 13) hq1 rfl (by decide +kernel) ?_
    refine X.iconst (pc := 13) (i := 0) (v := 0) ic_0 (by decide +kernel) ?_
    have j0 := Option.some.inj h
    subst j0
    refine X.fgt (o' := [none, none]) trivial ?_
    exact hj4
  · refine X.if_lt_f (pc := 1) (off := 12) (tgt := 13) hq1 rfl (by decide +kernel) ?_
    refine X.iload_1 (pc := 4) (by decide +kernel) ?_
    refine X.iconst (pc := 5) (i := 5) (v := 5) ic_5 (by decide +kernel) ?_
    rcases ifb_some h with ⟨hq5, h⟩ | ⟨hq5, h⟩
    · refine X.icmp_ge_t (pc := 6) (off := 7) (tgt := 13) hq5 rfl (by decide +kernel) ?_
      refine X.iconst (pc := 13) (i := 0) (v := 0) ic_0 (by decide +kernel) ?_
      have j0 := Option.some.inj h
      subst j0
      refine X.fgt (o' := [none, none]) trivial ?_
      exact hj4
    · refine X.icmp_ge_f (pc := 6) (off := 7) (tgt := 13) hq5 rfl (by decide +kernel) ?_
      refine X.iconst (pc := 9) (i := 1) (v := 1) ic_1 (by decide +kernel) ?_
      refine X.goto (pc := 10) (off := 4) (tgt := 14) (by decide +kernel) rfl ?_
      have j0 := Option.some.inj h
      subst j0
      refine X.fgt (o' := [none, none]) trivial ?_
      exact hj4
set_option maxRecDepth 100000 in
noncomputable def f_Market_value (S : MS) (R : MR) (I : MI) (t : Nat) (p1 : Int32) (p2 : Int32) (p3 : Int32) : Option (Int32 × MI) :=
  lt ((p1 * 5) + p2) fun (x1 : Int32) =>
  ifb (x1 < 0)
    (some ((-1), I))
    (bnd1 (R t 0) fun b3 =>
    asrt ((S b3).1 = 20) <|
    ifb (x1 < (Int32.ofNat (S b3).2))
      (asrt (vp_in x1 (S b3).2) <|
      lt (I b3 (Int32.toNatClampNeg x1)) fun (x7 : Int32) =>
      asrt (vp_in x1 (S b3).2) <|
      lt (wI I b3 (Int32.toNatClampNeg x1) p3) fun (I9 : MI) =>
      some (x7, I9))
      (some ((-1), I)))
set_option maxRecDepth 100000 in
set_option maxHeartbeats 4000000 in
theorem c_Market_value {E : Env} (hE : OKE E) {tg : Bool} {d : Nat} (hd : 0 ≤ d) {S : MS} {I : MI} {L : ML} {R : MR} {n : Nat} {t : Nat} {p1 : Int32} {p2 : Int32} {p3 : Int32} {v : Int32} {I' : MI} (hS : (S t).1 = 3) (h : f_Market_value S R I t p1 p2 p3 = some (v, I')) : C E y_Market_value b_Market_value 6 (some .int) tg d 0 0 [.ref (e_b E + t), .int p1, .int p2, .int p3] S I L R n (Kq (some (.int v)) S I' L R n) := by
  refine C.of (o := [some (.ref (e_b E + t)), some (.int p1), some (.int p2), some (.int p3), none, none]) (by decide) rfl (Nat.le_of_ble_eq_true rfl) ?_
  rw [f_Market_value] at h
  refine X.iload_1 (pc := 0) (by decide +kernel) ?_
  refine X.iconst (pc := 1) (i := 5) (v := 5) ic_5 (by decide +kernel) ?_
  refine X.imul (pc := 2) (by decide +kernel) ?_
  refine X.iload_2 (pc := 3) (by decide +kernel) ?_
  refine X.iadd (pc := 4) (by decide +kernel) ?_
  refine X.nameI (fun x1 hx1 => ?_)
  have h := lt_at hx1 h
  refine X.istore_4 (pc := 5) (by decide +kernel) (by decide) rfl ?_
  refine X.iload_4 (pc := 7) (by decide +kernel) ?_
  rcases ifb_some h with ⟨hq2, h⟩ | ⟨hq2, h⟩
  · refine X.if_lt_t (pc := 9) (off := 13) (tgt := 22) hq2 rfl (by decide +kernel) ?_
    refine X.iconst (pc := 22) (i := (-1)) (v := (-1)) ic_m1 (by decide +kernel) ?_
    have j0 := Option.some.inj h
    obtain ⟨i0, j1⟩ := Prod.mk.inj j0
    subst i0
    subst j1
    exact X.ireturn (pc := 23) (by decide +kernel) ⟨_, rfl, rfl⟩ ⟨rfl, rfl, rfl, rfl, rfl, rfl⟩
  · refine X.if_lt_f (pc := 9) (off := 13) (tgt := 22) hq2 rfl (by decide +kernel) ?_
    refine X.iload_4 (pc := 12) (by decide +kernel) ?_
    refine X.aload_0 (pc := 14) (by decide +kernel) ?_
    obtain ⟨b3, hb3, h⟩ := bnd1_some h
    refine X.getR (pc := 15) (k := 0) fw_Market_9 (by decide +kernel) (fun _ => rfl) hS hb3 ?_
    obtain ⟨hc4, h⟩ := asrt_some h
    refine X.alen (pc := 18) (by decide +kernel) (by rw [hc4]; decide) ?_
    rcases ifb_some h with ⟨hq5, h⟩ | ⟨hq5, h⟩
    · refine X.icmp_lt_t (pc := 19) (off := 5) (tgt := 24) hq5 rfl (by decide +kernel) ?_
      refine X.aload_0 (pc := 24) (by decide +kernel) ?_
      refine X.getR (pc := 25) (k := 0) fw_Market_9 (by decide +kernel) (fun _ => rfl) hS hb3 ?_
      refine X.iload_4 (pc := 28) (by decide +kernel) ?_
      obtain ⟨hi6, h⟩ := asrt_some h
      refine X.iaload (pc := 30) (by decide +kernel) hc4 hi6 ?_
      refine X.nameI (fun x7 hx7 => ?_)
      have h := lt_at hx7 h
      refine X.istore_5 (pc := 31) (by decide +kernel) (by decide) rfl ?_
      refine X.aload_0 (pc := 33) (by decide +kernel) ?_
      refine X.getR (pc := 34) (k := 0) fw_Market_9 (by decide +kernel) (fun _ => rfl) hS hb3 ?_
      refine X.iload_4 (pc := 37) (by decide +kernel) ?_
      refine X.iload_3 (pc := 39) (by decide +kernel) ?_
      obtain ⟨hi8, h⟩ := asrt_some h
      refine X.iastore (pc := 40) (by decide +kernel) hc4 hi8 ?_
      refine X.nameMI (fun I9 hI9 => ?_)
      have h := lt_at hI9 h
      refine X.iload_5 (pc := 41) (by decide +kernel) ?_
      have j0 := Option.some.inj h
      obtain ⟨i0, j1⟩ := Prod.mk.inj j0
      subst i0
      subst j1
      exact X.ireturn (pc := 43) (by decide +kernel) ⟨_, rfl, rfl⟩ ⟨rfl, rfl, rfl, rfl, rfl, rfl⟩
    · refine X.icmp_lt_f (pc := 19) (off := 5) (tgt := 24) hq5 rfl (by decide +kernel) ?_
      refine X.iconst (pc := 22) (i := (-1)) (v := (-1)) ic_m1 (by decide +kernel) ?_
      have j0 := Option.some.inj h
      obtain ⟨i0, j1⟩ := Prod.mk.inj j0
      subst i0
      subst j1
      exact X.ireturn (pc := 23) (by decide +kernel) ⟨_, rfl, rfl⟩ ⟨rfl, rfl, rfl, rfl, rfl, rfl⟩
set_option maxRecDepth 100000 in
noncomputable def f_GWL_worth (S : MS) (R : MR) (I : MI) (t : Nat) (p1 : Int32) (p2 : Int32) (p3 : Int32) : Option (Int32 × MI) :=
  bnd1 (R t 18) fun b1 =>
  asrt ((S b1).1 = 3) <|
  bnd1 (f_Market_isOne b1 p1) fun x3 =>
  bnd2 (ifb (x3 = 0)
      (some ((-1), I))
      (bnd1 (f_Market_isOne b1 p2) fun x10 =>
      ifb (x10 = 0)
        (some ((-1), I))
        (ifb (p3 < 0)
          (some ((-1), I))
          (ifb (99 < p3)
            (some ((-1), I))
            (bnd2 (f_Market_value S R I b1 p1 p2 p3) fun x15 I16 =>
            some (x15, I16)))))) fun (y6 : Int32) (I7 : MI) =>
  some (y6, I7)
set_option maxRecDepth 100000 in
set_option maxHeartbeats 4000000 in
theorem c_GWL_worth {E : Env} (hE : OKE E) {tg : Bool} {d : Nat} (hd : 1 ≤ d) {S : MS} {I : MI} {L : ML} {R : MR} {n : Nat} {t : Nat} {p1 : Int32} {p2 : Int32} {p3 : Int32} {v : Int32} {I' : MI} (hS : (S t).1 = 11) (h : f_GWL_worth S R I t p1 p2 p3 = some (v, I')) : C E y_GWL_worth b_GWL_worth 4 (some .int) tg d 0 0 [.ref (e_b E + t), .int p1, .int p2, .int p3] S I L R n (Kq (some (.int v)) S I' L R n) := by
  refine C.of (o := [some (.ref (e_b E + t)), some (.int p1), some (.int p2), some (.int p3)]) (by decide) rfl (Nat.le_of_ble_eq_true rfl) ?_
  rw [f_GWL_worth] at h
  refine X.aload_0 (pc := 0) (by decide +kernel) ?_
  obtain ⟨b1, hb1, h⟩ := bnd1_some h
  refine X.getR (pc := 1) (k := 18) fw_GWL_75 (by decide +kernel) (fun _ => rfl) hS hb1 ?_
  refine X.iload_1 (pc := 4) (by decide +kernel) ?_
  obtain ⟨hc2, h⟩ := asrt_some h
  obtain ⟨x3, hv4, h⟩ := bnd1_some h
  refine X.callVi (pc := 5) (nc := 0) (ns := 0) (c_Market_isOne hE (dle hd (Nat.le_of_ble_eq_true rfl)) hc2 hv4) cv_GWL_379 (by decide +kernel) hc2 ⟨by decide, rfl⟩ (ddd hd (Nat.le_of_ble_eq_true rfl)) rfl (Nat.le_of_ble_eq_true rfl) rfl rfl ?_
  obtain ⟨y6, I7, hr8, h⟩ := bnd2_some h
  have hj9 : X E y_GWL_worth b_GWL_worth 4 (some .int) tg d 0 0 46 [none, none, none, none] [.int y6] S I7 L R n (Kq (some (.int v)) S I' L R n) := by
    have j0 := Option.some.inj h
    obtain ⟨i0, j1⟩ := Prod.mk.inj j0
    subst i0
    subst j1
    exact X.ireturn (pc := 46) (by decide +kernel) ⟨_, rfl, rfl⟩ ⟨rfl, rfl, rfl, rfl, rfl, rfl⟩
  have h := hr8
  rcases ifb_some h with ⟨hq5, h⟩ | ⟨hq5, h⟩
  · refine X.if_eq_t (pc := 8) (off := 37) (tgt := 45) hq5 rfl (by decide +kernel) ?_
    refine X.iconst (pc := 45) (i := (-1)) (v := (-1)) ic_m1 (by decide +kernel) ?_
    have j0 := Option.some.inj h
    obtain ⟨i0, j1⟩ := Prod.mk.inj j0
    subst i0
    subst j1
    refine X.fgt (o' := [none, none, none, none]) trivial ?_
    exact hj9
  · refine X.if_eq_f (pc := 8) (off := 37) (tgt := 45) hq5 rfl (by decide +kernel) ?_
    refine X.aload_0 (pc := 11) (by decide +kernel) ?_
    refine X.getR (pc := 12) (k := 18) fw_GWL_75 (by decide +kernel) (fun _ => rfl) hS hb1 ?_
    refine X.iload_2 (pc := 15) (by decide +kernel) ?_
    obtain ⟨x10, hv11, h⟩ := bnd1_some h
    refine X.callVi (pc := 16) (nc := 0) (ns := 0) (c_Market_isOne hE (dle hd (Nat.le_of_ble_eq_true rfl)) hc2 hv11) cv_GWL_379 (by decide +kernel) hc2 ⟨by decide, rfl⟩ (ddd hd (Nat.le_of_ble_eq_true rfl)) rfl (Nat.le_of_ble_eq_true rfl) rfl rfl ?_
    rcases ifb_some h with ⟨hq12, h⟩ | ⟨hq12, h⟩
    · refine X.if_eq_t (pc := 19) (off := 26) (tgt := 45) hq12 rfl (by decide +kernel) ?_
      refine X.iconst (pc := 45) (i := (-1)) (v := (-1)) ic_m1 (by decide +kernel) ?_
      have j0 := Option.some.inj h
      obtain ⟨i0, j1⟩ := Prod.mk.inj j0
      subst i0
      subst j1
      refine X.fgt (o' := [none, none, none, none]) trivial ?_
      exact hj9
    · refine X.if_eq_f (pc := 19) (off := 26) (tgt := 45) hq12 rfl (by decide +kernel) ?_
      refine X.iload_3 (pc := 22) (by decide +kernel) ?_
      rcases ifb_some h with ⟨hq13, h⟩ | ⟨hq13, h⟩
      · refine X.if_lt_t (pc := 23) (off := 22) (tgt := 45) hq13 rfl (by decide +kernel) ?_
        refine X.iconst (pc := 45) (i := (-1)) (v := (-1)) ic_m1 (by decide +kernel) ?_
        have j0 := Option.some.inj h
        obtain ⟨i0, j1⟩ := Prod.mk.inj j0
        subst i0
        subst j1
        refine X.fgt (o' := [none, none, none, none]) trivial ?_
        exact hj9
      · refine X.if_lt_f (pc := 23) (off := 22) (tgt := 45) hq13 rfl (by decide +kernel) ?_
        refine X.iload_3 (pc := 26) (by decide +kernel) ?_
        refine X.bipush (pc := 27) (i := 99) (v := 99) bp_99 (by decide +kernel) ?_
        rcases ifb_some h with ⟨hq14, h⟩ | ⟨hq14, h⟩
        · refine X.icmp_gt_t (pc := 29) (off := 16) (tgt := 45) hq14 rfl (by decide +kernel) ?_
          refine X.iconst (pc := 45) (i := (-1)) (v := (-1)) ic_m1 (by decide +kernel) ?_
          have j0 := Option.some.inj h
          obtain ⟨i0, j1⟩ := Prod.mk.inj j0
          subst i0
          subst j1
          refine X.fgt (o' := [none, none, none, none]) trivial ?_
          exact hj9
        · refine X.icmp_gt_f (pc := 29) (off := 16) (tgt := 45) hq14 rfl (by decide +kernel) ?_
          refine X.aload_0 (pc := 32) (by decide +kernel) ?_
          refine X.getR (pc := 33) (k := 18) fw_GWL_75 (by decide +kernel) (fun _ => rfl) hS hb1 ?_
          refine X.iload_1 (pc := 36) (by decide +kernel) ?_
          refine X.iload_2 (pc := 37) (by decide +kernel) ?_
          refine X.iload_3 (pc := 38) (by decide +kernel) ?_
          obtain ⟨x15, I16, hv17, h⟩ := bnd2_some h
          refine X.callVi (pc := 39) (nc := 0) (ns := 0) (c_Market_value hE (dle hd (Nat.le_of_ble_eq_true rfl)) hc2 hv17) cv_GWL_382 (by decide +kernel) hc2 ⟨by decide, rfl⟩ (ddd hd (Nat.le_of_ble_eq_true rfl)) rfl (Nat.le_of_ble_eq_true rfl) rfl rfl ?_
          refine X.goto (pc := 42) (off := 4) (tgt := 46) (by decide +kernel) rfl ?_
          have j0 := Option.some.inj h
          obtain ⟨i0, j1⟩ := Prod.mk.inj j0
          subst i0
          subst j1
          refine X.fgt (o' := [none, none, none, none]) trivial ?_
          exact hj9
set_option maxRecDepth 100000 in
noncomputable def f_Market_mostBy (S : MS) (R : MR) (I : MI) (t : Nat) (p1 : Int32) (p2 : Int32) : Option Int32 :=
  bnd1 (f_JInt_bitCount p2) fun x1 =>
  lt ((p1 * 5) + x1) fun (x3 : Int32) =>
  lt (p2 ||| (isl 1 p1)) fun (x4 : Int32) =>
  ifb (x4 = p2)
    (some (-1))
    (bnd1 (R t 0) fun b6 =>
    asrt ((S b6).1 = 20) <|
    ifb ((Int32.ofNat (S b6).2) ≤ x3)
      (some (-1))
      (bnd1 (R t 1) fun b9 =>
      asrt ((S b9).1 = 20) <|
      ifb (x4 < (Int32.ofNat (S b9).2))
        (asrt (vp_in x4 (S b9).2) <|
        bnd1 (ifb (p1 = (I t 3))
            (some 0)
            (asrt (vp_in x3 (S b6).2) <|
            some (I b6 (Int32.toNatClampNeg x3)))) fun (y14 : Int32) =>
        lt ((I b9 (Int32.toNatClampNeg x4)) + y14) fun (x18 : Int32) =>
        some x18)
        (some (-1))))
set_option maxRecDepth 100000 in
set_option maxHeartbeats 4000000 in
theorem c_Market_mostBy {E : Env} (hE : OKE E) {tg : Bool} {d : Nat} (hd : 1 ≤ d) {S : MS} {I : MI} {L : ML} {R : MR} {n : Nat} {t : Nat} {p1 : Int32} {p2 : Int32} {v : Int32} (hS : (S t).1 = 3) (h : f_Market_mostBy S R I t p1 p2 = some v) : C E y_Market_mostBy b_Market_mostBy 5 (some .int) tg d 0 0 [.ref (e_b E + t), .int p1, .int p2] S I L R n (Kq (some (.int v)) S I L R n) := by
  refine C.of (o := [some (.ref (e_b E + t)), some (.int p1), some (.int p2), none, none]) (by decide) rfl (Nat.le_of_ble_eq_true rfl) ?_
  rw [f_Market_mostBy] at h
  refine X.iload_1 (pc := 0) (by decide +kernel) ?_
  refine X.iconst (pc := 1) (i := 5) (v := 5) ic_5 (by decide +kernel) ?_
  refine X.imul (pc := 2) (by decide +kernel) ?_
  refine X.iload_2 (pc := 3) (by decide +kernel) ?_
  obtain ⟨x1, hv2, h⟩ := bnd1_some h
  refine X.callSi (pc := 4) (nc := 0) (ns := 0) (c_JInt_bitCount hE (dle hd (Nat.le_of_ble_eq_true rfl)) hv2) cv_Market_34 (by decide +kernel) (ddd hd (Nat.le_of_ble_eq_true rfl)) rfl (Nat.le_of_ble_eq_true rfl) rfl rfl ?_
  refine X.iadd (pc := 7) (by decide +kernel) ?_
  refine X.nameI (fun x3 hx3 => ?_)
  have h := lt_at hx3 h
  refine X.istore_3 (pc := 8) (by decide +kernel) (by decide) rfl ?_
  refine X.iload_2 (pc := 9) (by decide +kernel) ?_
  refine X.iconst (pc := 10) (i := 1) (v := 1) ic_1 (by decide +kernel) ?_
  refine X.iload_1 (pc := 11) (by decide +kernel) ?_
  refine X.ishl (pc := 12) (by decide +kernel) ?_
  refine X.ior (pc := 13) (by decide +kernel) ?_
  refine X.nameI (fun x4 hx4 => ?_)
  have h := lt_at hx4 h
  refine X.istore_4 (pc := 14) (by decide +kernel) (by decide) rfl ?_
  refine X.iload_4 (pc := 16) (by decide +kernel) ?_
  refine X.iload_2 (pc := 18) (by decide +kernel) ?_
  rcases ifb_some h with ⟨hq5, h⟩ | ⟨hq5, h⟩
  · refine X.icmp_eq_t (pc := 19) (off := 22) (tgt := 41) hq5 rfl (by decide +kernel) ?_
    refine X.iconst (pc := 41) (i := (-1)) (v := (-1)) ic_m1 (by decide +kernel) ?_
    have j0 := Option.some.inj h
    subst j0
    exact X.ireturn (pc := 42) (by decide +kernel) ⟨_, rfl, rfl⟩ ⟨rfl, rfl, rfl, rfl, rfl, rfl⟩
  · refine X.icmp_eq_f (pc := 19) (off := 22) (tgt := 41) hq5 rfl (by decide +kernel) ?_
    refine X.iload_3 (pc := 22) (by decide +kernel) ?_
    refine X.aload_0 (pc := 23) (by decide +kernel) ?_
    obtain ⟨b6, hb6, h⟩ := bnd1_some h
    refine X.getR (pc := 24) (k := 0) fw_Market_9 (by decide +kernel) (fun _ => rfl) hS hb6 ?_
    obtain ⟨hc7, h⟩ := asrt_some h
    refine X.alen (pc := 27) (by decide +kernel) (by rw [hc7]; decide) ?_
    rcases ifb_some h with ⟨hq8, h⟩ | ⟨hq8, h⟩
    · refine X.icmp_ge_t (pc := 28) (off := 13) (tgt := 41) hq8 rfl (by decide +kernel) ?_
      refine X.iconst (pc := 41) (i := (-1)) (v := (-1)) ic_m1 (by decide +kernel) ?_
      have j0 := Option.some.inj h
      subst j0
      exact X.ireturn (pc := 42) (by decide +kernel) ⟨_, rfl, rfl⟩ ⟨rfl, rfl, rfl, rfl, rfl, rfl⟩
    · refine X.icmp_ge_f (pc := 28) (off := 13) (tgt := 41) hq8 rfl (by decide +kernel) ?_
      refine X.iload_4 (pc := 31) (by decide +kernel) ?_
      refine X.aload_0 (pc := 33) (by decide +kernel) ?_
      obtain ⟨b9, hb9, h⟩ := bnd1_some h
      refine X.getR (pc := 34) (k := 1) fw_Market_15 (by decide +kernel) (fun _ => rfl) hS hb9 ?_
      obtain ⟨hc10, h⟩ := asrt_some h
      refine X.alen (pc := 37) (by decide +kernel) (by rw [hc10]; decide) ?_
      rcases ifb_some h with ⟨hq11, h⟩ | ⟨hq11, h⟩
      · refine X.icmp_lt_t (pc := 38) (off := 5) (tgt := 43) hq11 rfl (by decide +kernel) ?_
        refine X.aload_0 (pc := 43) (by decide +kernel) ?_
        refine X.getR (pc := 44) (k := 1) fw_Market_15 (by decide +kernel) (fun _ => rfl) hS hb9 ?_
        refine X.iload_4 (pc := 47) (by decide +kernel) ?_
        obtain ⟨hi12, h⟩ := asrt_some h
        refine X.iaload (pc := 49) (by decide +kernel) hc10 hi12 ?_
        refine X.iload_1 (pc := 50) (by decide +kernel) ?_
        refine X.aload_0 (pc := 51) (by decide +kernel) ?_
        refine X.getI (pc := 52) (k := 3) fw_Market_18 (by decide +kernel) (fun _ => rfl) hS ?_
        obtain ⟨y14, hr15, h⟩ := bnd1_some h
        have hj16 : X E y_Market_mostBy b_Market_mostBy 5 (some .int) tg d 0 0 68 [none, none, none, none, none] [.int y14, .int (I b9 (Int32.toNatClampNeg x4))] S I L R n (Kq (some (.int v)) S I L R n) := by
          refine X.iadd (pc := 68) (by decide +kernel) ?_
          refine X.nameI (fun x18 hx18 => ?_)
          have h := lt_at hx18 h
          have j0 := Option.some.inj h
          subst j0
          exact X.ireturn (pc := 69) (by decide +kernel) ⟨_, rfl, rfl⟩ ⟨rfl, rfl, rfl, rfl, rfl, rfl⟩
        have h := hr15
        rcases ifb_some h with ⟨hq13, h⟩ | ⟨hq13, h⟩
        · refine X.icmp_ne_f (pc := 55) (off := 7) (tgt := 62) hq13 rfl (by decide +kernel) ?_
          refine X.iconst (pc := 58) (i := 0) (v := 0) ic_0 (by decide +kernel) ?_
          refine X.goto (pc := 59) (off := 9) (tgt := 68) (by decide +kernel) rfl ?_
          have j0 := Option.some.inj h
          subst j0
          refine X.fgt (o' := [none, none, none, none, none]) trivial ?_
          exact hj16
        · refine X.icmp_ne_t (pc := 55) (off := 7) (tgt := 62) hq13 rfl (by decide +kernel) ?_
          refine X.aload_0 (pc := 62) (by decide +kernel) ?_
          refine X.getR (pc := 63) (k := 0) fw_Market_9 (by decide +kernel) (fun _ => rfl) hS hb6 ?_
          refine X.iload_3 (pc := 66) (by decide +kernel) ?_
          obtain ⟨hi17, h⟩ := asrt_some h
          refine X.iaload (pc := 67) (by decide +kernel) hc7 hi17 ?_
          have j0 := Option.some.inj h
          subst j0
          refine X.fgt (o' := [none, none, none, none, none]) trivial ?_
          exact hj16
      · refine X.icmp_lt_f (pc := 38) (off := 5) (tgt := 43) hq11 rfl (by decide +kernel) ?_
        refine X.iconst (pc := 41) (i := (-1)) (v := (-1)) ic_m1 (by decide +kernel) ?_
        have j0 := Option.some.inj h
        subst j0
        exact X.ireturn (pc := 42) (by decide +kernel) ⟨_, rfl, rfl⟩ ⟨rfl, rfl, rfl, rfl, rfl, rfl⟩
set_option maxRecDepth 100000 in
noncomputable def f_JMath_max_II (p1 : Int32) (p2 : Int32) : Option Int32 :=
  bnd1 (ifb (p1 < p2)
      (some p2)
      (some p1)) fun (y2 : Int32) =>
  some y2
set_option maxRecDepth 100000 in
set_option maxHeartbeats 4000000 in
theorem c_JMath_max_II {E : Env} (hE : OKE E) {tg : Bool} {d : Nat} (hd : 0 ≤ d) {S : MS} {I : MI} {L : ML} {R : MR} {n : Nat} {p1 : Int32} {p2 : Int32} {v : Int32} (h : f_JMath_max_II p1 p2 = some v) : C E y_JMath_max_II b_JMath_max_II 2 (some .int) tg d 0 0 [.int p1, .int p2] S I L R n (Kq (some (.int v)) S I L R n) := by
  refine C.ofF (o := [some (.int p1), some (.int p2)]) (by decide +kernel) rfl (Nat.le_of_ble_eq_true rfl) ?_
  rw [f_JMath_max_II] at h
  refine X.iload_0 (pc := 0) (by decide +kernel) ?_
  refine X.iload_1 (pc := 1) (by decide +kernel) ?_
  obtain ⟨y2, hr3, h⟩ := bnd1_some h
  have hj4 : X E y_JMath_max_II b_JMath_max_II 2 (some .int) tg d 0 0 10 [none, none] [.int y2] S I L R n (Kq (some (.int v)) S I L R n) := by
    have j0 := Option.some.inj h
    subst j0
    exact X.ireturn (pc := 10) (by decide +kernel) ⟨_, rfl, rfl⟩ ⟨rfl, rfl, rfl, rfl, rfl, rfl⟩
  have h := hr3
  rcases ifb_some h with ⟨hq1, h⟩ | ⟨hq1, h⟩
  · refine X.icmp_lt_t (pc := 2) (off := 7) (tgt := 9) hq1 rfl (by decide +kernel) ?_
    refine X.iload_1 (pc := 9) (by decide +kernel) ?_
    have j0 := Option.some.inj h
    subst j0
    refine X.fgt (o' := [none, none]) trivial ?_
    exact hj4
  · refine X.icmp_lt_f (pc := 2) (off := 7) (tgt := 9) hq1 rfl (by decide +kernel) ?_
    refine X.iload_0 (pc := 5) (by decide +kernel) ?_
    refine X.goto (pc := 6) (off := 4) (tgt := 10) (by decide +kernel) rfl ?_
    have j0 := Option.some.inj h
    subst j0
    refine X.fgt (o' := [none, none]) trivial ?_
    exact hj4
set_option maxRecDepth 100000 in
noncomputable def l_Market_most_45 (S : MS) (R : MR) (v0 : Nat) (v1 : Int32) (v4 : Int32) : Nat → MI → Int32 → Option MI
  | 0, _, _ => none
  | f + 1, I, v5 =>
    ifb (v1 ≤ v5)
      (some I)
      (bnd1 (R v0 1) fun b11 =>
      asrt ((S b11).1 = 20) <|
      asrt (vp_in v4 (S b11).2) <|
      bnd1 (f_Market_mostBy S R I v0 v5 v4) fun x14 =>
      bnd1 (f_JMath_max_II (I b11 (Int32.toNatClampNeg v4)) x14) fun x16 =>
      asrt (vp_in v4 (S b11).2) <|
      lt (wI I b11 (Int32.toNatClampNeg v4) x16) fun (I19 : MI) =>
      l_Market_most_45 S R v0 v1 v4 f I19 (v5 + 1))
set_option maxRecDepth 100000 in
set_option maxHeartbeats 4000000 in
theorem xl_Market_most_45 {E : Env} (hE : OKE E) {tg : Bool} {d : Nat} (hd : 2 ≤ d) {S : MS} {L : ML} {R : MR} {n : Nat} {v0 : Nat} {v1 : Int32} {v4 : Int32} {K : KT} :
    ∀ {f : Nat} {I : MI} {v5 : Int32} {I' : MI}, (S v0).1 = 3 → l_Market_most_45 S R v0 v1 v4 f I v5 = some I' → X E y_Market_most b_Market_most 6 (some .int) tg d 0 0 82 [some (.ref (e_b E + v0)), some (.int v1), none, none, some (.int v4), none] [] S I' L R n K → X E y_Market_most b_Market_most 6 (some .int) tg d 0 0 45 [some (.ref (e_b E + v0)), some (.int v1), none, none, some (.int v4), some (.int v5)] [] S I L R n K := by
  intro f
  induction f with
  | zero =>
    intro I v5 I' hS h hk
    rw [l_Market_most_45] at h
    cases h
  | succ f ih =>
    intro I v5 I' hS h hk
    rw [l_Market_most_45] at h
    refine X.iload_5 (pc := 45) (by decide +kernel) ?_
    refine X.iload_1 (pc := 47) (by decide +kernel) ?_
    rcases ifb_some h with ⟨hq10, h⟩ | ⟨hq10, h⟩
    · refine X.icmp_ge_t (pc := 48) (off := 34) (tgt := 82) hq10 rfl (by decide +kernel) ?_
      have j0 := Option.some.inj h
      subst j0
      refine X.fgt (o' := [some (.ref (e_b E + v0)), some (.int v1), none, none, some (.int v4), none]) ⟨rfl, ⟨rfl, ⟨rfl, trivial⟩⟩⟩ ?_
      exact hk
    · refine X.icmp_ge_f (pc := 48) (off := 34) (tgt := 82) hq10 rfl (by decide +kernel) ?_
      refine X.aload_0 (pc := 51) (by decide +kernel) ?_
      obtain ⟨b11, hb11, h⟩ := bnd1_some h
      refine X.getR (pc := 52) (k := 1) fw_Market_15 (by decide +kernel) (fun _ => rfl) hS hb11 ?_
      refine X.iload_4 (pc := 55) (by decide +kernel) ?_
      refine X.aload_0 (pc := 57) (by decide +kernel) ?_
      refine X.getR (pc := 58) (k := 1) fw_Market_15 (by decide +kernel) (fun _ => rfl) hS hb11 ?_
      refine X.iload_4 (pc := 61) (by decide +kernel) ?_
      obtain ⟨hc13, h⟩ := asrt_some h
      obtain ⟨hi12, h⟩ := asrt_some h
      refine X.iaload (pc := 63) (by decide +kernel) hc13 hi12 ?_
      refine X.aload_0 (pc := 64) (by decide +kernel) ?_
      refine X.iload_5 (pc := 65) (by decide +kernel) ?_
      refine X.iload_4 (pc := 67) (by decide +kernel) ?_
      obtain ⟨x14, hv15, h⟩ := bnd1_some h
      refine X.callVi (pc := 69) (nc := 0) (ns := 0) (c_Market_mostBy hE (dle hd (Nat.le_of_ble_eq_true rfl)) hS hv15) cv_Market_25 (by decide +kernel) hS ⟨by decide, rfl⟩ (ddd hd (Nat.le_of_ble_eq_true rfl)) rfl (Nat.le_of_ble_eq_true rfl) rfl rfl ?_
      obtain ⟨x16, hv17, h⟩ := bnd1_some h
      refine X.callSi (pc := 72) (nc := 0) (ns := 0) (c_JMath_max_II hE (dle hd (Nat.le_of_ble_eq_true rfl)) hv17) cv_Market_29 (by decide +kernel) (ddd hd (Nat.le_of_ble_eq_true rfl)) rfl (Nat.le_of_ble_eq_true rfl) rfl rfl ?_
      obtain ⟨hi18, h⟩ := asrt_some h
      refine X.iastore (pc := 75) (by decide +kernel) hc13 hi18 ?_
      refine X.nameMI (fun I19 hI19 => ?_)
      have h := lt_at hI19 h
      refine X.iinc_5 (pc := 76) (z := 1) (v := 1) ic_1 (by decide +kernel) (by decide) rfl ?_
      refine X.goto (pc := 79) (off := (-34)) (tgt := 45) (by decide +kernel) rfl ?_
      exact ih hS h hk
set_option maxRecDepth 100000 in
noncomputable def l_Market_most_19 (g : Nat) (S : MS) (R : MR) (v0 : Nat) (v1 : Int32) : Nat → MI → Int32 → Option MI
  | 0, _, _ => none
  | f + 1, I, v4 =>
    ifb (v4 < 0)
      (some I)
      (bnd1 (R v0 1) fun b5 =>
      asrt ((S b5).1 = 20) <|
      ifb ((Int32.ofNat (S b5).2) ≤ v4)
        (some I)
        (asrt (vp_in v4 (S b5).2) <|
        lt (wI I b5 (Int32.toNatClampNeg v4) 0) fun (I9 : MI) =>
        bnd1 (l_Market_most_45 S R v0 v1 v4 g I9 0) fun I20 =>
        l_Market_most_19 g S R v0 v1 f I20 (v4 + (-1))))
set_option maxRecDepth 100000 in
set_option maxHeartbeats 4000000 in
theorem xl_Market_most_19 {E : Env} (hE : OKE E) {tg : Bool} {d : Nat} (hd : 2 ≤ d) {g : Nat} {S : MS} {L : ML} {R : MR} {n : Nat} {v0 : Nat} {v1 : Int32} {K : KT} :
    ∀ {f : Nat} {I : MI} {v4 : Int32} {I' : MI}, (S v0).1 = 3 → l_Market_most_19 g S R v0 v1 f I v4 = some I' → X E y_Market_most b_Market_most 6 (some .int) tg d 0 0 88 [some (.ref (e_b E + v0)), none, none, none, none, none] [] S I' L R n K → X E y_Market_most b_Market_most 6 (some .int) tg d 0 0 19 [some (.ref (e_b E + v0)), some (.int v1), none, none, some (.int v4), none] [] S I L R n K := by
  intro f
  induction f with
  | zero =>
    intro I v4 I' hS h hk
    rw [l_Market_most_19] at h
    cases h
  | succ f ih =>
    intro I v4 I' hS h hk
    rw [l_Market_most_19] at h
    refine X.iload_4 (pc := 19) (by decide +kernel) ?_
    rcases ifb_some h with ⟨hq4, h⟩ | ⟨hq4, h⟩
    · refine X.if_lt_t (pc := 21) (off := 67) (tgt := 88) hq4 rfl (by decide +kernel) ?_
      have j0 := Option.some.inj h
      subst j0
      refine X.fgt (o' := [some (.ref (e_b E + v0)), none, none, none, none, none]) ⟨rfl, trivial⟩ ?_
      exact hk
    · refine X.if_lt_f (pc := 21) (off := 67) (tgt := 88) hq4 rfl (by decide +kernel) ?_
      refine X.iload_4 (pc := 24) (by decide +kernel) ?_
      refine X.aload_0 (pc := 26) (by decide +kernel) ?_
      obtain ⟨b5, hb5, h⟩ := bnd1_some h
      refine X.getR (pc := 27) (k := 1) fw_Market_15 (by decide +kernel) (fun _ => rfl) hS hb5 ?_
      obtain ⟨hc6, h⟩ := asrt_some h
      refine X.alen (pc := 30) (by decide +kernel) (by rw [hc6]; decide) ?_
      rcases ifb_some h with ⟨hq7, h⟩ | ⟨hq7, h⟩
      · refine X.icmp_ge_t (pc := 31) (off := 57) (tgt := 88) hq7 rfl (by decide +kernel) ?_
        have j0 := Option.some.inj h
        subst j0
        refine X.fgt (o' := [some (.ref (e_b E + v0)), none, none, none, none, none]) ⟨rfl, trivial⟩ ?_
        exact hk
      · refine X.icmp_ge_f (pc := 31) (off := 57) (tgt := 88) hq7 rfl (by decide +kernel) ?_
        refine X.aload_0 (pc := 34) (by decide +kernel) ?_
        refine X.getR (pc := 35) (k := 1) fw_Market_15 (by decide +kernel) (fun _ => rfl) hS hb5 ?_
        refine X.iload_4 (pc := 38) (by decide +kernel) ?_
        refine X.iconst (pc := 40) (i := 0) (v := 0) ic_0 (by decide +kernel) ?_
        obtain ⟨hi8, h⟩ := asrt_some h
        refine X.iastore (pc := 41) (by decide +kernel) hc6 hi8 ?_
        refine X.nameMI (fun I9 hI9 => ?_)
        have h := lt_at hI9 h
        refine X.iconst (pc := 42) (i := 0) (v := 0) ic_0 (by decide +kernel) ?_
        refine X.istore_5 (pc := 43) (by decide +kernel) (by decide) rfl ?_
        obtain ⟨I20, hv21, h⟩ := bnd1_some h
        refine xl_Market_most_45 hE hd hS hv21 ?_
        refine X.iinc_4 (pc := 82) (z := (-1)) (v := (-1)) ic_m1 (by decide +kernel) (by decide) rfl ?_
        refine X.goto (pc := 85) (off := (-66)) (tgt := 19) (by decide +kernel) rfl ?_
        exact ih hS h hk
set_option maxRecDepth 100000 in
noncomputable def f_Market_most (g : Nat) (S : MS) (R : MR) (I : MI) (t : Nat) (p1 : Int32) (p2 : Int32) : Option (Int32 × MI) :=
  lt (wI I t 2 p1) fun (I1 : MI) =>
  lt (wI I1 t 3 p2) fun (I2 : MI) =>
  lt ((isl 1 p1) - 1) fun (x3 : Int32) =>
  bnd1 (l_Market_most_19 g S R t p1 g I2 x3) fun I22 =>
  bnd1 (R t 1) fun b24 =>
  asrt ((S b24).1 = 20) <|
  asrt (vp_in 0 (S b24).2) <|
  lt (I22 b24 (Int32.toNatClampNeg 0)) fun (x27 : Int32) =>
  some (x27, I22)
set_option maxRecDepth 100000 in
set_option maxHeartbeats 4000000 in
theorem c_Market_most {E : Env} (hE : OKE E) {tg : Bool} {d : Nat} (hd : 2 ≤ d) {g : Nat} {S : MS} {I : MI} {L : ML} {R : MR} {n : Nat} {t : Nat} {p1 : Int32} {p2 : Int32} {v : Int32} {I' : MI} (hS : (S t).1 = 3) (h : f_Market_most g S R I t p1 p2 = some (v, I')) : C E y_Market_most b_Market_most 6 (some .int) tg d 0 0 [.ref (e_b E + t), .int p1, .int p2] S I L R n (Kq (some (.int v)) S I' L R n) := by
  refine C.of (o := [some (.ref (e_b E + t)), some (.int p1), some (.int p2), none, none, none]) (by decide) rfl (Nat.le_of_ble_eq_true rfl) ?_
  rw [f_Market_most] at h
  refine X.aload_0 (pc := 0) (by decide +kernel) ?_
  refine X.iload_1 (pc := 1) (by decide +kernel) ?_
  refine X.putI (pc := 2) (k := 2) fw_Market_22 (by decide +kernel) rfl rfl hS ?_
  refine X.nameMI (fun I1 hI1 => ?_)
  have h := lt_at hI1 h
  refine X.aload_0 (pc := 5) (by decide +kernel) ?_
  refine X.iload_2 (pc := 6) (by decide +kernel) ?_
  refine X.putI (pc := 7) (k := 3) fw_Market_18 (by decide +kernel) rfl rfl hS ?_
  refine X.nameMI (fun I2 hI2 => ?_)
  have h := lt_at hI2 h
  refine X.iconst (pc := 10) (i := 1) (v := 1) ic_1 (by decide +kernel) ?_
  refine X.iload_1 (pc := 11) (by decide +kernel) ?_
  refine X.ishl (pc := 12) (by decide +kernel) ?_
  refine X.iconst (pc := 13) (i := 1) (v := 1) ic_1 (by decide +kernel) ?_
  refine X.isub (pc := 14) (by decide +kernel) ?_
  refine X.nameI (fun x3 hx3 => ?_)
  have h := lt_at hx3 h
  refine X.istore_3 (pc := 15) (by decide +kernel) (by decide) rfl ?_
  refine X.iload_3 (pc := 16) (by decide +kernel) ?_
  refine X.istore_4 (pc := 17) (by decide +kernel) (by decide) rfl ?_
  obtain ⟨I22, hv23, h⟩ := bnd1_some h
  refine X.fgt (o' := [some (.ref (e_b E + t)), some (.int p1), none, none, some (.int x3), none]) ⟨rfl, ⟨rfl, ⟨rfl, trivial⟩⟩⟩ ?_
  refine xl_Market_most_19 hE hd hS hv23 ?_
  refine X.aload_0 (pc := 88) (by decide +kernel) ?_
  obtain ⟨b24, hb24, h⟩ := bnd1_some h
  refine X.getR (pc := 89) (k := 1) fw_Market_15 (by decide +kernel) (fun _ => rfl) hS hb24 ?_
  refine X.iconst (pc := 92) (i := 0) (v := 0) ic_0 (by decide +kernel) ?_
  obtain ⟨hc26, h⟩ := asrt_some h
  obtain ⟨hi25, h⟩ := asrt_some h
  refine X.iaload (pc := 93) (by decide +kernel) hc26 hi25 ?_
  refine X.nameI (fun x27 hx27 => ?_)
  have h := lt_at hx27 h
  have j0 := Option.some.inj h
  obtain ⟨i0, j1⟩ := Prod.mk.inj j0
  subst i0
  subst j1
  exact X.ireturn (pc := 94) (by decide +kernel) ⟨_, rfl, rfl⟩ ⟨rfl, rfl, rfl, rfl, rfl, rfl⟩
set_option maxRecDepth 100000 in
noncomputable def l_Market_leastGuide_2 (S : MS) (R : MR) (I : MI) (v0 : Nat) (v1 : Int32) : Nat → Int32 → Option Int32
  | 0, _ => none
  | f + 1, v2 =>
    ifb ((I v0 2) ≤ v2)
      (some 0)
      (ifb (v1 < 0)
        (l_Market_leastGuide_2 S R I v0 v1 f (v2 + 1))
        (bnd1 (R v0 1) fun b3 =>
        asrt ((S b3).1 = 20) <|
        ifb ((Int32.ofNat (S b3).2) ≤ v1)
          (l_Market_leastGuide_2 S R I v0 v1 f (v2 + 1))
          (bnd1 (f_Market_mostBy S R I v0 v2 v1) fun x6 =>
          asrt (vp_in v1 (S b3).2) <|
          ifb (x6 = (I b3 (Int32.toNatClampNeg v1)))
            (some v2)
            (l_Market_leastGuide_2 S R I v0 v1 f (v2 + 1)))))
set_option maxRecDepth 100000 in
set_option maxHeartbeats 4000000 in
theorem xl_Market_leastGuide_2 {E : Env} (hE : OKE E) {tg : Bool} {d : Nat} (hd : 2 ≤ d) {S : MS} {I : MI} {L : ML} {R : MR} {n : Nat} {v0 : Nat} {v1 : Int32} :
    ∀ {f : Nat}  {v2 : Int32} {v : Int32}, (S v0).1 = 3 → l_Market_leastGuide_2 S R I v0 v1 f v2 = some v → X E y_Market_leastGuide b_Market_leastGuide 3 (some .int) tg d 0 0 2 [some (.ref (e_b E + v0)), some (.int v1), some (.int v2)] [] S I L R n (Kq (some (.int v)) S I L R n) := by
  intro f
  induction f with
  | zero =>
    intro v2 v hS h
    rw [l_Market_leastGuide_2] at h
    cases h
  | succ f ih =>
    intro v2 v hS h
    rw [l_Market_leastGuide_2] at h
    refine X.iload_2 (pc := 2) (by decide +kernel) ?_
    refine X.aload_0 (pc := 3) (by decide +kernel) ?_
    refine X.getI (pc := 4) (k := 2) fw_Market_22 (by decide +kernel) (fun _ => rfl) hS ?_
    rcases ifb_some h with ⟨hq1, h⟩ | ⟨hq1, h⟩
    · refine X.icmp_ge_t (pc := 7) (off := 39) (tgt := 46) hq1 rfl (by decide +kernel) ?_
      refine X.iconst (pc := 46) (i := 0) (v := 0) ic_0 (by decide +kernel) ?_
      have j0 := Option.some.inj h
      subst j0
      exact X.ireturn (pc := 47) (by decide +kernel) ⟨_, rfl, rfl⟩ ⟨rfl, rfl, rfl, rfl, rfl, rfl⟩
    · refine X.icmp_ge_f (pc := 7) (off := 39) (tgt := 46) hq1 rfl (by decide +kernel) ?_
      refine X.iload_1 (pc := 10) (by decide +kernel) ?_
      rcases ifb_some h with ⟨hq2, h⟩ | ⟨hq2, h⟩
      · refine X.if_lt_t (pc := 11) (off := 29) (tgt := 40) hq2 rfl (by decide +kernel) ?_
        refine X.iinc_2 (pc := 40) (z := 1) (v := 1) ic_1 (by decide +kernel) (by decide) rfl ?_
        refine X.goto (pc := 43) (off := (-41)) (tgt := 2) (by decide +kernel) rfl ?_
        exact ih hS h
      · refine X.if_lt_f (pc := 11) (off := 29) (tgt := 40) hq2 rfl (by decide +kernel) ?_
        refine X.iload_1 (pc := 14) (by decide +kernel) ?_
        refine X.aload_0 (pc := 15) (by decide +kernel) ?_
        obtain ⟨b3, hb3, h⟩ := bnd1_some h
        refine X.getR (pc := 16) (k := 1) fw_Market_15 (by decide +kernel) (fun _ => rfl) hS hb3 ?_
        obtain ⟨hc4, h⟩ := asrt_some h
        refine X.alen (pc := 19) (by decide +kernel) (by rw [hc4]; decide) ?_
        rcases ifb_some h with ⟨hq5, h⟩ | ⟨hq5, h⟩
        · refine X.icmp_ge_t (pc := 20) (off := 20) (tgt := 40) hq5 rfl (by decide +kernel) ?_
          refine X.iinc_2 (pc := 40) (z := 1) (v := 1) ic_1 (by decide +kernel) (by decide) rfl ?_
          refine X.goto (pc := 43) (off := (-41)) (tgt := 2) (by decide +kernel) rfl ?_
          exact ih hS h
        · refine X.icmp_ge_f (pc := 20) (off := 20) (tgt := 40) hq5 rfl (by decide +kernel) ?_
          refine X.aload_0 (pc := 23) (by decide +kernel) ?_
          refine X.iload_2 (pc := 24) (by decide +kernel) ?_
          refine X.iload_1 (pc := 25) (by decide +kernel) ?_
          obtain ⟨x6, hv7, h⟩ := bnd1_some h
          refine X.callVi (pc := 26) (nc := 0) (ns := 0) (c_Market_mostBy hE (dle hd (Nat.le_of_ble_eq_true rfl)) hS hv7) cv_Market_25 (by decide +kernel) hS ⟨by decide, rfl⟩ (ddd hd (Nat.le_of_ble_eq_true rfl)) rfl (Nat.le_of_ble_eq_true rfl) rfl rfl ?_
          refine X.aload_0 (pc := 29) (by decide +kernel) ?_
          refine X.getR (pc := 30) (k := 1) fw_Market_15 (by decide +kernel) (fun _ => rfl) hS hb3 ?_
          refine X.iload_1 (pc := 33) (by decide +kernel) ?_
          obtain ⟨hi8, h⟩ := asrt_some h
          refine X.iaload (pc := 34) (by decide +kernel) hc4 hi8 ?_
          rcases ifb_some h with ⟨hq9, h⟩ | ⟨hq9, h⟩
          · refine X.icmp_ne_f (pc := 35) (off := 5) (tgt := 40) hq9 rfl (by decide +kernel) ?_
            refine X.iload_2 (pc := 38) (by decide +kernel) ?_
            have j0 := Option.some.inj h
            subst j0
            exact X.ireturn (pc := 39) (by decide +kernel) ⟨_, rfl, rfl⟩ ⟨rfl, rfl, rfl, rfl, rfl, rfl⟩
          · refine X.icmp_ne_t (pc := 35) (off := 5) (tgt := 40) hq9 rfl (by decide +kernel) ?_
            refine X.iinc_2 (pc := 40) (z := 1) (v := 1) ic_1 (by decide +kernel) (by decide) rfl ?_
            refine X.goto (pc := 43) (off := (-41)) (tgt := 2) (by decide +kernel) rfl ?_
            exact ih hS h
set_option maxRecDepth 100000 in
noncomputable def f_Market_leastGuide (g : Nat) (S : MS) (R : MR) (I : MI) (t : Nat) (p1 : Int32) : Option Int32 :=
  l_Market_leastGuide_2 S R I t p1 g 0
set_option maxRecDepth 100000 in
set_option maxHeartbeats 4000000 in
theorem c_Market_leastGuide {E : Env} (hE : OKE E) {tg : Bool} {d : Nat} (hd : 2 ≤ d) {g : Nat} {S : MS} {I : MI} {L : ML} {R : MR} {n : Nat} {t : Nat} {p1 : Int32} {v : Int32} (hS : (S t).1 = 3) (h : f_Market_leastGuide g S R I t p1 = some v) : C E y_Market_leastGuide b_Market_leastGuide 3 (some .int) tg d 0 0 [.ref (e_b E + t), .int p1] S I L R n (Kq (some (.int v)) S I L R n) := by
  refine C.of (o := [some (.ref (e_b E + t)), some (.int p1), none]) (by decide) rfl (Nat.le_of_ble_eq_true rfl) ?_
  rw [f_Market_leastGuide] at h
  refine X.iconst (pc := 0) (i := 0) (v := 0) ic_0 (by decide +kernel) ?_
  refine X.istore_2 (pc := 1) (by decide +kernel) (by decide) rfl ?_
  exact xl_Market_leastGuide_2 hE hd hS h
set_option maxRecDepth 100000 in
noncomputable def l_Market_tellGuides_4 (g : Nat) (S : MS) (R : MR) (v0 : Nat) (v1 : Nat) : Nat → MI → ML → Int32 → Int32 → Option (MI × ML)
  | 0, _, _, _, _ => none
  | f + 1, I, L, v2, v3 =>
    ifb ((I v0 2) ≤ v3)
      (some (I, L))
      (bnd1 (f_Market_leastGuide g S R I v0 v2) fun x2 =>
      asrt ((S v1).1 = 4) <|
      bnd2 (f_Numbers_add S R I L v1 (Int32.toInt64 x2)) fun I5 L6 =>
      lt (v2 ||| (isl 1 x2)) fun (x8 : Int32) =>
      l_Market_tellGuides_4 g S R v0 v1 f I5 L6 x8 (v3 + 1))
set_option maxRecDepth 100000 in
set_option maxHeartbeats 4000000 in
theorem xl_Market_tellGuides_4 {E : Env} (hE : OKE E) {tg : Bool} {d : Nat} (hd : 3 ≤ d) {g : Nat} {S : MS} {R : MR} {n : Nat} {v0 : Nat} {v1 : Nat} {K : KT} :
    ∀ {f : Nat} {I : MI} {L : ML} {v2 : Int32} {v3 : Int32} {I' : MI} {L' : ML}, (S v0).1 = 3 → l_Market_tellGuides_4 g S R v0 v1 f I L v2 v3 = some (I', L') → X E y_Market_tellGuides b_Market_tellGuides 5 none tg d 0 0 39 [none, none, none, none, none] [] S I' L' R n K → X E y_Market_tellGuides b_Market_tellGuides 5 none tg d 0 0 4 [some (.ref (e_b E + v0)), some (.ref (e_b E + v1)), some (.int v2), some (.int v3), none] [] S I L R n K := by
  intro f
  induction f with
  | zero =>
    intro I L v2 v3 I' L' hS h hk
    rw [l_Market_tellGuides_4] at h
    cases h
  | succ f ih =>
    intro I L v2 v3 I' L' hS h hk
    rw [l_Market_tellGuides_4] at h
    refine X.iload_3 (pc := 4) (by decide +kernel) ?_
    refine X.aload_0 (pc := 5) (by decide +kernel) ?_
    refine X.getI (pc := 6) (k := 2) fw_Market_22 (by decide +kernel) (fun _ => rfl) hS ?_
    rcases ifb_some h with ⟨hq1, h⟩ | ⟨hq1, h⟩
    · refine X.icmp_ge_t (pc := 9) (off := 30) (tgt := 39) hq1 rfl (by decide +kernel) ?_
      have j0 := Option.some.inj h
      obtain ⟨i0, j1⟩ := Prod.mk.inj j0
      subst i0
      subst j1
      refine X.fgt (o' := [none, none, none, none, none]) trivial ?_
      exact hk
    · refine X.icmp_ge_f (pc := 9) (off := 30) (tgt := 39) hq1 rfl (by decide +kernel) ?_
      refine X.aload_0 (pc := 12) (by decide +kernel) ?_
      refine X.iload_2 (pc := 13) (by decide +kernel) ?_
      obtain ⟨x2, hv3, h⟩ := bnd1_some h
      refine X.callVi (pc := 14) (nc := 0) (ns := 0) (c_Market_leastGuide hE (dle hd (Nat.le_of_ble_eq_true rfl)) hS hv3) cv_Market_40 (by decide +kernel) hS ⟨by decide, rfl⟩ (ddd hd (Nat.le_of_ble_eq_true rfl)) rfl (Nat.le_of_ble_eq_true rfl) rfl rfl ?_
      refine X.istore_4 (pc := 17) (by decide +kernel) (by decide) rfl ?_
      refine X.aload_1 (pc := 19) (by decide +kernel) ?_
      refine X.iload_4 (pc := 20) (by decide +kernel) ?_
      refine X.i2l (pc := 22) (by decide +kernel) ?_
      obtain ⟨hc4, h⟩ := asrt_some h
      obtain ⟨I5, L6, hv7, h⟩ := bnd2_some h
      refine X.callVv (pc := 23) (nc := 0) (ns := 0) (c_Numbers_add hE (dle hd (Nat.le_of_ble_eq_true rfl)) hc4 hv7) cv_Market_43 (by decide +kernel) hc4 ⟨by decide, rfl⟩ (ddd hd (Nat.le_of_ble_eq_true rfl)) rfl (Nat.le_of_ble_eq_true rfl) rfl rfl ?_
      refine X.iload_2 (pc := 26) (by decide +kernel) ?_
      refine X.iconst (pc := 27) (i := 1) (v := 1) ic_1 (by decide +kernel) ?_
      refine X.iload_4 (pc := 28) (by decide +kernel) ?_
      refine X.ishl (pc := 30) (by decide +kernel) ?_
      refine X.ior (pc := 31) (by decide +kernel) ?_
      refine X.nameI (fun x8 hx8 => ?_)
      have h := lt_at hx8 h
      refine X.istore_2 (pc := 32) (by decide +kernel) (by decide) rfl ?_
      refine X.iinc_3 (pc := 33) (z := 1) (v := 1) ic_1 (by decide +kernel) (by decide) rfl ?_
      refine X.goto (pc := 36) (off := (-32)) (tgt := 4) (by decide +kernel) rfl ?_
      refine X.fgt (o' := [some (.ref (e_b E + v0)), some (.ref (e_b E + v1)), some (.int x8), some (.int (v3 + 1)), none]) ⟨rfl, ⟨rfl, ⟨rfl, ⟨rfl, trivial⟩⟩⟩⟩ ?_
      exact ih hS h hk
set_option maxRecDepth 100000 in
noncomputable def f_Market_tellGuides (g : Nat) (S : MS) (R : MR) (I : MI) (L : ML) (t : Nat) (p1 : Nat) : Option (MI × ML) :=
  bnd2 (l_Market_tellGuides_4 g S R t p1 g I L 0 0) fun I9 L10 =>
  some (I9, L10)
set_option maxRecDepth 100000 in
set_option maxHeartbeats 4000000 in
theorem c_Market_tellGuides {E : Env} (hE : OKE E) {tg : Bool} {d : Nat} (hd : 3 ≤ d) {g : Nat} {S : MS} {I : MI} {L : ML} {R : MR} {n : Nat} {t : Nat} {p1 : Nat} {I' : MI} {L' : ML} (hS : (S t).1 = 3) (h : f_Market_tellGuides g S R I L t p1 = some (I', L')) : C E y_Market_tellGuides b_Market_tellGuides 5 none tg d 0 0 [.ref (e_b E + t), .ref (e_b E + p1)] S I L R n (Kq none S I' L' R n) := by
  refine C.of (o := [some (.ref (e_b E + t)), some (.ref (e_b E + p1)), none, none, none]) (by decide) rfl (Nat.le_of_ble_eq_true rfl) ?_
  rw [f_Market_tellGuides] at h
  refine X.iconst (pc := 0) (i := 0) (v := 0) ic_0 (by decide +kernel) ?_
  refine X.istore_2 (pc := 1) (by decide +kernel) (by decide) rfl ?_
  refine X.iconst (pc := 2) (i := 0) (v := 0) ic_0 (by decide +kernel) ?_
  refine X.istore_3 (pc := 3) (by decide +kernel) (by decide) rfl ?_
  obtain ⟨I9, L10, hv11, h⟩ := bnd2_some h
  refine xl_Market_tellGuides_4 hE hd hS hv11 ?_
  have j0 := Option.some.inj h
  obtain ⟨i0, j1⟩ := Prod.mk.inj j0
  subst i0
  subst j1
  exact X.vreturn (pc := 39) (by decide +kernel) rfl ⟨rfl, rfl, rfl, rfl, rfl, rfl⟩
set_option maxRecDepth 100000 in
noncomputable def f_GWL_hire (g : Nat) (S : MS) (R : MR) (I : MI) (L : ML) (t : Nat) (p1 : Int32) : Option (Int32 × MI × ML) :=
  ifb (p1 < 1)
    (some ((-1), I, L))
    (ifb (p1 ≤ 5)
      (bnd1 (R t 18) fun b3 =>
      asrt ((S b3).1 = 3) <|
      bnd2 (f_Market_most g S R I b3 p1 (-1)) fun x5 I6 =>
      bnd1 (R t 1) fun b8 =>
      asrt ((S b8).1 = 4) <|
      bnd1 (f_Numbers_begin S I6 b8) fun I10 =>
      bnd2 (f_Market_tellGuides g S R I10 L b3 b8) fun I12 L13 =>
      some (x5, I12, L13))
      (some ((-1), I, L)))
set_option maxRecDepth 100000 in
set_option maxHeartbeats 4000000 in
theorem c_GWL_hire {E : Env} (hE : OKE E) {tg : Bool} {d : Nat} (hd : 4 ≤ d) {g : Nat} {S : MS} {I : MI} {L : ML} {R : MR} {n : Nat} {t : Nat} {p1 : Int32} {v : Int32} {I' : MI} {L' : ML} (hS : (S t).1 = 11) (h : f_GWL_hire g S R I L t p1 = some (v, I', L')) : C E y_GWL_hire b_GWL_hire 3 (some .int) tg d 0 0 [.ref (e_b E + t), .int p1] S I L R n (Kq (some (.int v)) S I' L' R n) := by
  refine C.of (o := [some (.ref (e_b E + t)), some (.int p1), none]) (by decide) rfl (Nat.le_of_ble_eq_true rfl) ?_
  rw [f_GWL_hire] at h
  refine X.iload_1 (pc := 0) (by decide +kernel) ?_
  refine X.iconst (pc := 1) (i := 1) (v := 1) ic_1 (by decide +kernel) ?_
  rcases ifb_some h with ⟨hq1, h⟩ | ⟨hq1, h⟩
  · refine X.icmp_lt_t (pc := 2) (off := 8) (tgt := 10) hq1 rfl (by decide +kernel) ?_
    refine X.iconst (pc := 10) (i := (-1)) (v := (-1)) ic_m1 (by decide +kernel) ?_
    have j0 := Option.some.inj h
    obtain ⟨i0, j1⟩ := Prod.mk.inj j0
    obtain ⟨i1, j2⟩ := Prod.mk.inj j1
    subst i0
    subst i1
    subst j2
    exact X.ireturn (pc := 11) (by decide +kernel) ⟨_, rfl, rfl⟩ ⟨rfl, rfl, rfl, rfl, rfl, rfl⟩
  · refine X.icmp_lt_f (pc := 2) (off := 8) (tgt := 10) hq1 rfl (by decide +kernel) ?_
    refine X.iload_1 (pc := 5) (by decide +kernel) ?_
    refine X.iconst (pc := 6) (i := 5) (v := 5) ic_5 (by decide +kernel) ?_
    rcases ifb_some h with ⟨hq2, h⟩ | ⟨hq2, h⟩
    · refine X.icmp_le_t (pc := 7) (off := 5) (tgt := 12) hq2 rfl (by decide +kernel) ?_
      refine X.aload_0 (pc := 12) (by decide +kernel) ?_
      obtain ⟨b3, hb3, h⟩ := bnd1_some h
      refine X.getR (pc := 13) (k := 18) fw_GWL_75 (by decide +kernel) (fun _ => rfl) hS hb3 ?_
      refine X.iload_1 (pc := 16) (by decide +kernel) ?_
      refine X.iconst (pc := 17) (i := (-1)) (v := (-1)) ic_m1 (by decide +kernel) ?_
      obtain ⟨hc4, h⟩ := asrt_some h
      obtain ⟨x5, I6, hv7, h⟩ := bnd2_some h
      refine X.callVi (pc := 18) (nc := 0) (ns := 0) (c_Market_most hE (dle hd (Nat.le_of_ble_eq_true rfl)) hc4 hv7) cv_GWL_386 (by decide +kernel) hc4 ⟨by decide, rfl⟩ (ddd hd (Nat.le_of_ble_eq_true rfl)) rfl (Nat.le_of_ble_eq_true rfl) rfl rfl ?_
      refine X.istore_2 (pc := 21) (by decide +kernel) (by decide) rfl ?_
      refine X.aload_0 (pc := 22) (by decide +kernel) ?_
      obtain ⟨b8, hb8, h⟩ := bnd1_some h
      refine X.getR (pc := 23) (k := 1) fw_GWL_19 (by decide +kernel) (fun _ => rfl) hS hb8 ?_
      obtain ⟨hc9, h⟩ := asrt_some h
      obtain ⟨I10, hv11, h⟩ := bnd1_some h
      refine X.callVv (pc := 26) (nc := 0) (ns := 0) (c_Numbers_begin hE (dle hd (Nat.le_of_ble_eq_true rfl)) hc9 hv11) cv_GWL_207 (by decide +kernel) hc9 ⟨by decide, rfl⟩ (ddd hd (Nat.le_of_ble_eq_true rfl)) rfl (Nat.le_of_ble_eq_true rfl) rfl rfl ?_
      refine X.aload_0 (pc := 29) (by decide +kernel) ?_
      refine X.getR (pc := 30) (k := 18) fw_GWL_75 (by decide +kernel) (fun _ => rfl) hS hb3 ?_
      refine X.aload_0 (pc := 33) (by decide +kernel) ?_
      refine X.getR (pc := 34) (k := 1) fw_GWL_19 (by decide +kernel) (fun _ => rfl) hS hb8 ?_
      obtain ⟨I12, L13, hv14, h⟩ := bnd2_some h
      refine X.callVv (pc := 37) (nc := 0) (ns := 0) (c_Market_tellGuides hE (dle hd (Nat.le_of_ble_eq_true rfl)) hc4 hv14) cv_GWL_389 (by decide +kernel) hc4 ⟨by decide, rfl⟩ (ddd hd (Nat.le_of_ble_eq_true rfl)) rfl (Nat.le_of_ble_eq_true rfl) rfl rfl ?_
      refine X.iload_2 (pc := 40) (by decide +kernel) ?_
      have j0 := Option.some.inj h
      obtain ⟨i0, j1⟩ := Prod.mk.inj j0
      obtain ⟨i1, j2⟩ := Prod.mk.inj j1
      subst i0
      subst i1
      subst j2
      exact X.ireturn (pc := 41) (by decide +kernel) ⟨_, rfl, rfl⟩ ⟨rfl, rfl, rfl, rfl, rfl, rfl⟩
    · refine X.icmp_le_f (pc := 7) (off := 5) (tgt := 12) hq2 rfl (by decide +kernel) ?_
      refine X.iconst (pc := 10) (i := (-1)) (v := (-1)) ic_m1 (by decide +kernel) ?_
      have j0 := Option.some.inj h
      obtain ⟨i0, j1⟩ := Prod.mk.inj j0
      obtain ⟨i1, j2⟩ := Prod.mk.inj j1
      subst i0
      subst i1
      subst j2
      exact X.ireturn (pc := 11) (by decide +kernel) ⟨_, rfl, rfl⟩ ⟨rfl, rfl, rfl, rfl, rfl, rfl⟩
set_option maxRecDepth 100000 in
noncomputable def f_GWL_hoarse (g : Nat) (S : MS) (R : MR) (I : MI) (t : Nat) (p1 : Int32) (p2 : Int32) : Option (Int32 × MI) :=
  ifb (p2 < 1)
    (some ((-1), I))
    (ifb (5 < p2)
      (some ((-1), I))
      (ifb (p1 < 0)
        (some ((-1), I))
        (ifb (p1 < p2)
          (bnd1 (R t 18) fun b5 =>
          asrt ((S b5).1 = 3) <|
          bnd2 (f_Market_most g S R I b5 p2 (-1)) fun x7 I8 =>
          bnd2 (f_Market_most g S R I8 b5 p2 p1) fun x10 I11 =>
          lt (x7 - x10) fun (x13 : Int32) =>
          some (x13, I11))
          (some ((-1), I)))))
set_option maxRecDepth 100000 in
set_option maxHeartbeats 4000000 in
theorem c_GWL_hoarse {E : Env} (hE : OKE E) {tg : Bool} {d : Nat} (hd : 3 ≤ d) {g : Nat} {S : MS} {I : MI} {L : ML} {R : MR} {n : Nat} {t : Nat} {p1 : Int32} {p2 : Int32} {v : Int32} {I' : MI} (hS : (S t).1 = 11) (h : f_GWL_hoarse g S R I t p1 p2 = some (v, I')) : C E y_GWL_hoarse b_GWL_hoarse 3 (some .int) tg d 0 0 [.ref (e_b E + t), .int p1, .int p2] S I L R n (Kq (some (.int v)) S I' L R n) := by
  refine C.of (o := [some (.ref (e_b E + t)), some (.int p1), some (.int p2)]) (by decide) rfl (Nat.le_of_ble_eq_true rfl) ?_
  rw [f_GWL_hoarse] at h
  refine X.iload_2 (pc := 0) (by decide +kernel) ?_
  refine X.iconst (pc := 1) (i := 1) (v := 1) ic_1 (by decide +kernel) ?_
  rcases ifb_some h with ⟨hq1, h⟩ | ⟨hq1, h⟩
  · refine X.icmp_lt_t (pc := 2) (off := 17) (tgt := 19) hq1 rfl (by decide +kernel) ?_
    refine X.iconst (pc := 19) (i := (-1)) (v := (-1)) ic_m1 (by decide +kernel) ?_
    have j0 := Option.some.inj h
    obtain ⟨i0, j1⟩ := Prod.mk.inj j0
    subst i0
    subst j1
    exact X.ireturn (pc := 20) (by decide +kernel) ⟨_, rfl, rfl⟩ ⟨rfl, rfl, rfl, rfl, rfl, rfl⟩
  · refine X.icmp_lt_f (pc := 2) (off := 17) (tgt := 19) hq1 rfl (by decide +kernel) ?_
    refine X.iload_2 (pc := 5) (by decide +kernel) ?_
    refine X.iconst (pc := 6) (i := 5) (v := 5) ic_5 (by decide +kernel) ?_
    rcases ifb_some h with ⟨hq2, h⟩ | ⟨hq2, h⟩
    · refine X.icmp_gt_t (pc := 7) (off := 12) (tgt := 19) hq2 rfl (by decide +kernel) ?_
      refine X.iconst (pc := 19) (i := (-1)) (v := (-1)) ic_m1 (by decide +kernel) ?_
      have j0 := Option.some.inj h
      obtain ⟨i0, j1⟩ := Prod.mk.inj j0
      subst i0
      subst j1
      exact X.ireturn (pc := 20) (by decide +kernel) ⟨_, rfl, rfl⟩ ⟨rfl, rfl, rfl, rfl, rfl, rfl⟩
    · refine X.icmp_gt_f (pc := 7) (off := 12) (tgt := 19) hq2 rfl (by decide +kernel) ?_
      refine X.iload_1 (pc := 10) (by decide +kernel) ?_
      rcases ifb_some h with ⟨hq3, h⟩ | ⟨hq3, h⟩
      · refine X.if_lt_t (pc := 11) (off := 8) (tgt := 19) hq3 rfl (by decide +kernel) ?_
        refine X.iconst (pc := 19) (i := (-1)) (v := (-1)) ic_m1 (by decide +kernel) ?_
        have j0 := Option.some.inj h
        obtain ⟨i0, j1⟩ := Prod.mk.inj j0
        subst i0
        subst j1
        exact X.ireturn (pc := 20) (by decide +kernel) ⟨_, rfl, rfl⟩ ⟨rfl, rfl, rfl, rfl, rfl, rfl⟩
      · refine X.if_lt_f (pc := 11) (off := 8) (tgt := 19) hq3 rfl (by decide +kernel) ?_
        refine X.iload_1 (pc := 14) (by decide +kernel) ?_
        refine X.iload_2 (pc := 15) (by decide +kernel) ?_
        rcases ifb_some h with ⟨hq4, h⟩ | ⟨hq4, h⟩
        · refine X.icmp_lt_t (pc := 16) (off := 5) (tgt := 21) hq4 rfl (by decide +kernel) ?_
          refine X.aload_0 (pc := 21) (by decide +kernel) ?_
          obtain ⟨b5, hb5, h⟩ := bnd1_some h
          refine X.getR (pc := 22) (k := 18) fw_GWL_75 (by decide +kernel) (fun _ => rfl) hS hb5 ?_
          refine X.iload_2 (pc := 25) (by decide +kernel) ?_
          refine X.iconst (pc := 26) (i := (-1)) (v := (-1)) ic_m1 (by decide +kernel) ?_
          obtain ⟨hc6, h⟩ := asrt_some h
          obtain ⟨x7, I8, hv9, h⟩ := bnd2_some h
          refine X.callVi (pc := 27) (nc := 0) (ns := 0) (c_Market_most hE (dle hd (Nat.le_of_ble_eq_true rfl)) hc6 hv9) cv_GWL_386 (by decide +kernel) hc6 ⟨by decide, rfl⟩ (ddd hd (Nat.le_of_ble_eq_true rfl)) rfl (Nat.le_of_ble_eq_true rfl) rfl rfl ?_
          refine X.aload_0 (pc := 30) (by decide +kernel) ?_
          refine X.getR (pc := 31) (k := 18) fw_GWL_75 (by decide +kernel) (fun _ => rfl) hS hb5 ?_
          refine X.iload_2 (pc := 34) (by decide +kernel) ?_
          refine X.iload_1 (pc := 35) (by decide +kernel) ?_
          obtain ⟨x10, I11, hv12, h⟩ := bnd2_some h
          refine X.callVi (pc := 36) (nc := 0) (ns := 0) (c_Market_most hE (dle hd (Nat.le_of_ble_eq_true rfl)) hc6 hv12) cv_GWL_386 (by decide +kernel) hc6 ⟨by decide, rfl⟩ (ddd hd (Nat.le_of_ble_eq_true rfl)) rfl (Nat.le_of_ble_eq_true rfl) rfl rfl ?_
          refine X.isub (pc := 39) (by decide +kernel) ?_
          refine X.nameI (fun x13 hx13 => ?_)
          have h := lt_at hx13 h
          have j0 := Option.some.inj h
          obtain ⟨i0, j1⟩ := Prod.mk.inj j0
          subst i0
          subst j1
          exact X.ireturn (pc := 40) (by decide +kernel) ⟨_, rfl, rfl⟩ ⟨rfl, rfl, rfl, rfl, rfl, rfl⟩
        · refine X.icmp_lt_f (pc := 16) (off := 5) (tgt := 21) hq4 rfl (by decide +kernel) ?_
          refine X.iconst (pc := 19) (i := (-1)) (v := (-1)) ic_m1 (by decide +kernel) ?_
          have j0 := Option.some.inj h
          obtain ⟨i0, j1⟩ := Prod.mk.inj j0
          subst i0
          subst j1
          exact X.ireturn (pc := 20) (by decide +kernel) ⟨_, rfl, rfl⟩ ⟨rfl, rfl, rfl, rfl, rfl, rfl⟩
set_option maxRecDepth 100000 in
noncomputable def f_GWL_seed (S : MS) (R : MR) (I : MI) (t : Nat) (p1 : Int32) : Option (Int32 × MI) :=
  bnd1 (R t 3) fun b1 =>
  asrt ((S b1).1 = 5) <|
  lt (I b1 3) fun (x3 : Int32) =>
  lt (wI I b1 3 p1) fun (I4 : MI) =>
  some (x3, I4)
set_option maxRecDepth 100000 in
set_option maxHeartbeats 4000000 in
theorem c_GWL_seed {E : Env} (hE : OKE E) {tg : Bool} {d : Nat} (hd : 0 ≤ d) {S : MS} {I : MI} {L : ML} {R : MR} {n : Nat} {t : Nat} {p1 : Int32} {v : Int32} {I' : MI} (hS : (S t).1 = 11) (h : f_GWL_seed S R I t p1 = some (v, I')) : C E y_GWL_seed b_GWL_seed 3 (some .int) tg d 0 0 [.ref (e_b E + t), .int p1] S I L R n (Kq (some (.int v)) S I' L R n) := by
  refine C.of (o := [some (.ref (e_b E + t)), some (.int p1), none]) (by decide) rfl (Nat.le_of_ble_eq_true rfl) ?_
  rw [f_GWL_seed] at h
  refine X.aload_0 (pc := 0) (by decide +kernel) ?_
  obtain ⟨b1, hb1, h⟩ := bnd1_some h
  refine X.getR (pc := 1) (k := 3) fw_GWL_87 (by decide +kernel) (fun _ => rfl) hS hb1 ?_
  obtain ⟨hc2, h⟩ := asrt_some h
  refine X.getI (pc := 4) (k := 3) fw_GWL_392 (by decide +kernel) (fun _ => rfl) hc2 ?_
  refine X.nameI (fun x3 hx3 => ?_)
  have h := lt_at hx3 h
  refine X.istore_2 (pc := 7) (by decide +kernel) (by decide) rfl ?_
  refine X.aload_0 (pc := 8) (by decide +kernel) ?_
  refine X.getR (pc := 9) (k := 3) fw_GWL_87 (by decide +kernel) (fun _ => rfl) hS hb1 ?_
  refine X.iload_1 (pc := 12) (by decide +kernel) ?_
  refine X.putI (pc := 13) (k := 3) fw_GWL_392 (by decide +kernel) rfl rfl hc2 ?_
  refine X.nameMI (fun I4 hI4 => ?_)
  have h := lt_at hI4 h
  refine X.iload_2 (pc := 16) (by decide +kernel) ?_
  have j0 := Option.some.inj h
  obtain ⟨i0, j1⟩ := Prod.mk.inj j0
  subst i0
  subst j1
  exact X.ireturn (pc := 17) (by decide +kernel) ⟨_, rfl, rfl⟩ ⟨rfl, rfl, rfl, rfl, rfl, rfl⟩
set_option maxRecDepth 100000 in
noncomputable def f_GWL_keep (S : MS) (R : MR) (I : MI) (t : Nat) (p1 : Int32) : Option (Int32 × MI) :=
  bnd1 (f_GWL_isPlace p1) fun x1 =>
  ifb (x1 = 0)
    (some (0, I))
    (bnd1 (R t 12) fun b4 =>
    asrt ((S b4).1 = 24) <|
    asrt (vp_in p1 (S b4).2) <|
    bnd1 (R b4 (Int32.toNatClampNeg p1)) fun b7 =>
    bnd1 (R t 3) fun b8 =>
    asrt ((S b7).1 = 5) <|
    bnd1 (f_Party_takeFrom S R I b7 b8) fun I10 =>
    bnd1 (R t 13) fun b12 =>
    bnd1 (R t 2) fun b13 =>
    asrt ((S b8).1 = 5) <|
    asrt ((S b13).1 = 2) <|
    bnd1 (f_Land_kindOf S R I10 b13 (I10 b8 0)) fun x16 =>
    asrt ((S b12).1 = 20) <|
    asrt (vp_in p1 (S b12).2) <|
    lt (wI I10 b12 (Int32.toNatClampNeg p1) x16) fun (I20 : MI) =>
    some (1, I20))
set_option maxRecDepth 100000 in
set_option maxHeartbeats 4000000 in
theorem c_GWL_keep {E : Env} (hE : OKE E) {d : Nat} (hd : 2 ≤ d) {S : MS} {I : MI} {L : ML} {R : MR} {n : Nat} {t : Nat} {p1 : Int32} {v : Int32} {I' : MI} (hS : (S t).1 = 11) (h : f_GWL_keep S R I t p1 = some (v, I')) : C E y_GWL_keep b_GWL_keep 2 (some .boolean) false d 0 0 [.ref (e_b E + t), .int p1] S I L R n (Kq (some (.int v)) S I' L R n) := by
  refine C.of (o := [some (.ref (e_b E + t)), some (.int p1)]) (by decide) rfl (Nat.le_of_ble_eq_true rfl) ?_
  rw [f_GWL_keep] at h
  refine X.iload_1 (pc := 0) (by decide +kernel) ?_
  obtain ⟨x1, hv2, h⟩ := bnd1_some h
  refine X.callSi (pc := 1) (nc := 0) (ns := 0) (c_GWL_isPlace hE (dle hd (Nat.le_of_ble_eq_true rfl)) hv2) cv_GWL_327 (by decide +kernel) (ddd hd (Nat.le_of_ble_eq_true rfl)) rfl (Nat.le_of_ble_eq_true rfl) rfl rfl ?_
  rcases ifb_some h with ⟨hq3, h⟩ | ⟨hq3, h⟩
  · refine X.if_ne_f (pc := 4) (off := 5) (tgt := 9) hq3 rfl (by decide +kernel) ?_
    refine X.iconst (pc := 7) (i := 0) (v := 0) ic_0 (by decide +kernel) ?_
    have j0 := Option.some.inj h
    obtain ⟨i0, j1⟩ := Prod.mk.inj j0
    subst i0
    subst j1
    exact X.ireturn (pc := 8) (by decide +kernel) ⟨_, rfl, nz01 (Or.inl rfl)⟩ ⟨rfl, rfl, rfl, rfl, rfl, rfl⟩
  · refine X.if_ne_t (pc := 4) (off := 5) (tgt := 9) hq3 rfl (by decide +kernel) ?_
    refine X.aload_0 (pc := 9) (by decide +kernel) ?_
    obtain ⟨b4, hb4, h⟩ := bnd1_some h
    refine X.getR (pc := 10) (k := 12) fw_GWL_57 (by decide +kernel) (fun _ => rfl) hS hb4 ?_
    refine X.iload_1 (pc := 13) (by decide +kernel) ?_
    obtain ⟨hc6, h⟩ := asrt_some h
    obtain ⟨hi5, h⟩ := asrt_some h
    obtain ⟨b7, hb7, h⟩ := bnd1_some h
    refine X.aaload (pc := 14) (by decide +kernel) (Or.inr hc6) hi5 hb7 ?_
    refine X.aload_0 (pc := 15) (by decide +kernel) ?_
    obtain ⟨b8, hb8, h⟩ := bnd1_some h
    refine X.getR (pc := 16) (k := 3) fw_GWL_87 (by decide +kernel) (fun _ => rfl) hS hb8 ?_
    obtain ⟨hc9, h⟩ := asrt_some h
    obtain ⟨I10, hv11, h⟩ := bnd1_some h
    refine X.callVv (pc := 19) (nc := 0) (ns := 0) (c_Party_takeFrom hE (dle hd (Nat.le_of_ble_eq_true rfl)) hc9 hv11) cv_GWL_395 (by decide +kernel) hc9 ⟨by decide, rfl⟩ (ddd hd (Nat.le_of_ble_eq_true rfl)) rfl (Nat.le_of_ble_eq_true rfl) rfl rfl ?_
    refine X.aload_0 (pc := 22) (by decide +kernel) ?_
    obtain ⟨b12, hb12, h⟩ := bnd1_some h
    refine X.getR (pc := 23) (k := 13) fw_GWL_61 (by decide +kernel) (fun _ => rfl) hS hb12 ?_
    refine X.iload_1 (pc := 26) (by decide +kernel) ?_
    refine X.aload_0 (pc := 27) (by decide +kernel) ?_
    obtain ⟨b13, hb13, h⟩ := bnd1_some h
    refine X.getR (pc := 28) (k := 2) fw_GWL_83 (by decide +kernel) (fun _ => rfl) hS hb13 ?_
    refine X.aload_0 (pc := 31) (by decide +kernel) ?_
    refine X.getR (pc := 32) (k := 3) fw_GWL_87 (by decide +kernel) (fun _ => rfl) hS hb8 ?_
    obtain ⟨hc14, h⟩ := asrt_some h
    refine X.getI (pc := 35) (k := 0) fw_GWL_175 (by decide +kernel) (fun _ => rfl) hc14 ?_
    obtain ⟨hc15, h⟩ := asrt_some h
    obtain ⟨x16, hv17, h⟩ := bnd1_some h
    refine X.callVi (pc := 38) (nc := 0) (ns := 0) (c_Land_kindOf hE (dle hd (Nat.le_of_ble_eq_true rfl)) hc15 hv17) cv_GWL_168 (by decide +kernel) hc15 ⟨by decide, rfl⟩ (ddd hd (Nat.le_of_ble_eq_true rfl)) rfl (Nat.le_of_ble_eq_true rfl) rfl rfl ?_
    obtain ⟨hc18, h⟩ := asrt_some h
    obtain ⟨hi19, h⟩ := asrt_some h
    refine X.iastore (pc := 41) (by decide +kernel) hc18 hi19 ?_
    refine X.nameMI (fun I20 hI20 => ?_)
    have h := lt_at hI20 h
    refine X.iconst (pc := 42) (i := 1) (v := 1) ic_1 (by decide +kernel) ?_
    have j0 := Option.some.inj h
    obtain ⟨i0, j1⟩ := Prod.mk.inj j0
    subst i0
    subst j1
    exact X.ireturn (pc := 43) (by decide +kernel) ⟨_, rfl, nz01 (Or.inr rfl)⟩ ⟨rfl, rfl, rfl, rfl, rfl, rfl⟩
set_option maxRecDepth 100000 in
noncomputable def f_GWL_again (S : MS) (R : MR) (I : MI) (t : Nat) (p1 : Int32) : Option (Int32 × MI) :=
  bnd1 (f_GWL_isPlace p1) fun x1 =>
  ifb (x1 = 0)
    (some (0, I))
    (bnd1 (R t 13) fun b4 =>
    asrt ((S b4).1 = 20) <|
    asrt (vp_in p1 (S b4).2) <|
    ifb ((I b4 (Int32.toNatClampNeg p1)) = (-1))
      (some (0, I))
      (bnd1 (R t 2) fun b8 =>
      bnd1 (R t 12) fun b9 =>
      asrt ((S b9).1 = 24) <|
      asrt (vp_in p1 (S b9).2) <|
      bnd1 (R b9 (Int32.toNatClampNeg p1)) fun b12 =>
      asrt ((S b12).1 = 5) <|
      asrt ((S b8).1 = 2) <|
      bnd1 (f_Land_kindOf S R I b8 (I b12 0)) fun x15 =>
      asrt (vp_in p1 (S b4).2) <|
      ifb (x15 = (I b4 (Int32.toNatClampNeg p1)))
        (bnd1 (R t 3) fun b19 =>
        asrt (vp_in p1 (S b9).2) <|
        bnd1 (R b9 (Int32.toNatClampNeg p1)) fun b21 =>
        asrt ((S b19).1 = 5) <|
        bnd1 (f_Party_takeFrom S R I b19 b21) fun I23 =>
        bnd1 (R t 4) fun b25 =>
        asrt ((S b25).1 = 6) <|
        bnd1 (f_Past_forget S I23 b25) fun I27 =>
        some (1, I27))
        (some (0, I))))
set_option maxRecDepth 100000 in
set_option maxHeartbeats 4000000 in
theorem c_GWL_again {E : Env} (hE : OKE E) {d : Nat} (hd : 2 ≤ d) {S : MS} {I : MI} {L : ML} {R : MR} {n : Nat} {t : Nat} {p1 : Int32} {v : Int32} {I' : MI} (hS : (S t).1 = 11) (h : f_GWL_again S R I t p1 = some (v, I')) : C E y_GWL_again b_GWL_again 2 (some .boolean) false d 0 0 [.ref (e_b E + t), .int p1] S I L R n (Kq (some (.int v)) S I' L R n) := by
  refine C.of (o := [some (.ref (e_b E + t)), some (.int p1)]) (by decide) rfl (Nat.le_of_ble_eq_true rfl) ?_
  rw [f_GWL_again] at h
  refine X.iload_1 (pc := 0) (by decide +kernel) ?_
  obtain ⟨x1, hv2, h⟩ := bnd1_some h
  refine X.callSi (pc := 1) (nc := 0) (ns := 0) (c_GWL_isPlace hE (dle hd (Nat.le_of_ble_eq_true rfl)) hv2) cv_GWL_327 (by decide +kernel) (ddd hd (Nat.le_of_ble_eq_true rfl)) rfl (Nat.le_of_ble_eq_true rfl) rfl rfl ?_
  rcases ifb_some h with ⟨hq3, h⟩ | ⟨hq3, h⟩
  · refine X.if_eq_t (pc := 4) (off := 38) (tgt := 42) hq3 rfl (by decide +kernel) ?_
    refine X.iconst (pc := 42) (i := 0) (v := 0) ic_0 (by decide +kernel) ?_
    have j0 := Option.some.inj h
    obtain ⟨i0, j1⟩ := Prod.mk.inj j0
    subst i0
    subst j1
    exact X.ireturn (pc := 43) (by decide +kernel) ⟨_, rfl, nz01 (Or.inl rfl)⟩ ⟨rfl, rfl, rfl, rfl, rfl, rfl⟩
  · refine X.if_eq_f (pc := 4) (off := 38) (tgt := 42) hq3 rfl (by decide +kernel) ?_
    refine X.aload_0 (pc := 7) (by decide +kernel) ?_
    obtain ⟨b4, hb4, h⟩ := bnd1_some h
    refine X.getR (pc := 8) (k := 13) fw_GWL_61 (by decide +kernel) (fun _ => rfl) hS hb4 ?_
    refine X.iload_1 (pc := 11) (by decide +kernel) ?_
    obtain ⟨hc6, h⟩ := asrt_some h
    obtain ⟨hi5, h⟩ := asrt_some h
    refine X.iaload (pc := 12) (by decide +kernel) hc6 hi5 ?_
    refine X.iconst (pc := 13) (i := (-1)) (v := (-1)) ic_m1 (by decide +kernel) ?_
    rcases ifb_some h with ⟨hq7, h⟩ | ⟨hq7, h⟩
    · refine X.icmp_eq_t (pc := 14) (off := 28) (tgt := 42) hq7 rfl (by decide +kernel) ?_
      refine X.iconst (pc := 42) (i := 0) (v := 0) ic_0 (by decide +kernel) ?_
      have j0 := Option.some.inj h
      obtain ⟨i0, j1⟩ := Prod.mk.inj j0
      subst i0
      subst j1
      exact X.ireturn (pc := 43) (by decide +kernel) ⟨_, rfl, nz01 (Or.inl rfl)⟩ ⟨rfl, rfl, rfl, rfl, rfl, rfl⟩
    · refine X.icmp_eq_f (pc := 14) (off := 28) (tgt := 42) hq7 rfl (by decide +kernel) ?_
      refine X.aload_0 (pc := 17) (by decide +kernel) ?_
      obtain ⟨b8, hb8, h⟩ := bnd1_some h
      refine X.getR (pc := 18) (k := 2) fw_GWL_83 (by decide +kernel) (fun _ => rfl) hS hb8 ?_
      refine X.aload_0 (pc := 21) (by decide +kernel) ?_
      obtain ⟨b9, hb9, h⟩ := bnd1_some h
      refine X.getR (pc := 22) (k := 12) fw_GWL_57 (by decide +kernel) (fun _ => rfl) hS hb9 ?_
      refine X.iload_1 (pc := 25) (by decide +kernel) ?_
      obtain ⟨hc11, h⟩ := asrt_some h
      obtain ⟨hi10, h⟩ := asrt_some h
      obtain ⟨b12, hb12, h⟩ := bnd1_some h
      refine X.aaload (pc := 26) (by decide +kernel) (Or.inr hc11) hi10 hb12 ?_
      obtain ⟨hc13, h⟩ := asrt_some h
      refine X.getI (pc := 27) (k := 0) fw_GWL_175 (by decide +kernel) (fun _ => rfl) hc13 ?_
      obtain ⟨hc14, h⟩ := asrt_some h
      obtain ⟨x15, hv16, h⟩ := bnd1_some h
      refine X.callVi (pc := 30) (nc := 0) (ns := 0) (c_Land_kindOf hE (dle hd (Nat.le_of_ble_eq_true rfl)) hc14 hv16) cv_GWL_168 (by decide +kernel) hc14 ⟨by decide, rfl⟩ (ddd hd (Nat.le_of_ble_eq_true rfl)) rfl (Nat.le_of_ble_eq_true rfl) rfl rfl ?_
      refine X.aload_0 (pc := 33) (by decide +kernel) ?_
      refine X.getR (pc := 34) (k := 13) fw_GWL_61 (by decide +kernel) (fun _ => rfl) hS hb4 ?_
      refine X.iload_1 (pc := 37) (by decide +kernel) ?_
      obtain ⟨hi17, h⟩ := asrt_some h
      refine X.iaload (pc := 38) (by decide +kernel) hc6 hi17 ?_
      rcases ifb_some h with ⟨hq18, h⟩ | ⟨hq18, h⟩
      · refine X.icmp_eq_t (pc := 39) (off := 5) (tgt := 44) hq18 rfl (by decide +kernel) ?_
        refine X.aload_0 (pc := 44) (by decide +kernel) ?_
        obtain ⟨b19, hb19, h⟩ := bnd1_some h
        refine X.getR (pc := 45) (k := 3) fw_GWL_87 (by decide +kernel) (fun _ => rfl) hS hb19 ?_
        refine X.aload_0 (pc := 48) (by decide +kernel) ?_
        refine X.getR (pc := 49) (k := 12) fw_GWL_57 (by decide +kernel) (fun _ => rfl) hS hb9 ?_
        refine X.iload_1 (pc := 52) (by decide +kernel) ?_
        obtain ⟨hi20, h⟩ := asrt_some h
        obtain ⟨b21, hb21, h⟩ := bnd1_some h
        refine X.aaload (pc := 53) (by decide +kernel) (Or.inr hc11) hi20 hb21 ?_
        obtain ⟨hc22, h⟩ := asrt_some h
        obtain ⟨I23, hv24, h⟩ := bnd1_some h
        refine X.callVv (pc := 54) (nc := 0) (ns := 0) (c_Party_takeFrom hE (dle hd (Nat.le_of_ble_eq_true rfl)) hc22 hv24) cv_GWL_395 (by decide +kernel) hc22 ⟨by decide, rfl⟩ (ddd hd (Nat.le_of_ble_eq_true rfl)) rfl (Nat.le_of_ble_eq_true rfl) rfl rfl ?_
        refine X.aload_0 (pc := 57) (by decide +kernel) ?_
        obtain ⟨b25, hb25, h⟩ := bnd1_some h
        refine X.getR (pc := 58) (k := 4) fw_GWL_26 (by decide +kernel) (fun _ => rfl) hS hb25 ?_
        obtain ⟨hc26, h⟩ := asrt_some h
        obtain ⟨I27, hv28, h⟩ := bnd1_some h
        refine X.callVv (pc := 61) (nc := 0) (ns := 0) (c_Past_forget hE (dle hd (Nat.le_of_ble_eq_true rfl)) hc26 hv28) cv_GWL_148 (by decide +kernel) hc26 ⟨by decide, rfl⟩ (ddd hd (Nat.le_of_ble_eq_true rfl)) rfl (Nat.le_of_ble_eq_true rfl) rfl rfl ?_
        refine X.iconst (pc := 64) (i := 1) (v := 1) ic_1 (by decide +kernel) ?_
        have j0 := Option.some.inj h
        obtain ⟨i0, j1⟩ := Prod.mk.inj j0
        subst i0
        subst j1
        exact X.ireturn (pc := 65) (by decide +kernel) ⟨_, rfl, nz01 (Or.inr rfl)⟩ ⟨rfl, rfl, rfl, rfl, rfl, rfl⟩
      · refine X.icmp_eq_f (pc := 39) (off := 5) (tgt := 44) hq18 rfl (by decide +kernel) ?_
        refine X.iconst (pc := 42) (i := 0) (v := 0) ic_0 (by decide +kernel) ?_
        have j0 := Option.some.inj h
        obtain ⟨i0, j1⟩ := Prod.mk.inj j0
        subst i0
        subst j1
        exact X.ireturn (pc := 43) (by decide +kernel) ⟨_, rfl, nz01 (Or.inl rfl)⟩ ⟨rfl, rfl, rfl, rfl, rfl, rfl⟩
set_option maxRecDepth 100000 in
noncomputable def f_GWL_count (S : MS) (R : MR) (I : MI) (t : Nat) (p1 : Int32) : Option Int32 :=
  ifb (p1 = 0)
    (bnd1 (R t 2) fun b2 =>
    asrt ((S b2).1 = 2) <|
    bnd1 (f_Land_size S I b2) fun x4 =>
    some x4)
    (ifb (p1 = 1)
      (bnd1 (R t 2) fun b6 =>
      asrt ((S b6).1 = 2) <|
      lt (I b6 0) fun (x8 : Int32) =>
      some x8)
      (ifb (p1 = 2)
        (bnd1 (R t 3) fun b9 =>
        asrt ((S b9).1 = 5) <|
        lt (I b9 0) fun (x11 : Int32) =>
        some x11)
        (ifb (p1 = 3)
          (bnd1 (R t 3) fun b12 =>
          asrt ((S b12).1 = 5) <|
          lt (I b12 1) fun (x14 : Int32) =>
          some x14)
          (ifb (p1 = 4)
            (bnd1 (R t 3) fun b15 =>
            asrt ((S b15).1 = 5) <|
            bnd1 (f_GWL_fate S R I t (I b15 0)) fun x17 =>
            some x17)
            (ifb (p1 = 5)
              (bnd1 (R t 3) fun b19 =>
              asrt ((S b19).1 = 5) <|
              lt (I b19 2) fun (x21 : Int32) =>
              some x21)
              (ifb (p1 = 6)
                (bnd1 (R t 3) fun b22 =>
                asrt ((S b22).1 = 5) <|
                lt (I b22 4) fun (x24 : Int32) =>
                some x24)
                (ifb (p1 = 7)
                  (bnd1 (R t 3) fun b25 =>
                  asrt ((S b25).1 = 5) <|
                  lt (I b25 5) fun (x27 : Int32) =>
                  some x27)
                  (ifb (p1 = 8)
                    (bnd1 (R t 4) fun b28 =>
                    asrt ((S b28).1 = 6) <|
                    lt (I b28 2) fun (x30 : Int32) =>
                    some x30)
                    (ifb (p1 = 9)
                      (bnd1 (R t 17) fun b31 =>
                      asrt ((S b31).1 = 7) <|
                      lt (I b31 6) fun (x33 : Int32) =>
                      some x33)
                      (ifb (p1 = 10)
                        (bnd1 (R t 1) fun b34 =>
                        asrt ((S b34).1 = 4) <|
                        lt (I b34 1) fun (x36 : Int32) =>
                        some x36)
                        (ifb (p1 = 11)
                          (bnd1 (R t 0) fun b37 =>
                          asrt ((S b37).1 = 8) <|
                          bnd1 (f_Signs_length S I b37) fun x39 =>
                          some x39)
                          (some (-1)))))))))))))
set_option maxRecDepth 100000 in
set_option maxHeartbeats 4000000 in
theorem c_GWL_count {E : Env} (hE : OKE E) {tg : Bool} {d : Nat} (hd : 2 ≤ d) {S : MS} {I : MI} {L : ML} {R : MR} {n : Nat} {t : Nat} {p1 : Int32} {v : Int32} (hS : (S t).1 = 11) (h : f_GWL_count S R I t p1 = some v) : C E y_GWL_count b_GWL_count 2 (some .int) tg d 0 0 [.ref (e_b E + t), .int p1] S I L R n (Kq (some (.int v)) S I L R n) := by
  refine C.of (o := [some (.ref (e_b E + t)), some (.int p1)]) (by decide) rfl (Nat.le_of_ble_eq_true rfl) ?_
  rw [f_GWL_count] at h
  refine X.iload_1 (pc := 0) (by decide +kernel) ?_
  rcases ifb_some h with ⟨hq1_0, h⟩ | ⟨hq1_0, h⟩
  · refine X.tabIn (pc := 1) (dflt := 163) (lo := 0) (hi := 11) (offs := #[63, 71, 79, 87, 95, 107, 115, 123, 131, 139, 147, 155]) (len := 63) (off := 63) (tgt := 64) (by decide +kernel) (by rw [hq1_0]; decide +kernel) (by rw [hq1_0]; decide +kernel) (by rw [hq1_0]; decide +kernel) rfl ?_
    refine X.aload_0 (pc := 64) (by decide +kernel) ?_
    obtain ⟨b2, hb2, h⟩ := bnd1_some h
    refine X.getR (pc := 65) (k := 2) fw_GWL_83 (by decide +kernel) (fun _ => rfl) hS hb2 ?_
    obtain ⟨hc3, h⟩ := asrt_some h
    obtain ⟨x4, hv5, h⟩ := bnd1_some h
    refine X.callVi (pc := 68) (nc := 0) (ns := 0) (c_Land_size hE (dle hd (Nat.le_of_ble_eq_true rfl)) hc3 hv5) cv_GWL_159 (by decide +kernel) hc3 ⟨by decide, rfl⟩ (ddd hd (Nat.le_of_ble_eq_true rfl)) rfl (Nat.le_of_ble_eq_true rfl) rfl rfl ?_
    have j0 := Option.some.inj h
    subst j0
    exact X.ireturn (pc := 71) (by decide +kernel) ⟨_, rfl, rfl⟩ ⟨rfl, rfl, rfl, rfl, rfl, rfl⟩
  · rcases ifb_some h with ⟨hq1_1, h⟩ | ⟨hq1_1, h⟩
    · refine X.tabIn (pc := 1) (dflt := 163) (lo := 0) (hi := 11) (offs := #[63, 71, 79, 87, 95, 107, 115, 123, 131, 139, 147, 155]) (len := 63) (off := 71) (tgt := 72) (by decide +kernel) (by rw [hq1_1]; decide +kernel) (by rw [hq1_1]; decide +kernel) (by rw [hq1_1]; decide +kernel) rfl ?_
      refine X.aload_0 (pc := 72) (by decide +kernel) ?_
      obtain ⟨b6, hb6, h⟩ := bnd1_some h
      refine X.getR (pc := 73) (k := 2) fw_GWL_83 (by decide +kernel) (fun _ => rfl) hS hb6 ?_
      obtain ⟨hc7, h⟩ := asrt_some h
      refine X.getI (pc := 76) (k := 0) fw_GWL_397 (by decide +kernel) (fun _ => rfl) hc7 ?_
      refine X.nameI (fun x8 hx8 => ?_)
      have h := lt_at hx8 h
      have j0 := Option.some.inj h
      subst j0
      exact X.ireturn (pc := 79) (by decide +kernel) ⟨_, rfl, rfl⟩ ⟨rfl, rfl, rfl, rfl, rfl, rfl⟩
    · rcases ifb_some h with ⟨hq1_2, h⟩ | ⟨hq1_2, h⟩
      · refine X.tabIn (pc := 1) (dflt := 163) (lo := 0) (hi := 11) (offs := #[63, 71, 79, 87, 95, 107, 115, 123, 131, 139, 147, 155]) (len := 63) (off := 79) (tgt := 80) (by decide +kernel) (by rw [hq1_2]; decide +kernel) (by rw [hq1_2]; decide +kernel) (by rw [hq1_2]; decide +kernel) rfl ?_
        refine X.aload_0 (pc := 80) (by decide +kernel) ?_
        obtain ⟨b9, hb9, h⟩ := bnd1_some h
        refine X.getR (pc := 81) (k := 3) fw_GWL_87 (by decide +kernel) (fun _ => rfl) hS hb9 ?_
        obtain ⟨hc10, h⟩ := asrt_some h
        refine X.getI (pc := 84) (k := 0) fw_GWL_175 (by decide +kernel) (fun _ => rfl) hc10 ?_
        refine X.nameI (fun x11 hx11 => ?_)
        have h := lt_at hx11 h
        have j0 := Option.some.inj h
        subst j0
        exact X.ireturn (pc := 87) (by decide +kernel) ⟨_, rfl, rfl⟩ ⟨rfl, rfl, rfl, rfl, rfl, rfl⟩
      · rcases ifb_some h with ⟨hq1_3, h⟩ | ⟨hq1_3, h⟩
        · refine X.tabIn (pc := 1) (dflt := 163) (lo := 0) (hi := 11) (offs := #[63, 71, 79, 87, 95, 107, 115, 123, 131, 139, 147, 155]) (len := 63) (off := 87) (tgt := 88) (by decide +kernel) (by rw [hq1_3]; decide +kernel) (by rw [hq1_3]; decide +kernel) (by rw [hq1_3]; decide +kernel) rfl ?_
          refine X.aload_0 (pc := 88) (by decide +kernel) ?_
          obtain ⟨b12, hb12, h⟩ := bnd1_some h
          refine X.getR (pc := 89) (k := 3) fw_GWL_87 (by decide +kernel) (fun _ => rfl) hS hb12 ?_
          obtain ⟨hc13, h⟩ := asrt_some h
          refine X.getI (pc := 92) (k := 1) fw_GWL_400 (by decide +kernel) (fun _ => rfl) hc13 ?_
          refine X.nameI (fun x14 hx14 => ?_)
          have h := lt_at hx14 h
          have j0 := Option.some.inj h
          subst j0
          exact X.ireturn (pc := 95) (by decide +kernel) ⟨_, rfl, rfl⟩ ⟨rfl, rfl, rfl, rfl, rfl, rfl⟩
        · rcases ifb_some h with ⟨hq1_4, h⟩ | ⟨hq1_4, h⟩
          · refine X.tabIn (pc := 1) (dflt := 163) (lo := 0) (hi := 11) (offs := #[63, 71, 79, 87, 95, 107, 115, 123, 131, 139, 147, 155]) (len := 63) (off := 95) (tgt := 96) (by decide +kernel) (by rw [hq1_4]; decide +kernel) (by rw [hq1_4]; decide +kernel) (by rw [hq1_4]; decide +kernel) rfl ?_
            refine X.aload_0 (pc := 96) (by decide +kernel) ?_
            refine X.aload_0 (pc := 97) (by decide +kernel) ?_
            obtain ⟨b15, hb15, h⟩ := bnd1_some h
            refine X.getR (pc := 98) (k := 3) fw_GWL_87 (by decide +kernel) (fun _ => rfl) hS hb15 ?_
            obtain ⟨hc16, h⟩ := asrt_some h
            refine X.getI (pc := 101) (k := 0) fw_GWL_175 (by decide +kernel) (fun _ => rfl) hc16 ?_
            obtain ⟨x17, hv18, h⟩ := bnd1_some h
            refine X.callVi (pc := 104) (nc := 0) (ns := 0) (c_GWL_fate hE (dle hd (Nat.le_of_ble_eq_true rfl)) hS hv18) cv_GWL_247 (by decide +kernel) hS ⟨by decide, rfl⟩ (ddd hd (Nat.le_of_ble_eq_true rfl)) rfl (Nat.le_of_ble_eq_true rfl) rfl rfl ?_
            have j0 := Option.some.inj h
            subst j0
            exact X.ireturn (pc := 107) (by decide +kernel) ⟨_, rfl, rfl⟩ ⟨rfl, rfl, rfl, rfl, rfl, rfl⟩
          · rcases ifb_some h with ⟨hq1_5, h⟩ | ⟨hq1_5, h⟩
            · refine X.tabIn (pc := 1) (dflt := 163) (lo := 0) (hi := 11) (offs := #[63, 71, 79, 87, 95, 107, 115, 123, 131, 139, 147, 155]) (len := 63) (off := 107) (tgt := 108) (by decide +kernel) (by rw [hq1_5]; decide +kernel) (by rw [hq1_5]; decide +kernel) (by rw [hq1_5]; decide +kernel) rfl ?_
              refine X.aload_0 (pc := 108) (by decide +kernel) ?_
              obtain ⟨b19, hb19, h⟩ := bnd1_some h
              refine X.getR (pc := 109) (k := 3) fw_GWL_87 (by decide +kernel) (fun _ => rfl) hS hb19 ?_
              obtain ⟨hc20, h⟩ := asrt_some h
              refine X.getI (pc := 112) (k := 2) fw_GWL_181 (by decide +kernel) (fun _ => rfl) hc20 ?_
              refine X.nameI (fun x21 hx21 => ?_)
              have h := lt_at hx21 h
              have j0 := Option.some.inj h
              subst j0
              exact X.ireturn (pc := 115) (by decide +kernel) ⟨_, rfl, rfl⟩ ⟨rfl, rfl, rfl, rfl, rfl, rfl⟩
            · rcases ifb_some h with ⟨hq1_6, h⟩ | ⟨hq1_6, h⟩
              · refine X.tabIn (pc := 1) (dflt := 163) (lo := 0) (hi := 11) (offs := #[63, 71, 79, 87, 95, 107, 115, 123, 131, 139, 147, 155]) (len := 63) (off := 115) (tgt := 116) (by decide +kernel) (by rw [hq1_6]; decide +kernel) (by rw [hq1_6]; decide +kernel) (by rw [hq1_6]; decide +kernel) rfl ?_
                refine X.aload_0 (pc := 116) (by decide +kernel) ?_
                obtain ⟨b22, hb22, h⟩ := bnd1_some h
                refine X.getR (pc := 117) (k := 3) fw_GWL_87 (by decide +kernel) (fun _ => rfl) hS hb22 ?_
                obtain ⟨hc23, h⟩ := asrt_some h
                refine X.getI (pc := 120) (k := 4) fw_GWL_321 (by decide +kernel) (fun _ => rfl) hc23 ?_
                refine X.nameI (fun x24 hx24 => ?_)
                have h := lt_at hx24 h
                have j0 := Option.some.inj h
                subst j0
                exact X.ireturn (pc := 123) (by decide +kernel) ⟨_, rfl, rfl⟩ ⟨rfl, rfl, rfl, rfl, rfl, rfl⟩
              · rcases ifb_some h with ⟨hq1_7, h⟩ | ⟨hq1_7, h⟩
                · refine X.tabIn (pc := 1) (dflt := 163) (lo := 0) (hi := 11) (offs := #[63, 71, 79, 87, 95, 107, 115, 123, 131, 139, 147, 155]) (len := 63) (off := 123) (tgt := 124) (by decide +kernel) (by rw [hq1_7]; decide +kernel) (by rw [hq1_7]; decide +kernel) (by rw [hq1_7]; decide +kernel) rfl ?_
                  refine X.aload_0 (pc := 124) (by decide +kernel) ?_
                  obtain ⟨b25, hb25, h⟩ := bnd1_some h
                  refine X.getR (pc := 125) (k := 3) fw_GWL_87 (by decide +kernel) (fun _ => rfl) hS hb25 ?_
                  obtain ⟨hc26, h⟩ := asrt_some h
                  refine X.getI (pc := 128) (k := 5) fw_GWL_213 (by decide +kernel) (fun _ => rfl) hc26 ?_
                  refine X.nameI (fun x27 hx27 => ?_)
                  have h := lt_at hx27 h
                  have j0 := Option.some.inj h
                  subst j0
                  exact X.ireturn (pc := 131) (by decide +kernel) ⟨_, rfl, rfl⟩ ⟨rfl, rfl, rfl, rfl, rfl, rfl⟩
                · rcases ifb_some h with ⟨hq1_8, h⟩ | ⟨hq1_8, h⟩
                  · refine X.tabIn (pc := 1) (dflt := 163) (lo := 0) (hi := 11) (offs := #[63, 71, 79, 87, 95, 107, 115, 123, 131, 139, 147, 155]) (len := 63) (off := 131) (tgt := 132) (by decide +kernel) (by rw [hq1_8]; decide +kernel) (by rw [hq1_8]; decide +kernel) (by rw [hq1_8]; decide +kernel) rfl ?_
                    refine X.aload_0 (pc := 132) (by decide +kernel) ?_
                    obtain ⟨b28, hb28, h⟩ := bnd1_some h
                    refine X.getR (pc := 133) (k := 4) fw_GWL_26 (by decide +kernel) (fun _ => rfl) hS hb28 ?_
                    obtain ⟨hc29, h⟩ := asrt_some h
                    refine X.getI (pc := 136) (k := 2) fw_GWL_223 (by decide +kernel) (fun _ => rfl) hc29 ?_
                    refine X.nameI (fun x30 hx30 => ?_)
                    have h := lt_at hx30 h
                    have j0 := Option.some.inj h
                    subst j0
                    exact X.ireturn (pc := 139) (by decide +kernel) ⟨_, rfl, rfl⟩ ⟨rfl, rfl, rfl, rfl, rfl, rfl⟩
                  · rcases ifb_some h with ⟨hq1_9, h⟩ | ⟨hq1_9, h⟩
                    · refine X.tabIn (pc := 1) (dflt := 163) (lo := 0) (hi := 11) (offs := #[63, 71, 79, 87, 95, 107, 115, 123, 131, 139, 147, 155]) (len := 63) (off := 139) (tgt := 140) (by decide +kernel) (by rw [hq1_9]; decide +kernel) (by rw [hq1_9]; decide +kernel) (by rw [hq1_9]; decide +kernel) rfl ?_
                      refine X.aload_0 (pc := 140) (by decide +kernel) ?_
                      obtain ⟨b31, hb31, h⟩ := bnd1_some h
                      refine X.getR (pc := 141) (k := 17) fw_GWL_115 (by decide +kernel) (fun _ => rfl) hS hb31 ?_
                      obtain ⟨hc32, h⟩ := asrt_some h
                      refine X.getI (pc := 144) (k := 6) fw_GWL_362 (by decide +kernel) (fun _ => rfl) hc32 ?_
                      refine X.nameI (fun x33 hx33 => ?_)
                      have h := lt_at hx33 h
                      have j0 := Option.some.inj h
                      subst j0
                      exact X.ireturn (pc := 147) (by decide +kernel) ⟨_, rfl, rfl⟩ ⟨rfl, rfl, rfl, rfl, rfl, rfl⟩
                    · rcases ifb_some h with ⟨hq1_10, h⟩ | ⟨hq1_10, h⟩
                      · refine X.tabIn (pc := 1) (dflt := 163) (lo := 0) (hi := 11) (offs := #[63, 71, 79, 87, 95, 107, 115, 123, 131, 139, 147, 155]) (len := 63) (off := 147) (tgt := 148) (by decide +kernel) (by rw [hq1_10]; decide +kernel) (by rw [hq1_10]; decide +kernel) (by rw [hq1_10]; decide +kernel) rfl ?_
                        refine X.aload_0 (pc := 148) (by decide +kernel) ?_
                        obtain ⟨b34, hb34, h⟩ := bnd1_some h
                        refine X.getR (pc := 149) (k := 1) fw_GWL_19 (by decide +kernel) (fun _ => rfl) hS hb34 ?_
                        obtain ⟨hc35, h⟩ := asrt_some h
                        refine X.getI (pc := 152) (k := 1) fw_GWL_403 (by decide +kernel) (fun _ => rfl) hc35 ?_
                        refine X.nameI (fun x36 hx36 => ?_)
                        have h := lt_at hx36 h
                        have j0 := Option.some.inj h
                        subst j0
                        exact X.ireturn (pc := 155) (by decide +kernel) ⟨_, rfl, rfl⟩ ⟨rfl, rfl, rfl, rfl, rfl, rfl⟩
                      · rcases ifb_some h with ⟨hq1_11, h⟩ | ⟨hq1_11, h⟩
                        · refine X.tabIn (pc := 1) (dflt := 163) (lo := 0) (hi := 11) (offs := #[63, 71, 79, 87, 95, 107, 115, 123, 131, 139, 147, 155]) (len := 63) (off := 155) (tgt := 156) (by decide +kernel) (by rw [hq1_11]; decide +kernel) (by rw [hq1_11]; decide +kernel) (by rw [hq1_11]; decide +kernel) rfl ?_
                          refine X.aload_0 (pc := 156) (by decide +kernel) ?_
                          obtain ⟨b37, hb37, h⟩ := bnd1_some h
                          refine X.getR (pc := 157) (k := 0) fw_GWL_10 (by decide +kernel) (fun _ => rfl) hS hb37 ?_
                          obtain ⟨hc38, h⟩ := asrt_some h
                          obtain ⟨x39, hv40, h⟩ := bnd1_some h
                          refine X.callVi (pc := 160) (nc := 0) (ns := 0) (c_Signs_length hE (dle hd (Nat.le_of_ble_eq_true rfl)) hc38 hv40) cv_GWL_123 (by decide +kernel) hc38 ⟨by decide, rfl⟩ (ddd hd (Nat.le_of_ble_eq_true rfl)) rfl (Nat.le_of_ble_eq_true rfl) rfl rfl ?_
                          have j0 := Option.some.inj h
                          subst j0
                          exact X.ireturn (pc := 163) (by decide +kernel) ⟨_, rfl, rfl⟩ ⟨rfl, rfl, rfl, rfl, rfl, rfl⟩
                        · refine X.tabOut (pc := 1) (dflt := 163) (lo := 0) (hi := 11) (offs := #[63, 71, 79, 87, 95, 107, 115, 123, 131, 139, 147, 155]) (len := 63) (tgt := 164) (by decide +kernel) ?_ rfl ?_
                          · refine tabn (N := 12) (fun k hk => ?_)
                            match k, hk with
                            | 0, _ => exact hq1_0
                            | 1, _ => exact hq1_1
                            | 2, _ => exact hq1_2
                            | 3, _ => exact hq1_3
                            | 4, _ => exact hq1_4
                            | 5, _ => exact hq1_5
                            | 6, _ => exact hq1_6
                            | 7, _ => exact hq1_7
                            | 8, _ => exact hq1_8
                            | 9, _ => exact hq1_9
                            | 10, _ => exact hq1_10
                            | 11, _ => exact hq1_11
                            | k + 12, hk => exact absurd hk (by omega)
                          refine X.iconst (pc := 164) (i := (-1)) (v := (-1)) ic_m1 (by decide +kernel) ?_
                          have j0 := Option.some.inj h
                          subst j0
                          exact X.ireturn (pc := 165) (by decide +kernel) ⟨_, rfl, rfl⟩ ⟨rfl, rfl, rfl, rfl, rfl, rfl⟩
set_option maxRecDepth 100000 in
noncomputable def f_Numbers_at (S : MS) (R : MR) (I : MI) (L : ML) (t : Nat) (p1 : Int32) : Option Int64 :=
  bnd1 (ifb (p1 < 0)
      (some 0)
      (ifb ((I t 1) ≤ p1)
        (some 0)
        (ifb (16 ≤ p1)
          (some 0)
          (bnd1 (R t 0) fun b7 =>
          asrt ((S b7).1 = 21) <|
          asrt (vp_in p1 (S b7).2) <|
          some (L b7 (Int32.toNatClampNeg p1)))))) fun (y2 : Int64) =>
  some y2
set_option maxRecDepth 100000 in
set_option maxHeartbeats 4000000 in
theorem c_Numbers_at {E : Env} (hE : OKE E) {tg : Bool} {d : Nat} (hd : 0 ≤ d) {S : MS} {I : MI} {L : ML} {R : MR} {n : Nat} {t : Nat} {p1 : Int32} {v : Int64} (hS : (S t).1 = 4) (h : f_Numbers_at S R I L t p1 = some v) : C E y_Numbers_at b_Numbers_at 2 (some .long) tg d 0 0 [.ref (e_b E + t), .int p1] S I L R n (Kq (some (.long v)) S I L R n) := by
  refine C.of (o := [some (.ref (e_b E + t)), some (.int p1)]) (by decide) rfl (Nat.le_of_ble_eq_true rfl) ?_
  rw [f_Numbers_at] at h
  refine X.iload_1 (pc := 0) (by decide +kernel) ?_
  obtain ⟨y2, hr3, h⟩ := bnd1_some h
  have hj4 : X E y_Numbers_at b_Numbers_at 2 (some .long) tg d 0 0 28 [none, none] [.long y2] S I L R n (Kq (some (.long v)) S I L R n) := by
    have j0 := Option.some.inj h
    subst j0
    exact X.lreturn (pc := 28) (by decide +kernel) rfl ⟨rfl, rfl, rfl, rfl, rfl, rfl⟩
  have h := hr3
  rcases ifb_some h with ⟨hq1, h⟩ | ⟨hq1, h⟩
  · refine X.if_lt_t (pc := 1) (off := 26) (tgt := 27) hq1 rfl (by decide +kernel) ?_
    refine X.lconst (pc := 27) (i := 0) (v := 0) rfl (by decide +kernel) ?_
    have j0 := Option.some.inj h
    subst j0
    refine X.fgt (o' := [none, none]) trivial ?_
    exact hj4
  · refine X.if_lt_f (pc := 1) (off := 26) (tgt := 27) hq1 rfl (by decide +kernel) ?_
    refine X.iload_1 (pc := 4) (by decide +kernel) ?_
    refine X.aload_0 (pc := 5) (by decide +kernel) ?_
    refine X.getI (pc := 6) (k := 1) fw_Numbers_15 (by decide +kernel) (fun _ => rfl) hS ?_
    rcases ifb_some h with ⟨hq5, h⟩ | ⟨hq5, h⟩
    · refine X.icmp_ge_t (pc := 9) (off := 18) (tgt := 27) hq5 rfl (by decide +kernel) ?_
      refine X.lconst (pc := 27) (i := 0) (v := 0) rfl (by decide +kernel) ?_
      have j0 := Option.some.inj h
      subst j0
      refine X.fgt (o' := [none, none]) trivial ?_
      exact hj4
    · refine X.icmp_ge_f (pc := 9) (off := 18) (tgt := 27) hq5 rfl (by decide +kernel) ?_
      refine X.iload_1 (pc := 12) (by decide +kernel) ?_
      refine X.bipush (pc := 13) (i := 16) (v := 16) bp_16 (by decide +kernel) ?_
      rcases ifb_some h with ⟨hq6, h⟩ | ⟨hq6, h⟩
      · refine X.icmp_ge_t (pc := 15) (off := 12) (tgt := 27) hq6 rfl (by decide +kernel) ?_
        refine X.lconst (pc := 27) (i := 0) (v := 0) rfl (by decide +kernel) ?_
        have j0 := Option.some.inj h
        subst j0
        refine X.fgt (o' := [none, none]) trivial ?_
        exact hj4
      · refine X.icmp_ge_f (pc := 15) (off := 12) (tgt := 27) hq6 rfl (by decide +kernel) ?_
        refine X.aload_0 (pc := 18) (by decide +kernel) ?_
        obtain ⟨b7, hb7, h⟩ := bnd1_some h
        refine X.getR (pc := 19) (k := 0) fw_Numbers_9 (by decide +kernel) (fun _ => rfl) hS hb7 ?_
        refine X.iload_1 (pc := 22) (by decide +kernel) ?_
        obtain ⟨hc9, h⟩ := asrt_some h
        obtain ⟨hi8, h⟩ := asrt_some h
        refine X.laload (pc := 23) (by decide +kernel) hc9 hi8 ?_
        refine X.goto (pc := 24) (off := 4) (tgt := 28) (by decide +kernel) rfl ?_
        have j0 := Option.some.inj h
        subst j0
        refine X.fgt (o' := [none, none]) trivial ?_
        exact hj4
set_option maxRecDepth 100000 in
noncomputable def f_Mod_thrown (S : MS) (I : MI) (t : Nat) : Option Int32 :=
  lt (I t 0) fun (x1 : Int32) =>
  some x1
set_option maxRecDepth 100000 in
set_option maxHeartbeats 4000000 in
theorem c_Mod_thrown {E : Env} (hE : OKE E) {tg : Bool} {d : Nat} (hd : 0 ≤ d) {S : MS} {I : MI} {L : ML} {R : MR} {n : Nat} {t : Nat} {v : Int32} (hS : (S t).1 = 12) (h : f_Mod_thrown S I t = some v) : C E y_Mod_thrown b_Mod_thrown 1 (some .int) tg d 0 0 [.ref (e_b E + t)] S I L R n (Kq (some (.int v)) S I L R n) := by
  refine C.of (o := [some (.ref (e_b E + t))]) (by decide) rfl (Nat.le_of_ble_eq_true rfl) ?_
  rw [f_Mod_thrown] at h
  refine X.aload_0 (pc := 0) (by decide +kernel) ?_
  refine X.getI (pc := 1) (k := 0) fw_Mod_3 (by decide +kernel) (fun _ => rfl) hS ?_
  refine X.nameI (fun x1 hx1 => ?_)
  have h := lt_at hx1 h
  have j0 := Option.some.inj h
  subst j0
  exact X.ireturn (pc := 4) (by decide +kernel) ⟨_, rfl, rfl⟩ ⟨rfl, rfl, rfl, rfl, rfl, rfl⟩
set_option maxRecDepth 100000 in
noncomputable def f_Mod_flag (p1 : Int32) : Option Int32 :=
  bnd1 (ifb (p1 = 0)
      (some 0)
      (some 1)) fun (y2 : Int32) =>
  some y2
set_option maxRecDepth 100000 in
set_option maxHeartbeats 4000000 in
theorem c_Mod_flag {E : Env} (hE : OKE E) {tg : Bool} {d : Nat} (hd : 0 ≤ d) {S : MS} {I : MI} {L : ML} {R : MR} {n : Nat} {p1 : Int32} {v : Int32} (h : f_Mod_flag p1 = some v) : C E y_Mod_flag b_Mod_flag 1 (some .int) tg d 0 0 [.int p1] S I L R n (Kq (some (.int v)) S I L R n) := by
  refine C.of (o := [some (.int p1)]) (by decide) rfl (Nat.le_of_ble_eq_true rfl) ?_
  rw [f_Mod_flag] at h
  refine X.iload_0 (pc := 0) (by decide +kernel) ?_
  obtain ⟨y2, hr3, h⟩ := bnd1_some h
  have hj4 : X E y_Mod_flag b_Mod_flag 1 (some .int) tg d 0 0 9 [none] [.int y2] S I L R n (Kq (some (.int v)) S I L R n) := by
    have j0 := Option.some.inj h
    subst j0
    exact X.ireturn (pc := 9) (by decide +kernel) ⟨_, rfl, rfl⟩ ⟨rfl, rfl, rfl, rfl, rfl, rfl⟩
  have h := hr3
  rcases ifb_some h with ⟨hq1, h⟩ | ⟨hq1, h⟩
  · refine X.if_eq_t (pc := 1) (off := 7) (tgt := 8) hq1 rfl (by decide +kernel) ?_
    refine X.iconst (pc := 8) (i := 0) (v := 0) ic_0 (by decide +kernel) ?_
    have j0 := Option.some.inj h
    subst j0
    refine X.fgt (o' := [none]) trivial ?_
    exact hj4
  · refine X.if_eq_f (pc := 1) (off := 7) (tgt := 8) hq1 rfl (by decide +kernel) ?_
    refine X.iconst (pc := 4) (i := 1) (v := 1) ic_1 (by decide +kernel) ?_
    refine X.goto (pc := 5) (off := 4) (tgt := 9) (by decide +kernel) rfl ?_
    have j0 := Option.some.inj h
    subst j0
    refine X.fgt (o' := [none]) trivial ?_
    exact hj4
set_option maxRecDepth 100000 in
noncomputable def l_Mod_clearsTracks_4 (S : MS) (R : MR) (v0 : Nat) : Nat → MI → Int32 → Int32 → Option (Int32 × MI)
  | 0, _, _, _ => none
  | f + 1, I, v1, v2 =>
    ifb (36 ≤ v2)
      (some (v1, I))
      (bnd1 (R v0 15) fun b2 =>
      asrt ((S b2).1 = 20) <|
      asrt (vp_in v2 (S b2).2) <|
      bnd1 (ifb ((I b2 (Int32.toNatClampNeg v2)) < 0)
          (some 0)
          (some 1)) fun (y6 : Int32) =>
      bnd1 (f_Mod_flag y6) fun x9 =>
      lt (v1 + x9) fun (x11 : Int32) =>
      asrt (vp_in v2 (S b2).2) <|
      lt (wI I b2 (Int32.toNatClampNeg v2) (-1)) fun (I13 : MI) =>
      l_Mod_clearsTracks_4 S R v0 f I13 x11 (v2 + 1))
set_option maxRecDepth 100000 in
set_option maxHeartbeats 4000000 in
theorem xl_Mod_clearsTracks_4 {E : Env} (hE : OKE E) {tg : Bool} {d : Nat} (hd : 1 ≤ d) {S : MS} {L : ML} {R : MR} {n : Nat} {v0 : Nat} {K : KT} :
    ∀ {f : Nat} {I : MI} {v1 : Int32} {v2 : Int32} {o1 : Int32} {I' : MI}, (S v0).1 = 12 → l_Mod_clearsTracks_4 S R v0 f I v1 v2 = some (o1, I') → X E y_Mod_clearsTracks b_Mod_clearsTracks 3 (some .int) tg d 0 0 43 [none, some (.int o1), none] [] S I' L R n K → X E y_Mod_clearsTracks b_Mod_clearsTracks 3 (some .int) tg d 0 0 4 [some (.ref (e_b E + v0)), some (.int v1), some (.int v2)] [] S I L R n K := by
  intro f
  induction f with
  | zero =>
    intro I v1 v2 o1 I' hS h hk
    rw [l_Mod_clearsTracks_4] at h
    cases h
  | succ f ih =>
    intro I v1 v2 o1 I' hS h hk
    rw [l_Mod_clearsTracks_4] at h
    refine X.iload_2 (pc := 4) (by decide +kernel) ?_
    refine X.bipush (pc := 5) (i := 36) (v := 36) bp_36 (by decide +kernel) ?_
    rcases ifb_some h with ⟨hq1, h⟩ | ⟨hq1, h⟩
    · refine X.icmp_ge_t (pc := 7) (off := 36) (tgt := 43) hq1 rfl (by decide +kernel) ?_
      have j0 := Option.some.inj h
      obtain ⟨i0, j1⟩ := Prod.mk.inj j0
      subst i0
      subst j1
      refine X.fgt (o' := [none, some (.int v1), none]) ⟨rfl, trivial⟩ ?_
      exact hk
    · refine X.icmp_ge_f (pc := 7) (off := 36) (tgt := 43) hq1 rfl (by decide +kernel) ?_
      refine X.iload_1 (pc := 10) (by decide +kernel) ?_
      refine X.aload_0 (pc := 11) (by decide +kernel) ?_
      obtain ⟨b2, hb2, h⟩ := bnd1_some h
      refine X.getR (pc := 12) (k := 15) fw_Mod_56 (by decide +kernel) (fun _ => rfl) hS hb2 ?_
      refine X.iload_2 (pc := 15) (by decide +kernel) ?_
      obtain ⟨hc4, h⟩ := asrt_some h
      obtain ⟨hi3, h⟩ := asrt_some h
      refine X.iaload (pc := 16) (by decide +kernel) hc4 hi3 ?_
      obtain ⟨y6, hr7, h⟩ := bnd1_some h
      have hj8 : X E y_Mod_clearsTracks b_Mod_clearsTracks 3 (some .int) tg d 0 0 25 [some (.ref (e_b E + v0)), none, some (.int v2)] [.int y6, .int v1] S I L R n K := by
        obtain ⟨x9, hv10, h⟩ := bnd1_some h
        refine X.callSi (pc := 25) (nc := 0) (ns := 0) (c_Mod_flag hE (dle hd (Nat.le_of_ble_eq_true rfl)) hv10) cv_Mod_155 (by decide +kernel) (ddd hd (Nat.le_of_ble_eq_true rfl)) rfl (Nat.le_of_ble_eq_true rfl) rfl rfl ?_
        refine X.iadd (pc := 28) (by decide +kernel) ?_
        refine X.nameI (fun x11 hx11 => ?_)
        have h := lt_at hx11 h
        refine X.istore_1 (pc := 29) (by decide +kernel) (by decide) rfl ?_
        refine X.aload_0 (pc := 30) (by decide +kernel) ?_
        refine X.getR (pc := 31) (k := 15) fw_Mod_56 (by decide +kernel) (fun _ => rfl) hS hb2 ?_
        refine X.iload_2 (pc := 34) (by decide +kernel) ?_
        refine X.iconst (pc := 35) (i := (-1)) (v := (-1)) ic_m1 (by decide +kernel) ?_
        obtain ⟨hi12, h⟩ := asrt_some h
        refine X.iastore (pc := 36) (by decide +kernel) hc4 hi12 ?_
        refine X.nameMI (fun I13 hI13 => ?_)
        have h := lt_at hI13 h
        refine X.iinc_2 (pc := 37) (z := 1) (v := 1) ic_1 (by decide +kernel) (by decide) rfl ?_
        refine X.goto (pc := 40) (off := (-36)) (tgt := 4) (by decide +kernel) rfl ?_
        exact ih hS h hk
      have h := hr7
      rcases ifb_some h with ⟨hq5, h⟩ | ⟨hq5, h⟩
      · refine X.if_lt_t (pc := 17) (off := 7) (tgt := 24) hq5 rfl (by decide +kernel) ?_
        refine X.iconst (pc := 24) (i := 0) (v := 0) ic_0 (by decide +kernel) ?_
        have j0 := Option.some.inj h
        subst j0
        refine X.fgt (o' := [some (.ref (e_b E + v0)), none, some (.int v2)]) ⟨rfl, ⟨rfl, trivial⟩⟩ ?_
        exact hj8
      · refine X.if_lt_f (pc := 17) (off := 7) (tgt := 24) hq5 rfl (by decide +kernel) ?_
        refine X.iconst (pc := 20) (i := 1) (v := 1) ic_1 (by decide +kernel) ?_
        refine X.goto (pc := 21) (off := 4) (tgt := 25) (by decide +kernel) rfl ?_
        have j0 := Option.some.inj h
        subst j0
        refine X.fgt (o' := [some (.ref (e_b E + v0)), none, some (.int v2)]) ⟨rfl, ⟨rfl, trivial⟩⟩ ?_
        exact hj8
set_option maxRecDepth 100000 in
noncomputable def f_Mod_clearsTracks (g : Nat) (S : MS) (R : MR) (I : MI) (t : Nat) : Option (Int32 × MI) :=
  bnd2 (l_Mod_clearsTracks_4 S R t g I 0 0) fun x14 I15 =>
  some (x14, I15)
set_option maxRecDepth 100000 in
set_option maxHeartbeats 4000000 in
theorem c_Mod_clearsTracks {E : Env} (hE : OKE E) {tg : Bool} {d : Nat} (hd : 1 ≤ d) {g : Nat} {S : MS} {I : MI} {L : ML} {R : MR} {n : Nat} {t : Nat} {v : Int32} {I' : MI} (hS : (S t).1 = 12) (h : f_Mod_clearsTracks g S R I t = some (v, I')) : C E y_Mod_clearsTracks b_Mod_clearsTracks 3 (some .int) tg d 0 0 [.ref (e_b E + t)] S I L R n (Kq (some (.int v)) S I' L R n) := by
  refine C.of (o := [some (.ref (e_b E + t)), none, none]) (by decide) rfl (Nat.le_of_ble_eq_true rfl) ?_
  rw [f_Mod_clearsTracks] at h
  refine X.iconst (pc := 0) (i := 0) (v := 0) ic_0 (by decide +kernel) ?_
  refine X.istore_1 (pc := 1) (by decide +kernel) (by decide) rfl ?_
  refine X.iconst (pc := 2) (i := 0) (v := 0) ic_0 (by decide +kernel) ?_
  refine X.istore_2 (pc := 3) (by decide +kernel) (by decide) rfl ?_
  obtain ⟨x14, I15, hv16, h⟩ := bnd2_some h
  refine xl_Mod_clearsTracks_4 hE hd hS hv16 ?_
  refine X.iload_1 (pc := 43) (by decide +kernel) ?_
  have j0 := Option.some.inj h
  obtain ⟨i0, j1⟩ := Prod.mk.inj j0
  subst i0
  subst j1
  exact X.ireturn (pc := 44) (by decide +kernel) ⟨_, rfl, rfl⟩ ⟨rfl, rfl, rfl, rfl, rfl, rfl⟩
set_option maxRecDepth 100000 in
noncomputable def f_Mod_new (g : Nat) (S : MS) (R : MR) (I : MI) (L : ML) (n : Nat) (t : Nat) : Option (MI × ML × MR × MS × Nat) :=
  lt (wS S n (21, 20)) fun (S1 : MS) =>
  lt (zI I n) fun (I2 : MI) =>
  lt (zL L n) fun (L3 : ML) =>
  lt (zR R n) fun (R4 : MR) =>
  lt (n + 1) fun (n5 : Nat) =>
  asrt ((S1 t).1 = 12) <|
  lt (wR R4 t 2 (some n)) fun (R7 : MR) =>
  lt (wI I2 t 3 1) fun (I8 : MI) =>
  lt (wI I8 t 4 1) fun (I9 : MI) =>
  lt (wS S1 n5 (20, 36)) fun (S10 : MS) =>
  lt (zI I9 n5) fun (I11 : MI) =>
  lt (zL L3 n5) fun (L12 : ML) =>
  lt (zR R7 n5) fun (R13 : MR) =>
  lt (n5 + 1) fun (n14 : Nat) =>
  asrt ((S10 t).1 = 12) <|
  lt (wR R13 t 5 (some n5)) fun (R16 : MR) =>
  lt (wS S10 n14 (20, 3)) fun (S17 : MS) =>
  lt (zI I11 n14) fun (I18 : MI) =>
  lt (zL L12 n14) fun (L19 : ML) =>
  lt (zR R16 n14) fun (R20 : MR) =>
  lt (n14 + 1) fun (n21 : Nat) =>
  asrt ((S17 n14).1 = 20) <|
  asrt (vp_in 0 (S17 n14).2) <|
  lt (wI I18 n14 (Int32.toNatClampNeg 0) 0) fun (I24 : MI) =>
  asrt (vp_in 1 (S17 n14).2) <|
  lt (wI I24 n14 (Int32.toNatClampNeg 1) 10) fun (I26 : MI) =>
  asrt (vp_in 2 (S17 n14).2) <|
  lt (wI I26 n14 (Int32.toNatClampNeg 2) 0) fun (I28 : MI) =>
  asrt ((S17 t).1 = 12) <|
  lt (wR R20 t 9 (some n14)) fun (R30 : MR) =>
  lt (wI I28 t 10 9) fun (I31 : MI) =>
  lt (wI I31 t 11 10) fun (I32 : MI) =>
  lt (wI I32 t 12 1) fun (I33 : MI) =>
  lt (wS S17 n21 (20, 36)) fun (S34 : MS) =>
  lt (zI I33 n21) fun (I35 : MI) =>
  lt (zL L19 n21) fun (L36 : ML) =>
  lt (zR R30 n21) fun (R37 : MR) =>
  lt (n21 + 1) fun (n38 : Nat) =>
  asrt ((S34 t).1 = 12) <|
  lt (wR R37 t 15 (some n21)) fun (R40 : MR) =>
  lt (wS S34 n38 (20, 80)) fun (S41 : MS) =>
  lt (zI I35 n38) fun (I42 : MI) =>
  lt (zL L36 n38) fun (L43 : ML) =>
  lt (zR R40 n38) fun (R44 : MR) =>
  lt (n38 + 1) fun (n45 : Nat) =>
  asrt ((S41 t).1 = 12) <|
  lt (wR R44 t 16 (some n38)) fun (R47 : MR) =>
  lt (wS S41 n45 (20, 36)) fun (S48 : MS) =>
  lt (zI I42 n45) fun (I49 : MI) =>
  lt (zL L43 n45) fun (L50 : ML) =>
  lt (zR R47 n45) fun (R51 : MR) =>
  lt (n45 + 1) fun (n52 : Nat) =>
  asrt ((S48 t).1 = 12) <|
  lt (wR R51 t 20 (some n45)) fun (R54 : MR) =>
  lt (wS S48 n52 (20, 5)) fun (S55 : MS) =>
  lt (zI I49 n52) fun (I56 : MI) =>
  lt (zL L50 n52) fun (L57 : ML) =>
  lt (zR R54 n52) fun (R58 : MR) =>
  lt (n52 + 1) fun (n59 : Nat) =>
  asrt ((S55 t).1 = 12) <|
  lt (wR R58 t 21 (some n52)) fun (R61 : MR) =>
  lt (wS S55 n59 (20, 5)) fun (S62 : MS) =>
  lt (zI I56 n59) fun (I63 : MI) =>
  lt (zL L57 n59) fun (L64 : ML) =>
  lt (zR R61 n59) fun (R65 : MR) =>
  lt (n59 + 1) fun (n66 : Nat) =>
  asrt ((S62 t).1 = 12) <|
  lt (wR R65 t 22 (some n59)) fun (R68 : MR) =>
  lt (wS S62 n66 (20, 860)) fun (S69 : MS) =>
  lt (zI I63 n66) fun (I70 : MI) =>
  lt (zL L64 n66) fun (L71 : ML) =>
  lt (zR R68 n66) fun (R72 : MR) =>
  lt (n66 + 1) fun (n73 : Nat) =>
  asrt ((S69 t).1 = 12) <|
  lt (wR R72 t 24 (some n66)) fun (R75 : MR) =>
  lt (wS S69 n73 (20, 144)) fun (S76 : MS) =>
  lt (zI I70 n73) fun (I77 : MI) =>
  lt (zL L71 n73) fun (L78 : ML) =>
  lt (zR R75 n73) fun (R79 : MR) =>
  lt (n73 + 1) fun (n80 : Nat) =>
  asrt ((S76 t).1 = 12) <|
  lt (wR R79 t 25 (some n73)) fun (R82 : MR) =>
  lt (wS S76 n80 (22, 144)) fun (S83 : MS) =>
  lt (zI I77 n80) fun (I84 : MI) =>
  lt (zL L78 n80) fun (L85 : ML) =>
  lt (zR R82 n80) fun (R86 : MR) =>
  lt (n80 + 1) fun (n87 : Nat) =>
  asrt ((S83 t).1 = 12) <|
  lt (wR R86 t 26 (some n80)) fun (R89 : MR) =>
  lt (wS S83 n87 (22, 144)) fun (S90 : MS) =>
  lt (zI I84 n87) fun (I91 : MI) =>
  lt (zL L85 n87) fun (L92 : ML) =>
  lt (zR R89 n87) fun (R93 : MR) =>
  lt (n87 + 1) fun (n94 : Nat) =>
  asrt ((S90 t).1 = 12) <|
  lt (wR R93 t 27 (some n87)) fun (R96 : MR) =>
  lt (wS S90 n94 (21, 1440)) fun (S97 : MS) =>
  lt (zI I91 n94) fun (I98 : MI) =>
  lt (zL L92 n94) fun (L99 : ML) =>
  lt (zR R96 n94) fun (R100 : MR) =>
  lt (n94 + 1) fun (n101 : Nat) =>
  asrt ((S97 t).1 = 12) <|
  lt (wR R100 t 28 (some n94)) fun (R103 : MR) =>
  lt (wS S97 n101 (21, 1440)) fun (S104 : MS) =>
  lt (zI I98 n101) fun (I105 : MI) =>
  lt (zL L99 n101) fun (L106 : ML) =>
  lt (zR R103 n101) fun (R107 : MR) =>
  lt (n101 + 1) fun (n108 : Nat) =>
  asrt ((S104 t).1 = 12) <|
  lt (wR R107 t 29 (some n101)) fun (R110 : MR) =>
  lt (wS S104 n108 (21, 144)) fun (S111 : MS) =>
  lt (zI I105 n108) fun (I112 : MI) =>
  lt (zL L106 n108) fun (L113 : ML) =>
  lt (zR R110 n108) fun (R114 : MR) =>
  lt (n108 + 1) fun (n115 : Nat) =>
  asrt ((S111 t).1 = 12) <|
  lt (wR R114 t 30 (some n108)) fun (R117 : MR) =>
  lt (wS S111 n115 (21, 144)) fun (S118 : MS) =>
  lt (zI I112 n115) fun (I119 : MI) =>
  lt (zL L113 n115) fun (L120 : ML) =>
  lt (zR R117 n115) fun (R121 : MR) =>
  lt (n115 + 1) fun (n122 : Nat) =>
  asrt ((S118 t).1 = 12) <|
  lt (wR R121 t 31 (some n115)) fun (R124 : MR) =>
  lt (wS S118 n122 (21, 1440)) fun (S125 : MS) =>
  lt (zI I119 n122) fun (I126 : MI) =>
  lt (zL L120 n122) fun (L127 : ML) =>
  lt (zR R124 n122) fun (R128 : MR) =>
  lt (n122 + 1) fun (n129 : Nat) =>
  asrt ((S125 t).1 = 12) <|
  lt (wR R128 t 32 (some n122)) fun (R131 : MR) =>
  lt (wS S125 n129 (21, 1440)) fun (S132 : MS) =>
  lt (zI I126 n129) fun (I133 : MI) =>
  lt (zL L127 n129) fun (L134 : ML) =>
  lt (zR R131 n129) fun (R135 : MR) =>
  lt (n129 + 1) fun (n136 : Nat) =>
  asrt ((S132 t).1 = 12) <|
  lt (wR R135 t 33 (some n129)) fun (R138 : MR) =>
  lt (wS S132 n136 (22, 3)) fun (S139 : MS) =>
  lt (zI I133 n136) fun (I140 : MI) =>
  lt (zL L134 n136) fun (L141 : ML) =>
  lt (zR R138 n136) fun (R142 : MR) =>
  lt (n136 + 1) fun (n143 : Nat) =>
  asrt ((S139 t).1 = 12) <|
  lt (wR R142 t 34 (some n136)) fun (R145 : MR) =>
  lt (wS S139 n143 (20, 15)) fun (S146 : MS) =>
  lt (zI I140 n143) fun (I147 : MI) =>
  lt (zL L141 n143) fun (L148 : ML) =>
  lt (zR R145 n143) fun (R149 : MR) =>
  lt (n143 + 1) fun (n150 : Nat) =>
  asrt ((S146 t).1 = 12) <|
  lt (wR R149 t 35 (some n143)) fun (R152 : MR) =>
  lt (wS S146 n150 (20, 5)) fun (S153 : MS) =>
  lt (zI I147 n150) fun (I154 : MI) =>
  lt (zL L148 n150) fun (L155 : ML) =>
  lt (zR R152 n150) fun (R156 : MR) =>
  lt (n150 + 1) fun (n157 : Nat) =>
  asrt ((S153 t).1 = 12) <|
  lt (wR R156 t 36 (some n150)) fun (R159 : MR) =>
  lt (wS S153 n157 (20, 32)) fun (S160 : MS) =>
  lt (zI I154 n157) fun (I161 : MI) =>
  lt (zL L155 n157) fun (L162 : ML) =>
  lt (zR R159 n157) fun (R163 : MR) =>
  lt (n157 + 1) fun (n164 : Nat) =>
  asrt ((S160 t).1 = 12) <|
  lt (wR R163 t 39 (some n157)) fun (R166 : MR) =>
  lt (wS S160 n164 (20, 32)) fun (S167 : MS) =>
  lt (zI I161 n164) fun (I168 : MI) =>
  lt (zL L162 n164) fun (L169 : ML) =>
  lt (zR R166 n164) fun (R170 : MR) =>
  lt (n164 + 1) fun (n171 : Nat) =>
  asrt ((S167 t).1 = 12) <|
  lt (wR R170 t 40 (some n164)) fun (R173 : MR) =>
  lt (wS S167 n171 (20, 12)) fun (S174 : MS) =>
  lt (zI I168 n171) fun (I175 : MI) =>
  lt (zL L169 n171) fun (L176 : ML) =>
  lt (zR R173 n171) fun (R177 : MR) =>
  lt (n171 + 1) fun (n178 : Nat) =>
  asrt ((S174 t).1 = 12) <|
  lt (wR R177 t 44 (some n171)) fun (R180 : MR) =>
  lt (wS S174 n178 (21, 52)) fun (S181 : MS) =>
  lt (zI I175 n178) fun (I182 : MI) =>
  lt (zL L176 n178) fun (L183 : ML) =>
  lt (zR R180 n178) fun (R184 : MR) =>
  lt (n178 + 1) fun (n185 : Nat) =>
  asrt ((S181 t).1 = 12) <|
  lt (wR R184 t 45 (some n178)) fun (R187 : MR) =>
  lt (wS S181 n185 (20, 52)) fun (S188 : MS) =>
  lt (zI I182 n185) fun (I189 : MI) =>
  lt (zL L183 n185) fun (L190 : ML) =>
  lt (zR R187 n185) fun (R191 : MR) =>
  lt (n185 + 1) fun (n192 : Nat) =>
  asrt ((S188 t).1 = 12) <|
  lt (wR R191 t 46 (some n185)) fun (R194 : MR) =>
  lt (wS S188 n192 (20, 25)) fun (S195 : MS) =>
  lt (zI I189 n192) fun (I196 : MI) =>
  lt (zL L190 n192) fun (L197 : ML) =>
  lt (zR R194 n192) fun (R198 : MR) =>
  lt (n192 + 1) fun (n199 : Nat) =>
  asrt ((S195 t).1 = 12) <|
  lt (wR R198 t 47 (some n192)) fun (R201 : MR) =>
  lt (wS S195 n199 (20, 5)) fun (S202 : MS) =>
  lt (zI I196 n199) fun (I203 : MI) =>
  lt (zL L197 n199) fun (L204 : ML) =>
  lt (zR R201 n199) fun (R205 : MR) =>
  lt (n199 + 1) fun (n206 : Nat) =>
  asrt ((S202 t).1 = 12) <|
  lt (wR R205 t 48 (some n199)) fun (R208 : MR) =>
  lt (wS S202 n206 (20, 5)) fun (S209 : MS) =>
  lt (zI I203 n206) fun (I210 : MI) =>
  lt (zL L204 n206) fun (L211 : ML) =>
  lt (zR R208 n206) fun (R212 : MR) =>
  lt (n206 + 1) fun (n213 : Nat) =>
  asrt ((S209 t).1 = 12) <|
  lt (wR R212 t 49 (some n206)) fun (R215 : MR) =>
  lt (wS S209 n213 (20, 129)) fun (S216 : MS) =>
  lt (zI I210 n213) fun (I217 : MI) =>
  lt (zL L211 n213) fun (L218 : ML) =>
  lt (zR R215 n213) fun (R219 : MR) =>
  lt (n213 + 1) fun (n220 : Nat) =>
  asrt ((S216 t).1 = 12) <|
  lt (wR R219 t 51 (some n213)) fun (R222 : MR) =>
  lt (wS S216 n220 (20, 3)) fun (S223 : MS) =>
  lt (zI I217 n220) fun (I224 : MI) =>
  lt (zL L218 n220) fun (L225 : ML) =>
  lt (zR R222 n220) fun (R226 : MR) =>
  lt (n220 + 1) fun (n227 : Nat) =>
  asrt ((S223 n220).1 = 20) <|
  asrt (vp_in 0 (S223 n220).2) <|
  lt (wI I224 n220 (Int32.toNatClampNeg 0) (-1)) fun (I230 : MI) =>
  asrt (vp_in 1 (S223 n220).2) <|
  lt (wI I230 n220 (Int32.toNatClampNeg 1) (-1)) fun (I232 : MI) =>
  asrt (vp_in 2 (S223 n220).2) <|
  lt (wI I232 n220 (Int32.toNatClampNeg 2) (-1)) fun (I234 : MI) =>
  asrt ((S223 t).1 = 12) <|
  lt (wR R226 t 52 (some n220)) fun (R236 : MR) =>
  lt (wS S223 n227 (20, 3)) fun (S237 : MS) =>
  lt (zI I234 n227) fun (I238 : MI) =>
  lt (zL L225 n227) fun (L239 : ML) =>
  lt (zR R236 n227) fun (R240 : MR) =>
  lt (n227 + 1) fun (n241 : Nat) =>
  asrt ((S237 t).1 = 12) <|
  lt (wR R240 t 53 (some n227)) fun (R243 : MR) =>
  bnd2 (f_Mod_clearsTracks g S237 R243 I238 t) fun x244 I245 =>
  some (I245, L239, R243, S237, n241)
set_option maxRecDepth 100000 in
set_option maxHeartbeats 4000000 in
theorem c_Mod_new {E : Env} (hE : OKE E) {d : Nat} (hd : 2 ≤ d) {g : Nat} {S : MS} {I : MI} {L : ML} {R : MR} {n : Nat} {t : Nat} {I' : MI} {L' : ML} {R' : MR} {S' : MS} {n' : Nat} (hS : (S t).1 = 12) (h : f_Mod_new g S R I L n t = some (I', L', R', S', n')) : C E y_Mod_new b_Mod_new 1 none true d 32 7934 [.ref (e_b E + t)] S I L R n (Kq none S' I' L' R' n') := by
  refine C.of (o := [some (.ref (e_b E + t))]) (by decide) rfl (Nat.le_of_ble_eq_true rfl) ?_
  rw [f_Mod_new] at h
  refine X.aload_0 (pc := 0) (by decide +kernel) ?_
  refine X.objInit (pc := 1) (by decide +kernel) oi_Mod_28 oi_i oi_c (Nat.le_trans (Nat.le_of_ble_eq_true rfl) hd) (Nat.le_of_ble_eq_true rfl) ?_
  refine X.aload_0 (pc := 4) (by decide +kernel) ?_
  refine X.bipush (pc := 5) (i := 20) (v := 20) bp_20 (by decide +kernel) ?_
  refine X.newarray (pc := 7) (t := 21) (N := 20) (nc := 31) (ns := 7914) (by decide +kernel) na_21 rfl (by decide) (Or.inr (Or.inl ⟨rfl, rfl⟩)) rfl rfl rfl ?_
  refine X.nameMS (fun S1 hS1 => ?_)
  have h := lt_at hS1 h
  refine X.nameMI (fun I2 hI2 => ?_)
  have h := lt_at hI2 h
  refine X.nameML (fun L3 hL3 => ?_)
  have h := lt_at hL3 h
  refine X.nameMR (fun R4 hR4 => ?_)
  have h := lt_at hR4 h
  refine X.nameN (fun n5 hn5 => ?_)
  have h := lt_at hn5 h
  obtain ⟨hc6, h⟩ := asrt_some h
  refine X.putR (pc := 9) (k := 2) fw_Mod_17 (by decide +kernel) (Or.inr ⟨_, rfl⟩) hc6 (Or.inr ⟨rfl, rfl, rfl, wfl_Mod_17⟩) ?_
  refine X.nameMR (fun R7 hR7 => ?_)
  have h := lt_at hR7 h
  refine X.aload_0 (pc := 12) (by decide +kernel) ?_
  refine X.iconst (pc := 13) (i := 1) (v := 1) ic_1 (by decide +kernel) ?_
  refine X.putI (pc := 14) (k := 3) fw_Mod_34 (by decide +kernel) rfl rfl hc6 ?_
  refine X.nameMI (fun I8 hI8 => ?_)
  have h := lt_at hI8 h
  refine X.aload_0 (pc := 17) (by decide +kernel) ?_
  refine X.iconst (pc := 18) (i := 1) (v := 1) ic_1 (by decide +kernel) ?_
  refine X.putI (pc := 19) (k := 4) fw_Mod_37 (by decide +kernel) rfl rfl hc6 ?_
  refine X.nameMI (fun I9 hI9 => ?_)
  have h := lt_at hI9 h
  refine X.aload_0 (pc := 22) (by decide +kernel) ?_
  refine X.bipush (pc := 23) (i := 36) (v := 36) bp_36 (by decide +kernel) ?_
  refine X.newarray (pc := 25) (t := 20) (N := 36) (nc := 30) (ns := 7878) (by decide +kernel) na_20 rfl (by decide) (Or.inl ⟨rfl, rfl⟩) rfl rfl rfl ?_
  refine X.nameMS (fun S10 hS10 => ?_)
  have h := lt_at hS10 h
  refine X.nameMI (fun I11 hI11 => ?_)
  have h := lt_at hI11 h
  refine X.nameML (fun L12 hL12 => ?_)
  have h := lt_at hL12 h
  refine X.nameMR (fun R13 hR13 => ?_)
  have h := lt_at hR13 h
  refine X.nameN (fun n14 hn14 => ?_)
  have h := lt_at hn14 h
  obtain ⟨hc15, h⟩ := asrt_some h
  refine X.putR (pc := 27) (k := 5) fw_Mod_40 (by decide +kernel) (Or.inr ⟨_, rfl⟩) hc15 (Or.inr ⟨rfl, rfl, rfl, wfl_Mod_40⟩) ?_
  refine X.nameMR (fun R16 hR16 => ?_)
  have h := lt_at hR16 h
  refine X.aload_0 (pc := 30) (by decide +kernel) ?_
  refine X.iconst (pc := 31) (i := 3) (v := 3) ic_3 (by decide +kernel) ?_
  refine X.newarray (pc := 32) (t := 20) (N := 3) (nc := 29) (ns := 7875) (by decide +kernel) na_20 rfl (by decide) (Or.inl ⟨rfl, rfl⟩) rfl rfl rfl ?_
  refine X.nameMS (fun S17 hS17 => ?_)
  have h := lt_at hS17 h
  refine X.nameMI (fun I18 hI18 => ?_)
  have h := lt_at hI18 h
  refine X.nameML (fun L19 hL19 => ?_)
  have h := lt_at hL19 h
  refine X.nameMR (fun R20 hR20 => ?_)
  have h := lt_at hR20 h
  refine X.nameN (fun n21 hn21 => ?_)
  have h := lt_at hn21 h
  refine X.dupr (pc := 34) (by decide +kernel) ?_
  refine X.iconst (pc := 35) (i := 0) (v := 0) ic_0 (by decide +kernel) ?_
  refine X.iconst (pc := 36) (i := 0) (v := 0) ic_0 (by decide +kernel) ?_
  obtain ⟨hc22, h⟩ := asrt_some h
  obtain ⟨hi23, h⟩ := asrt_some h
  refine X.iastore (pc := 37) (by decide +kernel) hc22 hi23 ?_
  refine X.nameMI (fun I24 hI24 => ?_)
  have h := lt_at hI24 h
  refine X.dupr (pc := 38) (by decide +kernel) ?_
  refine X.iconst (pc := 39) (i := 1) (v := 1) ic_1 (by decide +kernel) ?_
  refine X.bipush (pc := 40) (i := 10) (v := 10) bp_10 (by decide +kernel) ?_
  obtain ⟨hi25, h⟩ := asrt_some h
  refine X.iastore (pc := 42) (by decide +kernel) hc22 hi25 ?_
  refine X.nameMI (fun I26 hI26 => ?_)
  have h := lt_at hI26 h
  refine X.dupr (pc := 43) (by decide +kernel) ?_
  refine X.iconst (pc := 44) (i := 2) (v := 2) ic_2 (by decide +kernel) ?_
  refine X.iconst (pc := 45) (i := 0) (v := 0) ic_0 (by decide +kernel) ?_
  obtain ⟨hi27, h⟩ := asrt_some h
  refine X.iastore (pc := 46) (by decide +kernel) hc22 hi27 ?_
  refine X.nameMI (fun I28 hI28 => ?_)
  have h := lt_at hI28 h
  obtain ⟨hc29, h⟩ := asrt_some h
  refine X.putR (pc := 47) (k := 9) fw_Mod_44 (by decide +kernel) (Or.inr ⟨_, rfl⟩) hc29 (Or.inr ⟨rfl, rfl, rfl, wfl_Mod_44⟩) ?_
  refine X.nameMR (fun R30 hR30 => ?_)
  have h := lt_at hR30 h
  refine X.aload_0 (pc := 50) (by decide +kernel) ?_
  refine X.bipush (pc := 51) (i := 9) (v := 9) bp_9 (by decide +kernel) ?_
  refine X.putI (pc := 53) (k := 10) fw_Mod_47 (by decide +kernel) rfl rfl hc29 ?_
  refine X.nameMI (fun I31 hI31 => ?_)
  have h := lt_at hI31 h
  refine X.aload_0 (pc := 56) (by decide +kernel) ?_
  refine X.bipush (pc := 57) (i := 10) (v := 10) bp_10 (by decide +kernel) ?_
  refine X.putI (pc := 59) (k := 11) fw_Mod_50 (by decide +kernel) rfl rfl hc29 ?_
  refine X.nameMI (fun I32 hI32 => ?_)
  have h := lt_at hI32 h
  refine X.aload_0 (pc := 62) (by decide +kernel) ?_
  refine X.iconst (pc := 63) (i := 1) (v := 1) ic_1 (by decide +kernel) ?_
  refine X.putI (pc := 64) (k := 12) fw_Mod_53 (by decide +kernel) rfl rfl hc29 ?_
  refine X.nameMI (fun I33 hI33 => ?_)
  have h := lt_at hI33 h
  refine X.aload_0 (pc := 67) (by decide +kernel) ?_
  refine X.bipush (pc := 68) (i := 36) (v := 36) bp_36 (by decide +kernel) ?_
  refine X.newarray (pc := 70) (t := 20) (N := 36) (nc := 28) (ns := 7839) (by decide +kernel) na_20 rfl (by decide) (Or.inl ⟨rfl, rfl⟩) rfl rfl rfl ?_
  refine X.nameMS (fun S34 hS34 => ?_)
  have h := lt_at hS34 h
  refine X.nameMI (fun I35 hI35 => ?_)
  have h := lt_at hI35 h
  refine X.nameML (fun L36 hL36 => ?_)
  have h := lt_at hL36 h
  refine X.nameMR (fun R37 hR37 => ?_)
  have h := lt_at hR37 h
  refine X.nameN (fun n38 hn38 => ?_)
  have h := lt_at hn38 h
  obtain ⟨hc39, h⟩ := asrt_some h
  refine X.putR (pc := 72) (k := 15) fw_Mod_56 (by decide +kernel) (Or.inr ⟨_, rfl⟩) hc39 (Or.inr ⟨rfl, rfl, rfl, wfl_Mod_56⟩) ?_
  refine X.nameMR (fun R40 hR40 => ?_)
  have h := lt_at hR40 h
  refine X.aload_0 (pc := 75) (by decide +kernel) ?_
  refine X.bipush (pc := 76) (i := 80) (v := 80) bp_80 (by decide +kernel) ?_
  refine X.newarray (pc := 78) (t := 20) (N := 80) (nc := 27) (ns := 7759) (by decide +kernel) na_20 rfl (by decide) (Or.inl ⟨rfl, rfl⟩) rfl rfl rfl ?_
  refine X.nameMS (fun S41 hS41 => ?_)
  have h := lt_at hS41 h
  refine X.nameMI (fun I42 hI42 => ?_)
  have h := lt_at hI42 h
  refine X.nameML (fun L43 hL43 => ?_)
  have h := lt_at hL43 h
  refine X.nameMR (fun R44 hR44 => ?_)
  have h := lt_at hR44 h
  refine X.nameN (fun n45 hn45 => ?_)
  have h := lt_at hn45 h
  obtain ⟨hc46, h⟩ := asrt_some h
  refine X.putR (pc := 80) (k := 16) fw_Mod_59 (by decide +kernel) (Or.inr ⟨_, rfl⟩) hc46 (Or.inr ⟨rfl, rfl, rfl, wfl_Mod_59⟩) ?_
  refine X.nameMR (fun R47 hR47 => ?_)
  have h := lt_at hR47 h
  refine X.aload_0 (pc := 83) (by decide +kernel) ?_
  refine X.bipush (pc := 84) (i := 36) (v := 36) bp_36 (by decide +kernel) ?_
  refine X.newarray (pc := 86) (t := 20) (N := 36) (nc := 26) (ns := 7723) (by decide +kernel) na_20 rfl (by decide) (Or.inl ⟨rfl, rfl⟩) rfl rfl rfl ?_
  refine X.nameMS (fun S48 hS48 => ?_)
  have h := lt_at hS48 h
  refine X.nameMI (fun I49 hI49 => ?_)
  have h := lt_at hI49 h
  refine X.nameML (fun L50 hL50 => ?_)
  have h := lt_at hL50 h
  refine X.nameMR (fun R51 hR51 => ?_)
  have h := lt_at hR51 h
  refine X.nameN (fun n52 hn52 => ?_)
  have h := lt_at hn52 h
  obtain ⟨hc53, h⟩ := asrt_some h
  refine X.putR (pc := 88) (k := 20) fw_Mod_62 (by decide +kernel) (Or.inr ⟨_, rfl⟩) hc53 (Or.inr ⟨rfl, rfl, rfl, wfl_Mod_62⟩) ?_
  refine X.nameMR (fun R54 hR54 => ?_)
  have h := lt_at hR54 h
  refine X.aload_0 (pc := 91) (by decide +kernel) ?_
  refine X.iconst (pc := 92) (i := 5) (v := 5) ic_5 (by decide +kernel) ?_
  refine X.newarray (pc := 93) (t := 20) (N := 5) (nc := 25) (ns := 7718) (by decide +kernel) na_20 rfl (by decide) (Or.inl ⟨rfl, rfl⟩) rfl rfl rfl ?_
  refine X.nameMS (fun S55 hS55 => ?_)
  have h := lt_at hS55 h
  refine X.nameMI (fun I56 hI56 => ?_)
  have h := lt_at hI56 h
  refine X.nameML (fun L57 hL57 => ?_)
  have h := lt_at hL57 h
  refine X.nameMR (fun R58 hR58 => ?_)
  have h := lt_at hR58 h
  refine X.nameN (fun n59 hn59 => ?_)
  have h := lt_at hn59 h
  obtain ⟨hc60, h⟩ := asrt_some h
  refine X.putR (pc := 95) (k := 21) fw_Mod_65 (by decide +kernel) (Or.inr ⟨_, rfl⟩) hc60 (Or.inr ⟨rfl, rfl, rfl, wfl_Mod_65⟩) ?_
  refine X.nameMR (fun R61 hR61 => ?_)
  have h := lt_at hR61 h
  refine X.aload_0 (pc := 98) (by decide +kernel) ?_
  refine X.iconst (pc := 99) (i := 5) (v := 5) ic_5 (by decide +kernel) ?_
  refine X.newarray (pc := 100) (t := 20) (N := 5) (nc := 24) (ns := 7713) (by decide +kernel) na_20 rfl (by decide) (Or.inl ⟨rfl, rfl⟩) rfl rfl rfl ?_
  refine X.nameMS (fun S62 hS62 => ?_)
  have h := lt_at hS62 h
  refine X.nameMI (fun I63 hI63 => ?_)
  have h := lt_at hI63 h
  refine X.nameML (fun L64 hL64 => ?_)
  have h := lt_at hL64 h
  refine X.nameMR (fun R65 hR65 => ?_)
  have h := lt_at hR65 h
  refine X.nameN (fun n66 hn66 => ?_)
  have h := lt_at hn66 h
  obtain ⟨hc67, h⟩ := asrt_some h
  refine X.putR (pc := 102) (k := 22) fw_Mod_68 (by decide +kernel) (Or.inr ⟨_, rfl⟩) hc67 (Or.inr ⟨rfl, rfl, rfl, wfl_Mod_68⟩) ?_
  refine X.nameMR (fun R68 hR68 => ?_)
  have h := lt_at hR68 h
  refine X.aload_0 (pc := 105) (by decide +kernel) ?_
  refine X.sipush (pc := 106) (i := 860) (v := 860) sp_860 (by decide +kernel) ?_
  refine X.newarray (pc := 109) (t := 20) (N := 860) (nc := 23) (ns := 6853) (by decide +kernel) na_20 rfl (by decide) (Or.inl ⟨rfl, rfl⟩) rfl rfl rfl ?_
  refine X.nameMS (fun S69 hS69 => ?_)
  have h := lt_at hS69 h
  refine X.nameMI (fun I70 hI70 => ?_)
  have h := lt_at hI70 h
  refine X.nameML (fun L71 hL71 => ?_)
  have h := lt_at hL71 h
  refine X.nameMR (fun R72 hR72 => ?_)
  have h := lt_at hR72 h
  refine X.nameN (fun n73 hn73 => ?_)
  have h := lt_at hn73 h
  obtain ⟨hc74, h⟩ := asrt_some h
  refine X.putR (pc := 111) (k := 24) fw_Mod_71 (by decide +kernel) (Or.inr ⟨_, rfl⟩) hc74 (Or.inr ⟨rfl, rfl, rfl, wfl_Mod_71⟩) ?_
  refine X.nameMR (fun R75 hR75 => ?_)
  have h := lt_at hR75 h
  refine X.aload_0 (pc := 114) (by decide +kernel) ?_
  refine X.sipush (pc := 115) (i := 144) (v := 144) sp_144 (by decide +kernel) ?_
  refine X.newarray (pc := 118) (t := 20) (N := 144) (nc := 22) (ns := 6709) (by decide +kernel) na_20 rfl (by decide) (Or.inl ⟨rfl, rfl⟩) rfl rfl rfl ?_
  refine X.nameMS (fun S76 hS76 => ?_)
  have h := lt_at hS76 h
  refine X.nameMI (fun I77 hI77 => ?_)
  have h := lt_at hI77 h
  refine X.nameML (fun L78 hL78 => ?_)
  have h := lt_at hL78 h
  refine X.nameMR (fun R79 hR79 => ?_)
  have h := lt_at hR79 h
  refine X.nameN (fun n80 hn80 => ?_)
  have h := lt_at hn80 h
  obtain ⟨hc81, h⟩ := asrt_some h
  refine X.putR (pc := 120) (k := 25) fw_Mod_74 (by decide +kernel) (Or.inr ⟨_, rfl⟩) hc81 (Or.inr ⟨rfl, rfl, rfl, wfl_Mod_74⟩) ?_
  refine X.nameMR (fun R82 hR82 => ?_)
  have h := lt_at hR82 h
  refine X.aload_0 (pc := 123) (by decide +kernel) ?_
  refine X.sipush (pc := 124) (i := 144) (v := 144) sp_144 (by decide +kernel) ?_
  refine X.newarray (pc := 127) (t := 22) (N := 144) (nc := 21) (ns := 6565) (by decide +kernel) na_22 rfl (by decide) (Or.inr (Or.inr ⟨rfl, rfl⟩)) rfl rfl rfl ?_
  refine X.nameMS (fun S83 hS83 => ?_)
  have h := lt_at hS83 h
  refine X.nameMI (fun I84 hI84 => ?_)
  have h := lt_at hI84 h
  refine X.nameML (fun L85 hL85 => ?_)
  have h := lt_at hL85 h
  refine X.nameMR (fun R86 hR86 => ?_)
  have h := lt_at hR86 h
  refine X.nameN (fun n87 hn87 => ?_)
  have h := lt_at hn87 h
  obtain ⟨hc88, h⟩ := asrt_some h
  refine X.putR (pc := 129) (k := 26) fw_Mod_77 (by decide +kernel) (Or.inr ⟨_, rfl⟩) hc88 (Or.inr ⟨rfl, rfl, rfl, wfl_Mod_77⟩) ?_
  refine X.nameMR (fun R89 hR89 => ?_)
  have h := lt_at hR89 h
  refine X.aload_0 (pc := 132) (by decide +kernel) ?_
  refine X.sipush (pc := 133) (i := 144) (v := 144) sp_144 (by decide +kernel) ?_
  refine X.newarray (pc := 136) (t := 22) (N := 144) (nc := 20) (ns := 6421) (by decide +kernel) na_22 rfl (by decide) (Or.inr (Or.inr ⟨rfl, rfl⟩)) rfl rfl rfl ?_
  refine X.nameMS (fun S90 hS90 => ?_)
  have h := lt_at hS90 h
  refine X.nameMI (fun I91 hI91 => ?_)
  have h := lt_at hI91 h
  refine X.nameML (fun L92 hL92 => ?_)
  have h := lt_at hL92 h
  refine X.nameMR (fun R93 hR93 => ?_)
  have h := lt_at hR93 h
  refine X.nameN (fun n94 hn94 => ?_)
  have h := lt_at hn94 h
  obtain ⟨hc95, h⟩ := asrt_some h
  refine X.putR (pc := 138) (k := 27) fw_Mod_81 (by decide +kernel) (Or.inr ⟨_, rfl⟩) hc95 (Or.inr ⟨rfl, rfl, rfl, wfl_Mod_81⟩) ?_
  refine X.nameMR (fun R96 hR96 => ?_)
  have h := lt_at hR96 h
  refine X.aload_0 (pc := 141) (by decide +kernel) ?_
  refine X.sipush (pc := 142) (i := 1440) (v := 1440) sp_1440 (by decide +kernel) ?_
  refine X.newarray (pc := 145) (t := 21) (N := 1440) (nc := 19) (ns := 4981) (by decide +kernel) na_21 rfl (by decide) (Or.inr (Or.inl ⟨rfl, rfl⟩)) rfl rfl rfl ?_
  refine X.nameMS (fun S97 hS97 => ?_)
  have h := lt_at hS97 h
  refine X.nameMI (fun I98 hI98 => ?_)
  have h := lt_at hI98 h
  refine X.nameML (fun L99 hL99 => ?_)
  have h := lt_at hL99 h
  refine X.nameMR (fun R100 hR100 => ?_)
  have h := lt_at hR100 h
  refine X.nameN (fun n101 hn101 => ?_)
  have h := lt_at hn101 h
  obtain ⟨hc102, h⟩ := asrt_some h
  refine X.putR (pc := 147) (k := 28) fw_Mod_84 (by decide +kernel) (Or.inr ⟨_, rfl⟩) hc102 (Or.inr ⟨rfl, rfl, rfl, wfl_Mod_84⟩) ?_
  refine X.nameMR (fun R103 hR103 => ?_)
  have h := lt_at hR103 h
  refine X.aload_0 (pc := 150) (by decide +kernel) ?_
  refine X.sipush (pc := 151) (i := 1440) (v := 1440) sp_1440 (by decide +kernel) ?_
  refine X.newarray (pc := 154) (t := 21) (N := 1440) (nc := 18) (ns := 3541) (by decide +kernel) na_21 rfl (by decide) (Or.inr (Or.inl ⟨rfl, rfl⟩)) rfl rfl rfl ?_
  refine X.nameMS (fun S104 hS104 => ?_)
  have h := lt_at hS104 h
  refine X.nameMI (fun I105 hI105 => ?_)
  have h := lt_at hI105 h
  refine X.nameML (fun L106 hL106 => ?_)
  have h := lt_at hL106 h
  refine X.nameMR (fun R107 hR107 => ?_)
  have h := lt_at hR107 h
  refine X.nameN (fun n108 hn108 => ?_)
  have h := lt_at hn108 h
  obtain ⟨hc109, h⟩ := asrt_some h
  refine X.putR (pc := 156) (k := 29) fw_Mod_87 (by decide +kernel) (Or.inr ⟨_, rfl⟩) hc109 (Or.inr ⟨rfl, rfl, rfl, wfl_Mod_87⟩) ?_
  refine X.nameMR (fun R110 hR110 => ?_)
  have h := lt_at hR110 h
  refine X.aload_0 (pc := 159) (by decide +kernel) ?_
  refine X.sipush (pc := 160) (i := 144) (v := 144) sp_144 (by decide +kernel) ?_
  refine X.newarray (pc := 163) (t := 21) (N := 144) (nc := 17) (ns := 3397) (by decide +kernel) na_21 rfl (by decide) (Or.inr (Or.inl ⟨rfl, rfl⟩)) rfl rfl rfl ?_
  refine X.nameMS (fun S111 hS111 => ?_)
  have h := lt_at hS111 h
  refine X.nameMI (fun I112 hI112 => ?_)
  have h := lt_at hI112 h
  refine X.nameML (fun L113 hL113 => ?_)
  have h := lt_at hL113 h
  refine X.nameMR (fun R114 hR114 => ?_)
  have h := lt_at hR114 h
  refine X.nameN (fun n115 hn115 => ?_)
  have h := lt_at hn115 h
  obtain ⟨hc116, h⟩ := asrt_some h
  refine X.putR (pc := 165) (k := 30) fw_Mod_90 (by decide +kernel) (Or.inr ⟨_, rfl⟩) hc116 (Or.inr ⟨rfl, rfl, rfl, wfl_Mod_90⟩) ?_
  refine X.nameMR (fun R117 hR117 => ?_)
  have h := lt_at hR117 h
  refine X.aload_0 (pc := 168) (by decide +kernel) ?_
  refine X.sipush (pc := 169) (i := 144) (v := 144) sp_144 (by decide +kernel) ?_
  refine X.newarray (pc := 172) (t := 21) (N := 144) (nc := 16) (ns := 3253) (by decide +kernel) na_21 rfl (by decide) (Or.inr (Or.inl ⟨rfl, rfl⟩)) rfl rfl rfl ?_
  refine X.nameMS (fun S118 hS118 => ?_)
  have h := lt_at hS118 h
  refine X.nameMI (fun I119 hI119 => ?_)
  have h := lt_at hI119 h
  refine X.nameML (fun L120 hL120 => ?_)
  have h := lt_at hL120 h
  refine X.nameMR (fun R121 hR121 => ?_)
  have h := lt_at hR121 h
  refine X.nameN (fun n122 hn122 => ?_)
  have h := lt_at hn122 h
  obtain ⟨hc123, h⟩ := asrt_some h
  refine X.putR (pc := 174) (k := 31) fw_Mod_93 (by decide +kernel) (Or.inr ⟨_, rfl⟩) hc123 (Or.inr ⟨rfl, rfl, rfl, wfl_Mod_93⟩) ?_
  refine X.nameMR (fun R124 hR124 => ?_)
  have h := lt_at hR124 h
  refine X.aload_0 (pc := 177) (by decide +kernel) ?_
  refine X.sipush (pc := 178) (i := 1440) (v := 1440) sp_1440 (by decide +kernel) ?_
  refine X.newarray (pc := 181) (t := 21) (N := 1440) (nc := 15) (ns := 1813) (by decide +kernel) na_21 rfl (by decide) (Or.inr (Or.inl ⟨rfl, rfl⟩)) rfl rfl rfl ?_
  refine X.nameMS (fun S125 hS125 => ?_)
  have h := lt_at hS125 h
  refine X.nameMI (fun I126 hI126 => ?_)
  have h := lt_at hI126 h
  refine X.nameML (fun L127 hL127 => ?_)
  have h := lt_at hL127 h
  refine X.nameMR (fun R128 hR128 => ?_)
  have h := lt_at hR128 h
  refine X.nameN (fun n129 hn129 => ?_)
  have h := lt_at hn129 h
  obtain ⟨hc130, h⟩ := asrt_some h
  refine X.putR (pc := 183) (k := 32) fw_Mod_96 (by decide +kernel) (Or.inr ⟨_, rfl⟩) hc130 (Or.inr ⟨rfl, rfl, rfl, wfl_Mod_96⟩) ?_
  refine X.nameMR (fun R131 hR131 => ?_)
  have h := lt_at hR131 h
  refine X.aload_0 (pc := 186) (by decide +kernel) ?_
  refine X.sipush (pc := 187) (i := 1440) (v := 1440) sp_1440 (by decide +kernel) ?_
  refine X.newarray (pc := 190) (t := 21) (N := 1440) (nc := 14) (ns := 373) (by decide +kernel) na_21 rfl (by decide) (Or.inr (Or.inl ⟨rfl, rfl⟩)) rfl rfl rfl ?_
  refine X.nameMS (fun S132 hS132 => ?_)
  have h := lt_at hS132 h
  refine X.nameMI (fun I133 hI133 => ?_)
  have h := lt_at hI133 h
  refine X.nameML (fun L134 hL134 => ?_)
  have h := lt_at hL134 h
  refine X.nameMR (fun R135 hR135 => ?_)
  have h := lt_at hR135 h
  refine X.nameN (fun n136 hn136 => ?_)
  have h := lt_at hn136 h
  obtain ⟨hc137, h⟩ := asrt_some h
  refine X.putR (pc := 192) (k := 33) fw_Mod_99 (by decide +kernel) (Or.inr ⟨_, rfl⟩) hc137 (Or.inr ⟨rfl, rfl, rfl, wfl_Mod_99⟩) ?_
  refine X.nameMR (fun R138 hR138 => ?_)
  have h := lt_at hR138 h
  refine X.aload_0 (pc := 195) (by decide +kernel) ?_
  refine X.iconst (pc := 196) (i := 3) (v := 3) ic_3 (by decide +kernel) ?_
  refine X.newarray (pc := 197) (t := 22) (N := 3) (nc := 13) (ns := 370) (by decide +kernel) na_22 rfl (by decide) (Or.inr (Or.inr ⟨rfl, rfl⟩)) rfl rfl rfl ?_
  refine X.nameMS (fun S139 hS139 => ?_)
  have h := lt_at hS139 h
  refine X.nameMI (fun I140 hI140 => ?_)
  have h := lt_at hI140 h
  refine X.nameML (fun L141 hL141 => ?_)
  have h := lt_at hL141 h
  refine X.nameMR (fun R142 hR142 => ?_)
  have h := lt_at hR142 h
  refine X.nameN (fun n143 hn143 => ?_)
  have h := lt_at hn143 h
  obtain ⟨hc144, h⟩ := asrt_some h
  refine X.putR (pc := 199) (k := 34) fw_Mod_102 (by decide +kernel) (Or.inr ⟨_, rfl⟩) hc144 (Or.inr ⟨rfl, rfl, rfl, wfl_Mod_102⟩) ?_
  refine X.nameMR (fun R145 hR145 => ?_)
  have h := lt_at hR145 h
  refine X.aload_0 (pc := 202) (by decide +kernel) ?_
  refine X.bipush (pc := 203) (i := 15) (v := 15) bp_15 (by decide +kernel) ?_
  refine X.newarray (pc := 205) (t := 20) (N := 15) (nc := 12) (ns := 355) (by decide +kernel) na_20 rfl (by decide) (Or.inl ⟨rfl, rfl⟩) rfl rfl rfl ?_
  refine X.nameMS (fun S146 hS146 => ?_)
  have h := lt_at hS146 h
  refine X.nameMI (fun I147 hI147 => ?_)
  have h := lt_at hI147 h
  refine X.nameML (fun L148 hL148 => ?_)
  have h := lt_at hL148 h
  refine X.nameMR (fun R149 hR149 => ?_)
  have h := lt_at hR149 h
  refine X.nameN (fun n150 hn150 => ?_)
  have h := lt_at hn150 h
  obtain ⟨hc151, h⟩ := asrt_some h
  refine X.putR (pc := 207) (k := 35) fw_Mod_105 (by decide +kernel) (Or.inr ⟨_, rfl⟩) hc151 (Or.inr ⟨rfl, rfl, rfl, wfl_Mod_105⟩) ?_
  refine X.nameMR (fun R152 hR152 => ?_)
  have h := lt_at hR152 h
  refine X.aload_0 (pc := 210) (by decide +kernel) ?_
  refine X.iconst (pc := 211) (i := 5) (v := 5) ic_5 (by decide +kernel) ?_
  refine X.newarray (pc := 212) (t := 20) (N := 5) (nc := 11) (ns := 350) (by decide +kernel) na_20 rfl (by decide) (Or.inl ⟨rfl, rfl⟩) rfl rfl rfl ?_
  refine X.nameMS (fun S153 hS153 => ?_)
  have h := lt_at hS153 h
  refine X.nameMI (fun I154 hI154 => ?_)
  have h := lt_at hI154 h
  refine X.nameML (fun L155 hL155 => ?_)
  have h := lt_at hL155 h
  refine X.nameMR (fun R156 hR156 => ?_)
  have h := lt_at hR156 h
  refine X.nameN (fun n157 hn157 => ?_)
  have h := lt_at hn157 h
  obtain ⟨hc158, h⟩ := asrt_some h
  refine X.putR (pc := 214) (k := 36) fw_Mod_108 (by decide +kernel) (Or.inr ⟨_, rfl⟩) hc158 (Or.inr ⟨rfl, rfl, rfl, wfl_Mod_108⟩) ?_
  refine X.nameMR (fun R159 hR159 => ?_)
  have h := lt_at hR159 h
  refine X.aload_0 (pc := 217) (by decide +kernel) ?_
  refine X.bipush (pc := 218) (i := 32) (v := 32) bp_32 (by decide +kernel) ?_
  refine X.newarray (pc := 220) (t := 20) (N := 32) (nc := 10) (ns := 318) (by decide +kernel) na_20 rfl (by decide) (Or.inl ⟨rfl, rfl⟩) rfl rfl rfl ?_
  refine X.nameMS (fun S160 hS160 => ?_)
  have h := lt_at hS160 h
  refine X.nameMI (fun I161 hI161 => ?_)
  have h := lt_at hI161 h
  refine X.nameML (fun L162 hL162 => ?_)
  have h := lt_at hL162 h
  refine X.nameMR (fun R163 hR163 => ?_)
  have h := lt_at hR163 h
  refine X.nameN (fun n164 hn164 => ?_)
  have h := lt_at hn164 h
  obtain ⟨hc165, h⟩ := asrt_some h
  refine X.putR (pc := 222) (k := 39) fw_Mod_111 (by decide +kernel) (Or.inr ⟨_, rfl⟩) hc165 (Or.inr ⟨rfl, rfl, rfl, wfl_Mod_111⟩) ?_
  refine X.nameMR (fun R166 hR166 => ?_)
  have h := lt_at hR166 h
  refine X.aload_0 (pc := 225) (by decide +kernel) ?_
  refine X.bipush (pc := 226) (i := 32) (v := 32) bp_32 (by decide +kernel) ?_
  refine X.newarray (pc := 228) (t := 20) (N := 32) (nc := 9) (ns := 286) (by decide +kernel) na_20 rfl (by decide) (Or.inl ⟨rfl, rfl⟩) rfl rfl rfl ?_
  refine X.nameMS (fun S167 hS167 => ?_)
  have h := lt_at hS167 h
  refine X.nameMI (fun I168 hI168 => ?_)
  have h := lt_at hI168 h
  refine X.nameML (fun L169 hL169 => ?_)
  have h := lt_at hL169 h
  refine X.nameMR (fun R170 hR170 => ?_)
  have h := lt_at hR170 h
  refine X.nameN (fun n171 hn171 => ?_)
  have h := lt_at hn171 h
  obtain ⟨hc172, h⟩ := asrt_some h
  refine X.putR (pc := 230) (k := 40) fw_Mod_114 (by decide +kernel) (Or.inr ⟨_, rfl⟩) hc172 (Or.inr ⟨rfl, rfl, rfl, wfl_Mod_114⟩) ?_
  refine X.nameMR (fun R173 hR173 => ?_)
  have h := lt_at hR173 h
  refine X.aload_0 (pc := 233) (by decide +kernel) ?_
  refine X.bipush (pc := 234) (i := 12) (v := 12) bp_12 (by decide +kernel) ?_
  refine X.newarray (pc := 236) (t := 20) (N := 12) (nc := 8) (ns := 274) (by decide +kernel) na_20 rfl (by decide) (Or.inl ⟨rfl, rfl⟩) rfl rfl rfl ?_
  refine X.nameMS (fun S174 hS174 => ?_)
  have h := lt_at hS174 h
  refine X.nameMI (fun I175 hI175 => ?_)
  have h := lt_at hI175 h
  refine X.nameML (fun L176 hL176 => ?_)
  have h := lt_at hL176 h
  refine X.nameMR (fun R177 hR177 => ?_)
  have h := lt_at hR177 h
  refine X.nameN (fun n178 hn178 => ?_)
  have h := lt_at hn178 h
  obtain ⟨hc179, h⟩ := asrt_some h
  refine X.putR (pc := 238) (k := 44) fw_Mod_117 (by decide +kernel) (Or.inr ⟨_, rfl⟩) hc179 (Or.inr ⟨rfl, rfl, rfl, wfl_Mod_117⟩) ?_
  refine X.nameMR (fun R180 hR180 => ?_)
  have h := lt_at hR180 h
  refine X.aload_0 (pc := 241) (by decide +kernel) ?_
  refine X.bipush (pc := 242) (i := 52) (v := 52) bp_52 (by decide +kernel) ?_
  refine X.newarray (pc := 244) (t := 21) (N := 52) (nc := 7) (ns := 222) (by decide +kernel) na_21 rfl (by decide) (Or.inr (Or.inl ⟨rfl, rfl⟩)) rfl rfl rfl ?_
  refine X.nameMS (fun S181 hS181 => ?_)
  have h := lt_at hS181 h
  refine X.nameMI (fun I182 hI182 => ?_)
  have h := lt_at hI182 h
  refine X.nameML (fun L183 hL183 => ?_)
  have h := lt_at hL183 h
  refine X.nameMR (fun R184 hR184 => ?_)
  have h := lt_at hR184 h
  refine X.nameN (fun n185 hn185 => ?_)
  have h := lt_at hn185 h
  obtain ⟨hc186, h⟩ := asrt_some h
  refine X.putR (pc := 246) (k := 45) fw_Mod_120 (by decide +kernel) (Or.inr ⟨_, rfl⟩) hc186 (Or.inr ⟨rfl, rfl, rfl, wfl_Mod_120⟩) ?_
  refine X.nameMR (fun R187 hR187 => ?_)
  have h := lt_at hR187 h
  refine X.aload_0 (pc := 249) (by decide +kernel) ?_
  refine X.bipush (pc := 250) (i := 52) (v := 52) bp_52 (by decide +kernel) ?_
  refine X.newarray (pc := 252) (t := 20) (N := 52) (nc := 6) (ns := 170) (by decide +kernel) na_20 rfl (by decide) (Or.inl ⟨rfl, rfl⟩) rfl rfl rfl ?_
  refine X.nameMS (fun S188 hS188 => ?_)
  have h := lt_at hS188 h
  refine X.nameMI (fun I189 hI189 => ?_)
  have h := lt_at hI189 h
  refine X.nameML (fun L190 hL190 => ?_)
  have h := lt_at hL190 h
  refine X.nameMR (fun R191 hR191 => ?_)
  have h := lt_at hR191 h
  refine X.nameN (fun n192 hn192 => ?_)
  have h := lt_at hn192 h
  obtain ⟨hc193, h⟩ := asrt_some h
  refine X.putR (pc := 254) (k := 46) fw_Mod_123 (by decide +kernel) (Or.inr ⟨_, rfl⟩) hc193 (Or.inr ⟨rfl, rfl, rfl, wfl_Mod_123⟩) ?_
  refine X.nameMR (fun R194 hR194 => ?_)
  have h := lt_at hR194 h
  refine X.aload_0 (pc := 257) (by decide +kernel) ?_
  refine X.bipush (pc := 258) (i := 25) (v := 25) bp_25 (by decide +kernel) ?_
  refine X.newarray (pc := 260) (t := 20) (N := 25) (nc := 5) (ns := 145) (by decide +kernel) na_20 rfl (by decide) (Or.inl ⟨rfl, rfl⟩) rfl rfl rfl ?_
  refine X.nameMS (fun S195 hS195 => ?_)
  have h := lt_at hS195 h
  refine X.nameMI (fun I196 hI196 => ?_)
  have h := lt_at hI196 h
  refine X.nameML (fun L197 hL197 => ?_)
  have h := lt_at hL197 h
  refine X.nameMR (fun R198 hR198 => ?_)
  have h := lt_at hR198 h
  refine X.nameN (fun n199 hn199 => ?_)
  have h := lt_at hn199 h
  obtain ⟨hc200, h⟩ := asrt_some h
  refine X.putR (pc := 262) (k := 47) fw_Mod_126 (by decide +kernel) (Or.inr ⟨_, rfl⟩) hc200 (Or.inr ⟨rfl, rfl, rfl, wfl_Mod_126⟩) ?_
  refine X.nameMR (fun R201 hR201 => ?_)
  have h := lt_at hR201 h
  refine X.aload_0 (pc := 265) (by decide +kernel) ?_
  refine X.iconst (pc := 266) (i := 5) (v := 5) ic_5 (by decide +kernel) ?_
  refine X.newarray (pc := 267) (t := 20) (N := 5) (nc := 4) (ns := 140) (by decide +kernel) na_20 rfl (by decide) (Or.inl ⟨rfl, rfl⟩) rfl rfl rfl ?_
  refine X.nameMS (fun S202 hS202 => ?_)
  have h := lt_at hS202 h
  refine X.nameMI (fun I203 hI203 => ?_)
  have h := lt_at hI203 h
  refine X.nameML (fun L204 hL204 => ?_)
  have h := lt_at hL204 h
  refine X.nameMR (fun R205 hR205 => ?_)
  have h := lt_at hR205 h
  refine X.nameN (fun n206 hn206 => ?_)
  have h := lt_at hn206 h
  obtain ⟨hc207, h⟩ := asrt_some h
  refine X.putR (pc := 269) (k := 48) fw_Mod_129 (by decide +kernel) (Or.inr ⟨_, rfl⟩) hc207 (Or.inr ⟨rfl, rfl, rfl, wfl_Mod_129⟩) ?_
  refine X.nameMR (fun R208 hR208 => ?_)
  have h := lt_at hR208 h
  refine X.aload_0 (pc := 272) (by decide +kernel) ?_
  refine X.iconst (pc := 273) (i := 5) (v := 5) ic_5 (by decide +kernel) ?_
  refine X.newarray (pc := 274) (t := 20) (N := 5) (nc := 3) (ns := 135) (by decide +kernel) na_20 rfl (by decide) (Or.inl ⟨rfl, rfl⟩) rfl rfl rfl ?_
  refine X.nameMS (fun S209 hS209 => ?_)
  have h := lt_at hS209 h
  refine X.nameMI (fun I210 hI210 => ?_)
  have h := lt_at hI210 h
  refine X.nameML (fun L211 hL211 => ?_)
  have h := lt_at hL211 h
  refine X.nameMR (fun R212 hR212 => ?_)
  have h := lt_at hR212 h
  refine X.nameN (fun n213 hn213 => ?_)
  have h := lt_at hn213 h
  obtain ⟨hc214, h⟩ := asrt_some h
  refine X.putR (pc := 276) (k := 49) fw_Mod_132 (by decide +kernel) (Or.inr ⟨_, rfl⟩) hc214 (Or.inr ⟨rfl, rfl, rfl, wfl_Mod_132⟩) ?_
  refine X.nameMR (fun R215 hR215 => ?_)
  have h := lt_at hR215 h
  refine X.aload_0 (pc := 279) (by decide +kernel) ?_
  refine X.sipush (pc := 280) (i := 129) (v := 129) sp_129 (by decide +kernel) ?_
  refine X.newarray (pc := 283) (t := 20) (N := 129) (nc := 2) (ns := 6) (by decide +kernel) na_20 rfl (by decide) (Or.inl ⟨rfl, rfl⟩) rfl rfl rfl ?_
  refine X.nameMS (fun S216 hS216 => ?_)
  have h := lt_at hS216 h
  refine X.nameMI (fun I217 hI217 => ?_)
  have h := lt_at hI217 h
  refine X.nameML (fun L218 hL218 => ?_)
  have h := lt_at hL218 h
  refine X.nameMR (fun R219 hR219 => ?_)
  have h := lt_at hR219 h
  refine X.nameN (fun n220 hn220 => ?_)
  have h := lt_at hn220 h
  obtain ⟨hc221, h⟩ := asrt_some h
  refine X.putR (pc := 285) (k := 51) fw_Mod_135 (by decide +kernel) (Or.inr ⟨_, rfl⟩) hc221 (Or.inr ⟨rfl, rfl, rfl, wfl_Mod_135⟩) ?_
  refine X.nameMR (fun R222 hR222 => ?_)
  have h := lt_at hR222 h
  refine X.aload_0 (pc := 288) (by decide +kernel) ?_
  refine X.iconst (pc := 289) (i := 3) (v := 3) ic_3 (by decide +kernel) ?_
  refine X.newarray (pc := 290) (t := 20) (N := 3) (nc := 1) (ns := 3) (by decide +kernel) na_20 rfl (by decide) (Or.inl ⟨rfl, rfl⟩) rfl rfl rfl ?_
  refine X.nameMS (fun S223 hS223 => ?_)
  have h := lt_at hS223 h
  refine X.nameMI (fun I224 hI224 => ?_)
  have h := lt_at hI224 h
  refine X.nameML (fun L225 hL225 => ?_)
  have h := lt_at hL225 h
  refine X.nameMR (fun R226 hR226 => ?_)
  have h := lt_at hR226 h
  refine X.nameN (fun n227 hn227 => ?_)
  have h := lt_at hn227 h
  refine X.dupr (pc := 292) (by decide +kernel) ?_
  refine X.iconst (pc := 293) (i := 0) (v := 0) ic_0 (by decide +kernel) ?_
  refine X.iconst (pc := 294) (i := (-1)) (v := (-1)) ic_m1 (by decide +kernel) ?_
  obtain ⟨hc228, h⟩ := asrt_some h
  obtain ⟨hi229, h⟩ := asrt_some h
  refine X.iastore (pc := 295) (by decide +kernel) hc228 hi229 ?_
  refine X.nameMI (fun I230 hI230 => ?_)
  have h := lt_at hI230 h
  refine X.dupr (pc := 296) (by decide +kernel) ?_
  refine X.iconst (pc := 297) (i := 1) (v := 1) ic_1 (by decide +kernel) ?_
  refine X.iconst (pc := 298) (i := (-1)) (v := (-1)) ic_m1 (by decide +kernel) ?_
  obtain ⟨hi231, h⟩ := asrt_some h
  refine X.iastore (pc := 299) (by decide +kernel) hc228 hi231 ?_
  refine X.nameMI (fun I232 hI232 => ?_)
  have h := lt_at hI232 h
  refine X.dupr (pc := 300) (by decide +kernel) ?_
  refine X.iconst (pc := 301) (i := 2) (v := 2) ic_2 (by decide +kernel) ?_
  refine X.iconst (pc := 302) (i := (-1)) (v := (-1)) ic_m1 (by decide +kernel) ?_
  obtain ⟨hi233, h⟩ := asrt_some h
  refine X.iastore (pc := 303) (by decide +kernel) hc228 hi233 ?_
  refine X.nameMI (fun I234 hI234 => ?_)
  have h := lt_at hI234 h
  obtain ⟨hc235, h⟩ := asrt_some h
  refine X.putR (pc := 304) (k := 52) fw_Mod_138 (by decide +kernel) (Or.inr ⟨_, rfl⟩) hc235 (Or.inr ⟨rfl, rfl, rfl, wfl_Mod_138⟩) ?_
  refine X.nameMR (fun R236 hR236 => ?_)
  have h := lt_at hR236 h
  refine X.aload_0 (pc := 307) (by decide +kernel) ?_
  refine X.iconst (pc := 308) (i := 3) (v := 3) ic_3 (by decide +kernel) ?_
  refine X.newarray (pc := 309) (t := 20) (N := 3) (nc := 0) (ns := 0) (by decide +kernel) na_20 rfl (by decide) (Or.inl ⟨rfl, rfl⟩) rfl rfl rfl ?_
  refine X.nameMS (fun S237 hS237 => ?_)
  have h := lt_at hS237 h
  refine X.nameMI (fun I238 hI238 => ?_)
  have h := lt_at hI238 h
  refine X.nameML (fun L239 hL239 => ?_)
  have h := lt_at hL239 h
  refine X.nameMR (fun R240 hR240 => ?_)
  have h := lt_at hR240 h
  refine X.nameN (fun n241 hn241 => ?_)
  have h := lt_at hn241 h
  obtain ⟨hc242, h⟩ := asrt_some h
  refine X.putR (pc := 311) (k := 53) fw_Mod_141 (by decide +kernel) (Or.inr ⟨_, rfl⟩) hc242 (Or.inr ⟨rfl, rfl, rfl, wfl_Mod_141⟩) ?_
  refine X.nameMR (fun R243 hR243 => ?_)
  have h := lt_at hR243 h
  refine X.aload_0 (pc := 314) (by decide +kernel) ?_
  obtain ⟨x244, I245, hv246, h⟩ := bnd2_some h
  refine X.callVi (pc := 315) (nc := 0) (ns := 0) (c_Mod_clearsTracks hE (dle hd (Nat.le_of_ble_eq_true rfl)) hc242 hv246) cv_Mod_144 (by decide +kernel) hc242 ⟨by decide, rfl⟩ (ddd hd (Nat.le_of_ble_eq_true rfl)) rfl (Nat.le_of_ble_eq_true rfl) rfl rfl ?_
  refine X.pop (pc := 318) (by decide +kernel) ?_
  have j0 := Option.some.inj h
  obtain ⟨i0, j1⟩ := Prod.mk.inj j0
  obtain ⟨i1, j2⟩ := Prod.mk.inj j1
  obtain ⟨i2, j3⟩ := Prod.mk.inj j2
  obtain ⟨i3, j4⟩ := Prod.mk.inj j3
  subst i0
  subst i1
  subst i2
  subst i3
  subst j4
  exact X.vreturn (pc := 319) (by decide +kernel) rfl ⟨rfl, rfl, rfl, rfl, rfl, rfl⟩
set_option maxRecDepth 100000 in
noncomputable def l_Mod_sign_18 (S : MS) (R : MR) (v0 : Nat) (v1 : Int32) : Nat → MI → Int32 → Option MI
  | 0, _, _ => none
  | f + 1, I, v2 =>
    ifb (4 ≤ v2)
      (some I)
      (bnd1 (R v0 16) fun b4 =>
      lt ((isr v1 (24 - (8 * v2))) &&& 255) fun (x5 : Int32) =>
      asrt ((S b4).1 = 20) <|
      asrt (vp_in ((I v0 17) + v2) (S b4).2) <|
      lt (wI I b4 (Int32.toNatClampNeg ((I v0 17) + v2)) x5) fun (I8 : MI) =>
      l_Mod_sign_18 S R v0 v1 f I8 (v2 + 1))
set_option maxRecDepth 100000 in
set_option maxHeartbeats 4000000 in
theorem xl_Mod_sign_18 {E : Env} (hE : OKE E) {tg : Bool} {d : Nat} (hd : 0 ≤ d) {S : MS} {L : ML} {R : MR} {n : Nat} {v0 : Nat} {v1 : Int32} {K : KT} :
    ∀ {f : Nat} {I : MI} {v2 : Int32} {I' : MI}, (S v0).1 = 12 → l_Mod_sign_18 S R v0 v1 f I v2 = some I' → X E y_Mod_sign b_Mod_sign 3 (some .int) tg d 0 0 53 [some (.ref (e_b E + v0)), none, none] [] S I' L R n K → X E y_Mod_sign b_Mod_sign 3 (some .int) tg d 0 0 18 [some (.ref (e_b E + v0)), some (.int v1), some (.int v2)] [] S I L R n K := by
  intro f
  induction f with
  | zero =>
    intro I v2 I' hS h hk
    rw [l_Mod_sign_18] at h
    cases h
  | succ f ih =>
    intro I v2 I' hS h hk
    rw [l_Mod_sign_18] at h
    refine X.iload_2 (pc := 18) (by decide +kernel) ?_
    refine X.iconst (pc := 19) (i := 4) (v := 4) ic_4 (by decide +kernel) ?_
    rcases ifb_some h with ⟨hq3, h⟩ | ⟨hq3, h⟩
    · refine X.icmp_ge_t (pc := 20) (off := 33) (tgt := 53) hq3 rfl (by decide +kernel) ?_
      have j0 := Option.some.inj h
      subst j0
      refine X.fgt (o' := [some (.ref (e_b E + v0)), none, none]) ⟨rfl, trivial⟩ ?_
      exact hk
    · refine X.icmp_ge_f (pc := 20) (off := 33) (tgt := 53) hq3 rfl (by decide +kernel) ?_
      refine X.aload_0 (pc := 23) (by decide +kernel) ?_
      obtain ⟨b4, hb4, h⟩ := bnd1_some h
      refine X.getR (pc := 24) (k := 16) fw_Mod_59 (by decide +kernel) (fun _ => rfl) hS hb4 ?_
      refine X.aload_0 (pc := 27) (by decide +kernel) ?_
      refine X.getI (pc := 28) (k := 17) fw_Mod_159 (by decide +kernel) (fun _ => rfl) hS ?_
      refine X.iload_2 (pc := 31) (by decide +kernel) ?_
      refine X.iadd (pc := 32) (by decide +kernel) ?_
      refine X.iload_1 (pc := 33) (by decide +kernel) ?_
      refine X.bipush (pc := 34) (i := 24) (v := 24) bp_24 (by decide +kernel) ?_
      refine X.bipush (pc := 36) (i := 8) (v := 8) bp_8 (by decide +kernel) ?_
      refine X.iload_2 (pc := 38) (by decide +kernel) ?_
      refine X.imul (pc := 39) (by decide +kernel) ?_
      refine X.isub (pc := 40) (by decide +kernel) ?_
      refine X.ishr (pc := 41) (by decide +kernel) ?_
      refine X.sipush (pc := 42) (i := 255) (v := 255) sp_255 (by decide +kernel) ?_
      refine X.iand (pc := 45) (by decide +kernel) ?_
      refine X.nameI (fun x5 hx5 => ?_)
      have h := lt_at hx5 h
      obtain ⟨hc6, h⟩ := asrt_some h
      obtain ⟨hi7, h⟩ := asrt_some h
      refine X.iastore (pc := 46) (by decide +kernel) hc6 hi7 ?_
      refine X.nameMI (fun I8 hI8 => ?_)
      have h := lt_at hI8 h
      refine X.iinc_2 (pc := 47) (z := 1) (v := 1) ic_1 (by decide +kernel) (by decide) rfl ?_
      refine X.goto (pc := 50) (off := (-32)) (tgt := 18) (by decide +kernel) rfl ?_
      exact ih hS h hk
set_option maxRecDepth 100000 in
noncomputable def f_Mod_sign (g : Nat) (S : MS) (R : MR) (I : MI) (t : Nat) (p1 : Int32) : Option (Int32 × MI) :=
  lt (wI I t 0 0) fun (I1 : MI) =>
  ifb ((I1 t 17) ≤ 76)
    (bnd1 (l_Mod_sign_18 S R t p1 g I1 0) fun I9 =>
    lt ((I9 t 17) + 4) fun (x11 : Int32) =>
    lt (wI I9 t 17 x11) fun (I12 : MI) =>
    lt (I12 t 17) fun (x13 : Int32) =>
    some (x13, I12))
    (some ((-1), I1))
set_option maxRecDepth 100000 in
set_option maxHeartbeats 4000000 in
theorem c_Mod_sign {E : Env} (hE : OKE E) {tg : Bool} {d : Nat} (hd : 0 ≤ d) {g : Nat} {S : MS} {I : MI} {L : ML} {R : MR} {n : Nat} {t : Nat} {p1 : Int32} {v : Int32} {I' : MI} (hS : (S t).1 = 12) (h : f_Mod_sign g S R I t p1 = some (v, I')) : C E y_Mod_sign b_Mod_sign 3 (some .int) tg d 0 0 [.ref (e_b E + t), .int p1] S I L R n (Kq (some (.int v)) S I' L R n) := by
  refine C.of (o := [some (.ref (e_b E + t)), some (.int p1), none]) (by decide) rfl (Nat.le_of_ble_eq_true rfl) ?_
  rw [f_Mod_sign] at h
  refine X.aload_0 (pc := 0) (by decide +kernel) ?_
  refine X.iconst (pc := 1) (i := 0) (v := 0) ic_0 (by decide +kernel) ?_
  refine X.putI (pc := 2) (k := 0) fw_Mod_3 (by decide +kernel) rfl rfl hS ?_
  refine X.nameMI (fun I1 hI1 => ?_)
  have h := lt_at hI1 h
  refine X.aload_0 (pc := 5) (by decide +kernel) ?_
  refine X.getI (pc := 6) (k := 17) fw_Mod_159 (by decide +kernel) (fun _ => rfl) hS ?_
  refine X.bipush (pc := 9) (i := 76) (v := 76) bp_76 (by decide +kernel) ?_
  rcases ifb_some h with ⟨hq2, h⟩ | ⟨hq2, h⟩
  · refine X.icmp_le_t (pc := 11) (off := 5) (tgt := 16) hq2 rfl (by decide +kernel) ?_
    refine X.iconst (pc := 16) (i := 0) (v := 0) ic_0 (by decide +kernel) ?_
    refine X.istore_2 (pc := 17) (by decide +kernel) (by decide) rfl ?_
    obtain ⟨I9, hv10, h⟩ := bnd1_some h
    refine xl_Mod_sign_18 hE hd hS hv10 ?_
    refine X.aload_0 (pc := 53) (by decide +kernel) ?_
    refine X.dupr (pc := 54) (by decide +kernel) ?_
    refine X.getI (pc := 55) (k := 17) fw_Mod_159 (by decide +kernel) (fun _ => rfl) hS ?_
    refine X.iconst (pc := 58) (i := 4) (v := 4) ic_4 (by decide +kernel) ?_
    refine X.iadd (pc := 59) (by decide +kernel) ?_
    refine X.nameI (fun x11 hx11 => ?_)
    have h := lt_at hx11 h
    refine X.putI (pc := 60) (k := 17) fw_Mod_159 (by decide +kernel) rfl rfl hS ?_
    refine X.nameMI (fun I12 hI12 => ?_)
    have h := lt_at hI12 h
    refine X.aload_0 (pc := 63) (by decide +kernel) ?_
    refine X.getI (pc := 64) (k := 17) fw_Mod_159 (by decide +kernel) (fun _ => rfl) hS ?_
    refine X.nameI (fun x13 hx13 => ?_)
    have h := lt_at hx13 h
    have j0 := Option.some.inj h
    obtain ⟨i0, j1⟩ := Prod.mk.inj j0
    subst i0
    subst j1
    exact X.ireturn (pc := 67) (by decide +kernel) ⟨_, rfl, rfl⟩ ⟨rfl, rfl, rfl, rfl, rfl, rfl⟩
  · refine X.icmp_le_f (pc := 11) (off := 5) (tgt := 16) hq2 rfl (by decide +kernel) ?_
    refine X.iconst (pc := 14) (i := (-1)) (v := (-1)) ic_m1 (by decide +kernel) ?_
    have j0 := Option.some.inj h
    obtain ⟨i0, j1⟩ := Prod.mk.inj j0
    subst i0
    subst j1
    exact X.ireturn (pc := 15) (by decide +kernel) ⟨_, rfl, rfl⟩ ⟨rfl, rfl, rfl, rfl, rfl, rfl⟩
set_option maxRecDepth 100000 in
noncomputable def f_Mod_in (p1 : Int64) (p2 : Int64) (p3 : Int64) : Option Int32 :=
  bnd1 (ifb ((lg_cmp p1 p2) < 0)
      (some 0)
      (ifb (0 < (lg_cmp p1 p3))
        (some 0)
        (some 1))) fun (y2 : Int32) =>
  asrt (y2 = 0 ∨ y2 = 1) <|
  some y2
set_option maxRecDepth 100000 in
set_option maxHeartbeats 4000000 in
theorem c_Mod_in {E : Env} (hE : OKE E) {tg : Bool} {d : Nat} (hd : 0 ≤ d) {S : MS} {I : MI} {L : ML} {R : MR} {n : Nat} {p1 : Int64} {p2 : Int64} {p3 : Int64} {v : Int32} (h : f_Mod_in p1 p2 p3 = some v) : C E y_Mod_in b_Mod_in 6 (some .boolean) tg d 0 0 [.long p1, .long p2, .long p3] S I L R n (Kq (some (.int v)) S I L R n) := by
  refine C.of (o := [some (.long p1), none, some (.long p2), none, some (.long p3), none]) (by decide) rfl (Nat.le_of_ble_eq_true rfl) ?_
  rw [f_Mod_in] at h
  refine X.lload_0 (pc := 0) (by decide +kernel) ?_
  refine X.lload_2 (pc := 1) (by decide +kernel) ?_
  refine X.lcmp (pc := 2) (by decide +kernel) ?_
  obtain ⟨y2, hr3, h⟩ := bnd1_some h
  have hj4 : X E y_Mod_in b_Mod_in 6 (some .boolean) tg d 0 0 18 [none, none, none, none, none, none] [.int y2] S I L R n (Kq (some (.int v)) S I L R n) := by
    obtain ⟨hb6, h⟩ := asrt_some h
    have j0 := Option.some.inj h
    subst j0
    exact X.ireturn (pc := 18) (by decide +kernel) ⟨_, rfl, nz01 hb6⟩ ⟨rfl, rfl, rfl, rfl, rfl, rfl⟩
  have h := hr3
  rcases ifb_some h with ⟨hq1, h⟩ | ⟨hq1, h⟩
  · refine X.if_lt_t (pc := 3) (off := 14) (tgt := 17) hq1 rfl (by decide +kernel) ?_
    refine X.iconst (pc := 17) (i := 0) (v := 0) ic_0 (by decide +kernel) ?_
    have j0 := Option.some.inj h
    subst j0
    refine X.fgt (o' := [none, none, none, none, none, none]) trivial ?_
    exact hj4
  · refine X.if_lt_f (pc := 3) (off := 14) (tgt := 17) hq1 rfl (by decide +kernel) ?_
    refine X.lload_0 (pc := 6) (by decide +kernel) ?_
    refine X.lload_4 (pc := 7) (by decide +kernel) ?_
    refine X.lcmp (pc := 9) (by decide +kernel) ?_
    rcases ifb_some h with ⟨hq5, h⟩ | ⟨hq5, h⟩
    · refine X.if_gt_t (pc := 10) (off := 7) (tgt := 17) hq5 rfl (by decide +kernel) ?_
      refine X.iconst (pc := 17) (i := 0) (v := 0) ic_0 (by decide +kernel) ?_
      have j0 := Option.some.inj h
      subst j0
      refine X.fgt (o' := [none, none, none, none, none, none]) trivial ?_
      exact hj4
    · refine X.if_gt_f (pc := 10) (off := 7) (tgt := 17) hq5 rfl (by decide +kernel) ?_
      refine X.iconst (pc := 13) (i := 1) (v := 1) ic_1 (by decide +kernel) ?_
      refine X.goto (pc := 14) (off := 4) (tgt := 18) (by decide +kernel) rfl ?_
      have j0 := Option.some.inj h
      subst j0
      refine X.fgt (o' := [none, none, none, none, none, none]) trivial ?_
      exact hj4
set_option maxRecDepth 100000 in
noncomputable def f_Mod_end (S : MS) (I : MI) (t : Nat) (p1 : Int32) : Option (Int32 × MI) :=
  lt (wI I t 0 0) fun (I1 : MI) =>
  bnd1 (f_Mod_in (Int32.toInt64 p1) 0 (Int32.toInt64 (I1 t 17))) fun x2 =>
  ifb (x2 = 0)
    (some (0, I1))
    (lt (wI I1 t 17 p1) fun (I5 : MI) =>
    some (1, I5))
set_option maxRecDepth 100000 in
set_option maxHeartbeats 4000000 in
theorem c_Mod_end {E : Env} (hE : OKE E) {tg : Bool} {d : Nat} (hd : 1 ≤ d) {S : MS} {I : MI} {L : ML} {R : MR} {n : Nat} {t : Nat} {p1 : Int32} {v : Int32} {I' : MI} (hS : (S t).1 = 12) (h : f_Mod_end S I t p1 = some (v, I')) : C E y_Mod_end b_Mod_end 2 (some .boolean) tg d 0 0 [.ref (e_b E + t), .int p1] S I L R n (Kq (some (.int v)) S I' L R n) := by
  refine C.of (o := [some (.ref (e_b E + t)), some (.int p1)]) (by decide) rfl (Nat.le_of_ble_eq_true rfl) ?_
  rw [f_Mod_end] at h
  refine X.aload_0 (pc := 0) (by decide +kernel) ?_
  refine X.iconst (pc := 1) (i := 0) (v := 0) ic_0 (by decide +kernel) ?_
  refine X.putI (pc := 2) (k := 0) fw_Mod_3 (by decide +kernel) rfl rfl hS ?_
  refine X.nameMI (fun I1 hI1 => ?_)
  have h := lt_at hI1 h
  refine X.iload_1 (pc := 5) (by decide +kernel) ?_
  refine X.i2l (pc := 6) (by decide +kernel) ?_
  refine X.lconst (pc := 7) (i := 0) (v := 0) rfl (by decide +kernel) ?_
  refine X.aload_0 (pc := 8) (by decide +kernel) ?_
  refine X.getI (pc := 9) (k := 17) fw_Mod_159 (by decide +kernel) (fun _ => rfl) hS ?_
  refine X.i2l (pc := 12) (by decide +kernel) ?_
  obtain ⟨x2, hv3, h⟩ := bnd1_some h
  refine X.callSi (pc := 13) (nc := 0) (ns := 0) (c_Mod_in hE (dle hd (Nat.le_of_ble_eq_true rfl)) hv3) cv_Mod_151 (by decide +kernel) (ddd hd (Nat.le_of_ble_eq_true rfl)) rfl (Nat.le_of_ble_eq_true rfl) rfl rfl ?_
  rcases ifb_some h with ⟨hq4, h⟩ | ⟨hq4, h⟩
  · refine X.if_ne_f (pc := 16) (off := 5) (tgt := 21) hq4 rfl (by decide +kernel) ?_
    refine X.iconst (pc := 19) (i := 0) (v := 0) ic_0 (by decide +kernel) ?_
    have j0 := Option.some.inj h
    obtain ⟨i0, j1⟩ := Prod.mk.inj j0
    subst i0
    subst j1
    exact X.ireturn (pc := 20) (by decide +kernel) ⟨_, rfl, nz01 (Or.inl rfl)⟩ ⟨rfl, rfl, rfl, rfl, rfl, rfl⟩
  · refine X.if_ne_t (pc := 16) (off := 5) (tgt := 21) hq4 rfl (by decide +kernel) ?_
    refine X.aload_0 (pc := 21) (by decide +kernel) ?_
    refine X.iload_1 (pc := 22) (by decide +kernel) ?_
    refine X.putI (pc := 23) (k := 17) fw_Mod_159 (by decide +kernel) rfl rfl hS ?_
    refine X.nameMI (fun I5 hI5 => ?_)
    have h := lt_at hI5 h
    refine X.iconst (pc := 26) (i := 1) (v := 1) ic_1 (by decide +kernel) ?_
    have j0 := Option.some.inj h
    obtain ⟨i0, j1⟩ := Prod.mk.inj j0
    subst i0
    subst j1
    exact X.ireturn (pc := 27) (by decide +kernel) ⟨_, rfl, nz01 (Or.inr rfl)⟩ ⟨rfl, rfl, rfl, rfl, rfl, rfl⟩
set_option maxRecDepth 100000 in
noncomputable def f_Mod_begins_I (S : MS) (I : MI) (t : Nat) (p1 : Int32) : Option (Int32 × MI) :=
  lt (I t 17) fun (x1 : Int32) =>
  lt (wI I t 17 0) fun (I2 : MI) =>
  lt (wI I2 t 18 0) fun (I3 : MI) =>
  bnd1 (f_JMath_min x1 p1) fun x4 =>
  lt (wI I3 t 19 x4) fun (I6 : MI) =>
  some (x1, I6)
set_option maxRecDepth 100000 in
set_option maxHeartbeats 4000000 in
theorem c_Mod_begins_I {E : Env} (hE : OKE E) {tg : Bool} {d : Nat} (hd : 1 ≤ d) {S : MS} {I : MI} {L : ML} {R : MR} {n : Nat} {t : Nat} {p1 : Int32} {v : Int32} {I' : MI} (hS : (S t).1 = 12) (h : f_Mod_begins_I S I t p1 = some (v, I')) : C E y_Mod_begins_I b_Mod_begins_I 3 (some .int) tg d 0 0 [.ref (e_b E + t), .int p1] S I L R n (Kq (some (.int v)) S I' L R n) := by
  refine C.of (o := [some (.ref (e_b E + t)), some (.int p1), none]) (by decide) rfl (Nat.le_of_ble_eq_true rfl) ?_
  rw [f_Mod_begins_I] at h
  refine X.aload_0 (pc := 0) (by decide +kernel) ?_
  refine X.getI (pc := 1) (k := 17) fw_Mod_159 (by decide +kernel) (fun _ => rfl) hS ?_
  refine X.nameI (fun x1 hx1 => ?_)
  have h := lt_at hx1 h
  refine X.istore_2 (pc := 4) (by decide +kernel) (by decide) rfl ?_
  refine X.aload_0 (pc := 5) (by decide +kernel) ?_
  refine X.iconst (pc := 6) (i := 0) (v := 0) ic_0 (by decide +kernel) ?_
  refine X.putI (pc := 7) (k := 17) fw_Mod_159 (by decide +kernel) rfl rfl hS ?_
  refine X.nameMI (fun I2 hI2 => ?_)
  have h := lt_at hI2 h
  refine X.aload_0 (pc := 10) (by decide +kernel) ?_
  refine X.iconst (pc := 11) (i := 0) (v := 0) ic_0 (by decide +kernel) ?_
  refine X.putI (pc := 12) (k := 18) fw_Mod_162 (by decide +kernel) rfl rfl hS ?_
  refine X.nameMI (fun I3 hI3 => ?_)
  have h := lt_at hI3 h
  refine X.aload_0 (pc := 15) (by decide +kernel) ?_
  refine X.iload_2 (pc := 16) (by decide +kernel) ?_
  refine X.iload_1 (pc := 17) (by decide +kernel) ?_
  obtain ⟨x4, hv5, h⟩ := bnd1_some h
  refine X.callSi (pc := 18) (nc := 0) (ns := 0) (c_JMath_min hE (dle hd (Nat.le_of_ble_eq_true rfl)) hv5) cv_Mod_165 (by decide +kernel) (ddd hd (Nat.le_of_ble_eq_true rfl)) rfl (Nat.le_of_ble_eq_true rfl) rfl rfl ?_
  refine X.putI (pc := 21) (k := 19) fw_Mod_169 (by decide +kernel) rfl rfl hS ?_
  refine X.nameMI (fun I6 hI6 => ?_)
  have h := lt_at hI6 h
  refine X.iload_2 (pc := 24) (by decide +kernel) ?_
  have j0 := Option.some.inj h
  obtain ⟨i0, j1⟩ := Prod.mk.inj j0
  subst i0
  subst j1
  exact X.ireturn (pc := 25) (by decide +kernel) ⟨_, rfl, rfl⟩ ⟨rfl, rfl, rfl, rfl, rfl, rfl⟩
set_option maxRecDepth 100000 in
noncomputable def f_JStr_coder (t : Nat) : Option Int32 :=
  asrt (6 ≤ t ∧ t < 9) <|
  some 0
set_option maxRecDepth 100000 in
set_option maxHeartbeats 4000000 in
theorem c_JStr_coder {E : Env} (hE : OKE E) {tg : Bool} {d : Nat} (hd : 0 ≤ d) {S : MS} {I : MI} {L : ML} {R : MR} {n : Nat} {t : Nat} {v : Int32} (h : f_JStr_coder t = some v) : C E y_JStr_coder b_JStr_coder 1 (some .byte) tg d 0 0 [.ref (E.2.2.2 t)] S I L R n (Kq (some (.int v)) S I L R n) := by
  refine C.of (o := [some (.ref (E.2.2.2 t))]) (by decide) rfl (Nat.le_of_ble_eq_true rfl) ?_
  rw [f_JStr_coder] at h
  refine X.getsC (pc := 0) hE (by decide +kernel) gh_JStr_38 ?_
  refine X.if_eq_f (pc := 3) (off := 10) (tgt := 13) (by decide) rfl (by decide +kernel) ?_
  refine X.aload_0 (pc := 6) (by decide +kernel) ?_
  obtain ⟨hz1, h⟩ := asrt_some h
  refine X.zcod (pc := 7) hE hz1 (by decide +kernel) zf_JStr_15 ?_
  refine X.goto (pc := 10) (off := 4) (tgt := 14) (by decide +kernel) rfl ?_
  have j0 := Option.some.inj h
  subst j0
  exact X.ireturn (pc := 14) (by decide +kernel) ⟨_, rfl, rfl⟩ ⟨rfl, rfl, rfl, rfl, rfl, rfl⟩
set_option maxRecDepth 100000 in
noncomputable def f_JStr_length (t : Nat) : Option Int32 :=
  asrt (6 ≤ t ∧ t < 9) <|
  bnd1 (f_JStr_coder t) fun x2 =>
  lt (isr (Int32.ofNat (lenS t)) x2) fun (x4 : Int32) =>
  some x4
set_option maxRecDepth 100000 in
set_option maxHeartbeats 4000000 in
theorem c_JStr_length {E : Env} (hE : OKE E) {tg : Bool} {d : Nat} (hd : 1 ≤ d) {S : MS} {I : MI} {L : ML} {R : MR} {n : Nat} {t : Nat} {v : Int32} (h : f_JStr_length t = some v) : C E y_JStr_length b_JStr_length 1 (some .int) tg d 0 0 [.ref (E.2.2.2 t)] S I L R n (Kq (some (.int v)) S I L R n) := by
  refine C.of (o := [some (.ref (E.2.2.2 t))]) (by decide) rfl (Nat.le_of_ble_eq_true rfl) ?_
  rw [f_JStr_length] at h
  refine X.aload_0 (pc := 0) (by decide +kernel) ?_
  obtain ⟨hz1, h⟩ := asrt_some h
  refine X.zval (pc := 1) hE hz1 (by decide +kernel) zf_JStr_9 ?_
  refine X.zlen (pc := 4) hE hz1 (by decide +kernel) ?_
  refine X.aload_0 (pc := 5) (by decide +kernel) ?_
  obtain ⟨x2, hv3, h⟩ := bnd1_some h
  refine X.callZ (pc := 6) (nc := 0) (ns := 0) hE hz1 (c_JStr_coder hE (dle hd (Nat.le_of_ble_eq_true rfl)) hv3) cv_JStr_335 (by decide +kernel) rfl (ddd hd (Nat.le_of_ble_eq_true rfl)) rfl (Nat.le_of_ble_eq_true rfl) rfl rfl ?_
  refine X.ishr (pc := 9) (by decide +kernel) ?_
  refine X.nameI (fun x4 hx4 => ?_)
  have h := lt_at hx4 h
  have j0 := Option.some.inj h
  subst j0
  exact X.ireturn (pc := 10) (by decide +kernel) ⟨_, rfl, rfl⟩ ⟨rfl, rfl, rfl, rfl, rfl, rfl⟩
set_option maxRecDepth 100000 in
noncomputable def f_JStr_isLatin1 (t : Nat) : Option Int32 :=
  asrt (6 ≤ t ∧ t < 9) <|
  some 1
set_option maxRecDepth 100000 in
set_option maxHeartbeats 4000000 in
theorem c_JStr_isLatin1 {E : Env} (hE : OKE E) {tg : Bool} {d : Nat} (hd : 0 ≤ d) {S : MS} {I : MI} {L : ML} {R : MR} {n : Nat} {t : Nat} {v : Int32} (h : f_JStr_isLatin1 t = some v) : C E y_JStr_isLatin1 b_JStr_isLatin1 1 (some .boolean) tg d 0 0 [.ref (E.2.2.2 t)] S I L R n (Kq (some (.int v)) S I L R n) := by
  refine C.of (o := [some (.ref (E.2.2.2 t))]) (by decide) rfl (Nat.le_of_ble_eq_true rfl) ?_
  rw [f_JStr_isLatin1] at h
  refine X.getsC (pc := 0) hE (by decide +kernel) gh_JStr_38 ?_
  refine X.if_eq_f (pc := 3) (off := 14) (tgt := 17) (by decide) rfl (by decide +kernel) ?_
  refine X.aload_0 (pc := 6) (by decide +kernel) ?_
  obtain ⟨hz1, h⟩ := asrt_some h
  refine X.zcod (pc := 7) hE hz1 (by decide +kernel) zf_JStr_15 ?_
  refine X.if_ne_f (pc := 10) (off := 7) (tgt := 17) (by decide) rfl (by decide +kernel) ?_
  refine X.iconst (pc := 13) (i := 1) (v := 1) ic_1 (by decide +kernel) ?_
  refine X.goto (pc := 14) (off := 4) (tgt := 18) (by decide +kernel) rfl ?_
  have j0 := Option.some.inj h
  subst j0
  exact X.ireturn (pc := 18) (by decide +kernel) ⟨_, rfl, nz01 (Or.inr rfl)⟩ ⟨rfl, rfl, rfl, rfl, rfl, rfl⟩
set_option maxRecDepth 100000 in
noncomputable def f_JPre_checkIndex (p1 : Int32) (p2 : Int32) (p3 : Nat) : Option Int32 :=
  ifb (p1 < 0)
    (none)
    (ifb (p1 < p2)
      (some p1)
      (none))
set_option maxRecDepth 100000 in
set_option maxHeartbeats 4000000 in
theorem c_JPre_checkIndex {E : Env} (hE : OKE E) {tg : Bool} {d : Nat} (hd : 0 ≤ d) {S : MS} {I : MI} {L : ML} {R : MR} {n : Nat} {p1 : Int32} {p2 : Int32} {p3 : Nat} {v : Int32} (h : f_JPre_checkIndex p1 p2 p3 = some v) : C E y_JPre_checkIndex b_JPre_checkIndex 3 (some .int) tg d 0 0 [.int p1, .int p2, fF E] S I L R n (Kq (some (.int v)) S I L R n) := by
  have e1 : entL 3 [.int p1, .int p2, fF E] = [some (.int p1), some (.int p2), some (fF E)] := by
    rcases fF_c E with z | ⟨x, z⟩ <;> rw [z] <;> rfl
  have e2 : (lg_sl [.int p1, .int p2, fF E]).length ≤ 3 := by
    rcases fF_c E with z | ⟨x, z⟩ <;> rw [z] <;> exact Nat.le_of_ble_eq_true rfl
  refine C.of (o := [some (.int p1), some (.int p2), some (fF E)]) (by decide) e1 e2 ?_
  rw [f_JPre_checkIndex] at h
  refine X.iload_0 (pc := 0) (by decide +kernel) ?_
  rcases ifb_some h with ⟨hq1, h⟩ | ⟨hq1, h⟩
  · cases h
  · refine X.if_lt_f (pc := 1) (off := 8) (tgt := 9) hq1 rfl (by decide +kernel) ?_
    refine X.iload_0 (pc := 4) (by decide +kernel) ?_
    refine X.iload_1 (pc := 5) (by decide +kernel) ?_
    rcases ifb_some h with ⟨hq2, h⟩ | ⟨hq2, h⟩
    · refine X.icmp_lt_t (pc := 6) (off := 10) (tgt := 16) hq2 rfl (by decide +kernel) ?_
      refine X.iload_0 (pc := 16) (by decide +kernel) ?_
      have j0 := Option.some.inj h
      subst j0
      exact X.ireturn (pc := 17) (by decide +kernel) ⟨_, rfl, rfl⟩ ⟨rfl, rfl, rfl, rfl, rfl, rfl⟩
    · cases h
set_option maxRecDepth 100000 in
noncomputable def f_JStr_checkIndex (p1 : Int32) (p2 : Int32) : Option Unit :=
  bnd1 (f_JPre_checkIndex p1 p2 0) fun x1 =>
  some ()
set_option maxRecDepth 100000 in
set_option maxHeartbeats 4000000 in
theorem c_JStr_checkIndex {E : Env} (hE : OKE E) {tg : Bool} {d : Nat} (hd : 1 ≤ d) {S : MS} {I : MI} {L : ML} {R : MR} {n : Nat} {p1 : Int32} {p2 : Int32}  (h : f_JStr_checkIndex p1 p2 = some ()) : C E y_JStr_checkIndex b_JStr_checkIndex 2 none tg d 0 0 [.int p1, .int p2] S I L R n (Kq none S I L R n) := by
  refine C.of (o := [some (.int p1), some (.int p2)]) (by decide) rfl (Nat.le_of_ble_eq_true rfl) ?_
  rw [f_JStr_checkIndex] at h
  refine X.iload_0 (pc := 0) (by decide +kernel) ?_
  refine X.iload_1 (pc := 1) (by decide +kernel) ?_
  refine X.getsF (pc := 2) hE (by decide +kernel) gh_JStr_1053 ?_
  obtain ⟨x1, hv2, h⟩ := bnd1_some h
  refine X.callSi (pc := 5) (nc := 0) (ns := 0) (c_JPre_checkIndex hE (dle hd (Nat.le_of_ble_eq_true rfl)) hv2) cv_JStr_1059 (by decide +kernel) (ddd hd (Nat.le_of_ble_eq_true rfl)) rfl (Nat.le_of_ble_eq_true rfl) rfl rfl ?_
  refine X.pop (pc := 8) (by decide +kernel) ?_
  exact X.vreturn (pc := 9) (by decide +kernel) rfl ⟨rfl, rfl, rfl, rfl, rfl, rfl⟩
set_option maxRecDepth 100000 in
noncomputable def f_JSL1_charAt (p1 : Nat) (p2 : Int32) : Option Int32 :=
  asrt (6 ≤ p1 ∧ p1 < 9) <|
  bnd0 (f_JStr_checkIndex p2 (Int32.ofNat (lenS p1))) <|
  asrt (vp_in p2 (lenS p1)) <|
  lt ((Int32.toUInt32 ((bytS p1 (Int32.toNatClampNeg p2)) &&& 255) % 65536).toInt32) fun (x4 : Int32) =>
  asrt (UInt32.toInt32 (UInt16.toUInt32 (UInt32.toUInt16 (Int32.toUInt32 x4))) = x4) <|
  some x4
set_option maxRecDepth 100000 in
set_option maxHeartbeats 4000000 in
theorem c_JSL1_charAt {E : Env} (hE : OKE E) {tg : Bool} {d : Nat} (hd : 2 ≤ d) {S : MS} {I : MI} {L : ML} {R : MR} {n : Nat} {p1 : Nat} {p2 : Int32} {v : Int32} (h : f_JSL1_charAt p1 p2 = some v) : C E y_JSL1_charAt b_JSL1_charAt 2 (some .char) tg d 0 0 [.ref (E.2.2.2 (p1 + 10)), .int p2] S I L R n (Kq (some (.int v)) S I L R n) := by
  refine C.of (o := [some (.ref (E.2.2.2 (p1 + 10))), some (.int p2)]) (by decide) rfl (Nat.le_of_ble_eq_true rfl) ?_
  rw [f_JSL1_charAt] at h
  refine X.iload_1 (pc := 0) (by decide +kernel) ?_
  refine X.aload_0 (pc := 1) (by decide +kernel) ?_
  obtain ⟨hz1, h⟩ := asrt_some h
  refine X.zlen (pc := 2) hE hz1 (by decide +kernel) ?_
  obtain ⟨hv2, h⟩ := bnd0_some h
  refine X.callSv (pc := 3) (nc := 0) (ns := 0) (c_JStr_checkIndex hE (dle hd (Nat.le_of_ble_eq_true rfl)) hv2) cv_JSL1_9 (by decide +kernel) (ddd hd (Nat.le_of_ble_eq_true rfl)) rfl (Nat.le_of_ble_eq_true rfl) rfl rfl ?_
  refine X.aload_0 (pc := 6) (by decide +kernel) ?_
  refine X.iload_1 (pc := 7) (by decide +kernel) ?_
  obtain ⟨hi3, h⟩ := asrt_some h
  refine X.zbald (pc := 8) hE hz1 (by decide +kernel) hi3 ?_
  refine X.sipush (pc := 9) (i := 255) (v := 255) sp_255 (by decide +kernel) ?_
  refine X.iand (pc := 12) (by decide +kernel) ?_
  refine X.i2c (pc := 13) (by decide +kernel) ?_
  refine X.nameI (fun x4 hx4 => ?_)
  have h := lt_at hx4 h
  obtain ⟨hb5, h⟩ := asrt_some h
  have j0 := Option.some.inj h
  subst j0
  exact X.ireturn (pc := 14) (by decide +kernel) ⟨_, rfl, congrArg Value.int hb5⟩ ⟨rfl, rfl, rfl, rfl, rfl, rfl⟩
set_option maxRecDepth 100000 in
noncomputable def f_JStr_charAt (t : Nat) (p1 : Int32) : Option Int32 :=
  asrt (6 ≤ t ∧ t < 9) <|
  bnd1 (f_JStr_isLatin1 t) fun x2 =>
  ifb (x2 = 0)
    (none)
    (bnd1 (f_JSL1_charAt t p1) fun x5 =>
    asrt (UInt32.toInt32 (UInt16.toUInt32 (UInt32.toUInt16 (Int32.toUInt32 x5))) = x5) <|
    some x5)
set_option maxRecDepth 100000 in
set_option maxHeartbeats 4000000 in
theorem c_JStr_charAt {E : Env} (hE : OKE E) {tg : Bool} {d : Nat} (hd : 3 ≤ d) {S : MS} {I : MI} {L : ML} {R : MR} {n : Nat} {t : Nat} {p1 : Int32} {v : Int32} (h : f_JStr_charAt t p1 = some v) : C E y_JStr_charAt b_JStr_charAt 2 (some .char) tg d 0 0 [.ref (E.2.2.2 t), .int p1] S I L R n (Kq (some (.int v)) S I L R n) := by
  refine C.of (o := [some (.ref (E.2.2.2 t)), some (.int p1)]) (by decide) rfl (Nat.le_of_ble_eq_true rfl) ?_
  rw [f_JStr_charAt] at h
  refine X.aload_0 (pc := 0) (by decide +kernel) ?_
  obtain ⟨hz1, h⟩ := asrt_some h
  obtain ⟨x2, hv3, h⟩ := bnd1_some h
  refine X.callZ (pc := 1) (nc := 0) (ns := 0) hE hz1 (c_JStr_isLatin1 hE (dle hd (Nat.le_of_ble_eq_true rfl)) hv3) cv_JStr_492 (by decide +kernel) rfl (ddd hd (Nat.le_of_ble_eq_true rfl)) rfl (Nat.le_of_ble_eq_true rfl) rfl rfl ?_
  rcases ifb_some h with ⟨hq4, h⟩ | ⟨hq4, h⟩
  · refine X.if_eq_t (pc := 4) (off := 12) (tgt := 16) hq4 rfl (by decide +kernel) ?_
    refine X.aload_0 (pc := 16) (by decide +kernel) ?_
    refine X.zval (pc := 17) hE hz1 (by decide +kernel) zf_JStr_9 ?_
    refine X.iload_1 (pc := 20) (by decide +kernel) ?_
    cases h
  · refine X.if_eq_f (pc := 4) (off := 12) (tgt := 16) hq4 rfl (by decide +kernel) ?_
    refine X.aload_0 (pc := 7) (by decide +kernel) ?_
    refine X.zval (pc := 8) hE hz1 (by decide +kernel) zf_JStr_9 ?_
    refine X.iload_1 (pc := 11) (by decide +kernel) ?_
    obtain ⟨x5, hv6, h⟩ := bnd1_some h
    refine X.callSi (pc := 12) (nc := 0) (ns := 0) (c_JSL1_charAt hE (dle hd (Nat.le_of_ble_eq_true rfl)) hv6) cv_JStr_495 (by decide +kernel) (ddd hd (Nat.le_of_ble_eq_true rfl)) rfl (Nat.le_of_ble_eq_true rfl) rfl rfl ?_
    obtain ⟨hb7, h⟩ := asrt_some h
    have j0 := Option.some.inj h
    subst j0
    exact X.ireturn (pc := 15) (by decide +kernel) ⟨_, rfl, congrArg Value.int hb7⟩ ⟨rfl, rfl, rfl, rfl, rfl, rfl⟩
set_option maxRecDepth 100000 in
noncomputable def l_Mod_among_2 (v0 : Nat) (v1 : Int32) : Nat → Int32 → Option Int32
  | 0, _ => none
  | f + 1, v2 =>
    asrt (6 ≤ v0 ∧ v0 < 9) <|
    bnd1 (f_JStr_length v0) fun x2 =>
    ifb (x2 ≤ v2)
      (some (-1))
      (bnd1 (f_JStr_charAt v0 v2) fun x5 =>
      ifb (x5 = v1)
        (some v2)
        (l_Mod_among_2 v0 v1 f (v2 + 1)))
set_option maxRecDepth 100000 in
set_option maxHeartbeats 4000000 in
theorem xl_Mod_among_2 {E : Env} (hE : OKE E) {tg : Bool} {d : Nat} (hd : 4 ≤ d) {S : MS} {I : MI} {L : ML} {R : MR} {n : Nat} {v0 : Nat} {v1 : Int32} :
    ∀ {f : Nat}  {v2 : Int32} {v : Int32}, l_Mod_among_2 v0 v1 f v2 = some v → X E y_Mod_among b_Mod_among 3 (some .int) tg d 0 0 2 [some (.ref (E.2.2.2 v0)), some (.int v1), some (.int v2)] [] S I L R n (Kq (some (.int v)) S I L R n) := by
  intro f
  induction f with
  | zero =>
    intro v2 v h
    rw [l_Mod_among_2] at h
    cases h
  | succ f ih =>
    intro v2 v h
    rw [l_Mod_among_2] at h
    refine X.iload_2 (pc := 2) (by decide +kernel) ?_
    refine X.aload_0 (pc := 3) (by decide +kernel) ?_
    obtain ⟨hz1, h⟩ := asrt_some h
    obtain ⟨x2, hv3, h⟩ := bnd1_some h
    refine X.callZ (pc := 4) (nc := 0) (ns := 0) hE hz1 (c_JStr_length hE (dle hd (Nat.le_of_ble_eq_true rfl)) hv3) cv_Mod_172 (by decide +kernel) rfl (ddd hd (Nat.le_of_ble_eq_true rfl)) rfl (Nat.le_of_ble_eq_true rfl) rfl rfl ?_
    rcases ifb_some h with ⟨hq4, h⟩ | ⟨hq4, h⟩
    · refine X.icmp_ge_t (pc := 7) (off := 20) (tgt := 27) hq4 rfl (by decide +kernel) ?_
      refine X.iconst (pc := 27) (i := (-1)) (v := (-1)) ic_m1 (by decide +kernel) ?_
      have j0 := Option.some.inj h
      subst j0
      exact X.ireturn (pc := 28) (by decide +kernel) ⟨_, rfl, rfl⟩ ⟨rfl, rfl, rfl, rfl, rfl, rfl⟩
    · refine X.icmp_ge_f (pc := 7) (off := 20) (tgt := 27) hq4 rfl (by decide +kernel) ?_
      refine X.aload_0 (pc := 10) (by decide +kernel) ?_
      refine X.iload_2 (pc := 11) (by decide +kernel) ?_
      obtain ⟨x5, hv6, h⟩ := bnd1_some h
      refine X.callZ (pc := 12) (nc := 0) (ns := 0) hE hz1 (c_JStr_charAt hE (dle hd (Nat.le_of_ble_eq_true rfl)) hv6) cv_Mod_177 (by decide +kernel) rfl (ddd hd (Nat.le_of_ble_eq_true rfl)) rfl (Nat.le_of_ble_eq_true rfl) rfl rfl ?_
      refine X.iload_1 (pc := 15) (by decide +kernel) ?_
      rcases ifb_some h with ⟨hq7, h⟩ | ⟨hq7, h⟩
      · refine X.icmp_ne_f (pc := 16) (off := 5) (tgt := 21) hq7 rfl (by decide +kernel) ?_
        refine X.iload_2 (pc := 19) (by decide +kernel) ?_
        have j0 := Option.some.inj h
        subst j0
        exact X.ireturn (pc := 20) (by decide +kernel) ⟨_, rfl, rfl⟩ ⟨rfl, rfl, rfl, rfl, rfl, rfl⟩
      · refine X.icmp_ne_t (pc := 16) (off := 5) (tgt := 21) hq7 rfl (by decide +kernel) ?_
        refine X.iinc_2 (pc := 21) (z := 1) (v := 1) ic_1 (by decide +kernel) (by decide) rfl ?_
        refine X.goto (pc := 24) (off := (-22)) (tgt := 2) (by decide +kernel) rfl ?_
        exact ih h
set_option maxRecDepth 100000 in
noncomputable def f_Mod_among (g : Nat) (p1 : Nat) (p2 : Int32) : Option Int32 :=
  l_Mod_among_2 p1 p2 g 0
set_option maxRecDepth 100000 in
set_option maxHeartbeats 4000000 in
theorem c_Mod_among {E : Env} (hE : OKE E) {tg : Bool} {d : Nat} (hd : 4 ≤ d) {g : Nat} {S : MS} {I : MI} {L : ML} {R : MR} {n : Nat} {p1 : Nat} {p2 : Int32} {v : Int32} (h : f_Mod_among g p1 p2 = some v) : C E y_Mod_among b_Mod_among 3 (some .int) tg d 0 0 [.ref (E.2.2.2 p1), .int p2] S I L R n (Kq (some (.int v)) S I L R n) := by
  refine C.of (o := [some (.ref (E.2.2.2 p1)), some (.int p2), none]) (by decide) rfl (Nat.le_of_ble_eq_true rfl) ?_
  rw [f_Mod_among] at h
  refine X.iconst (pc := 0) (i := 0) (v := 0) ic_0 (by decide +kernel) ?_
  refine X.istore_2 (pc := 1) (by decide +kernel) (by decide) rfl ?_
  exact xl_Mod_among_2 hE hd h
set_option maxRecDepth 100000 in
noncomputable def f_Mod_takes (S : MS) (R : MR) (I : MI) (t : Nat) (p1 : Int32) : Option (Int32 × MI) :=
  bnd1 (ifb ((I t 19) ≤ (I t 18))
      (some 0)
      (bnd1 (R t 16) fun b5 =>
      lt (I t 18) fun (x6 : Int32) =>
      asrt ((S b5).1 = 20) <|
      asrt (vp_in x6 (S b5).2) <|
      ifb ((I b5 (Int32.toNatClampNeg x6)) = p1)
        (some 1)
        (some 0))) fun (y2 : Int32) =>
  bnd1 (f_Mod_flag y2) fun x10 =>
  lt ((I t 18) + x10) fun (x12 : Int32) =>
  lt (wI I t 18 x12) fun (I13 : MI) =>
  asrt (y2 = 0 ∨ y2 = 1) <|
  some (y2, I13)
set_option maxRecDepth 100000 in
set_option maxHeartbeats 4000000 in
theorem c_Mod_takes {E : Env} (hE : OKE E) {tg : Bool} {d : Nat} (hd : 1 ≤ d) {S : MS} {I : MI} {L : ML} {R : MR} {n : Nat} {t : Nat} {p1 : Int32} {v : Int32} {I' : MI} (hS : (S t).1 = 12) (h : f_Mod_takes S R I t p1 = some (v, I')) : C E y_Mod_takes b_Mod_takes 3 (some .boolean) tg d 0 0 [.ref (e_b E + t), .int p1] S I L R n (Kq (some (.int v)) S I' L R n) := by
  refine C.of (o := [some (.ref (e_b E + t)), some (.int p1), none]) (by decide) rfl (Nat.le_of_ble_eq_true rfl) ?_
  rw [f_Mod_takes] at h
  refine X.aload_0 (pc := 0) (by decide +kernel) ?_
  refine X.getI (pc := 1) (k := 18) fw_Mod_162 (by decide +kernel) (fun _ => rfl) hS ?_
  refine X.aload_0 (pc := 4) (by decide +kernel) ?_
  refine X.getI (pc := 5) (k := 19) fw_Mod_169 (by decide +kernel) (fun _ => rfl) hS ?_
  obtain ⟨y2, hr3, h⟩ := bnd1_some h
  have hj4 : X E y_Mod_takes b_Mod_takes 3 (some .boolean) tg d 0 0 29 [some (.ref (e_b E + t)), none, none] [.int y2] S I L R n (Kq (some (.int v)) S I' L R n) := by
    refine X.istore_2 (pc := 29) (by decide +kernel) (by decide) rfl ?_
    refine X.aload_0 (pc := 30) (by decide +kernel) ?_
    refine X.dupr (pc := 31) (by decide +kernel) ?_
    refine X.getI (pc := 32) (k := 18) fw_Mod_162 (by decide +kernel) (fun _ => rfl) hS ?_
    refine X.iload_2 (pc := 35) (by decide +kernel) ?_
    obtain ⟨x10, hv11, h⟩ := bnd1_some h
    refine X.callSi (pc := 36) (nc := 0) (ns := 0) (c_Mod_flag hE (dle hd (Nat.le_of_ble_eq_true rfl)) hv11) cv_Mod_155 (by decide +kernel) (ddd hd (Nat.le_of_ble_eq_true rfl)) rfl (Nat.le_of_ble_eq_true rfl) rfl rfl ?_
    refine X.iadd (pc := 39) (by decide +kernel) ?_
    refine X.nameI (fun x12 hx12 => ?_)
    have h := lt_at hx12 h
    refine X.putI (pc := 40) (k := 18) fw_Mod_162 (by decide +kernel) rfl rfl hS ?_
    refine X.nameMI (fun I13 hI13 => ?_)
    have h := lt_at hI13 h
    refine X.iload_2 (pc := 43) (by decide +kernel) ?_
    obtain ⟨hb14, h⟩ := asrt_some h
    have j0 := Option.some.inj h
    obtain ⟨i0, j1⟩ := Prod.mk.inj j0
    subst i0
    subst j1
    exact X.ireturn (pc := 44) (by decide +kernel) ⟨_, rfl, nz01 hb14⟩ ⟨rfl, rfl, rfl, rfl, rfl, rfl⟩
  have h := hr3
  rcases ifb_some h with ⟨hq1, h⟩ | ⟨hq1, h⟩
  · refine X.icmp_ge_t (pc := 8) (off := 20) (tgt := 28) hq1 rfl (by decide +kernel) ?_
    refine X.iconst (pc := 28) (i := 0) (v := 0) ic_0 (by decide +kernel) ?_
    have j0 := Option.some.inj h
    subst j0
    refine X.fgt (o' := [some (.ref (e_b E + t)), none, none]) ⟨rfl, trivial⟩ ?_
    exact hj4
  · refine X.icmp_ge_f (pc := 8) (off := 20) (tgt := 28) hq1 rfl (by decide +kernel) ?_
    refine X.aload_0 (pc := 11) (by decide +kernel) ?_
    obtain ⟨b5, hb5, h⟩ := bnd1_some h
    refine X.getR (pc := 12) (k := 16) fw_Mod_59 (by decide +kernel) (fun _ => rfl) hS hb5 ?_
    refine X.aload_0 (pc := 15) (by decide +kernel) ?_
    refine X.getI (pc := 16) (k := 18) fw_Mod_162 (by decide +kernel) (fun _ => rfl) hS ?_
    refine X.nameI (fun x6 hx6 => ?_)
    have h := lt_at hx6 h
    obtain ⟨hc8, h⟩ := asrt_some h
    obtain ⟨hi7, h⟩ := asrt_some h
    refine X.iaload (pc := 19) (by decide +kernel) hc8 hi7 ?_
    refine X.iload_1 (pc := 20) (by decide +kernel) ?_
    rcases ifb_some h with ⟨hq9, h⟩ | ⟨hq9, h⟩
    · refine X.icmp_ne_f (pc := 21) (off := 7) (tgt := 28) hq9 rfl (by decide +kernel) ?_
      refine X.iconst (pc := 24) (i := 1) (v := 1) ic_1 (by decide +kernel) ?_
      refine X.goto (pc := 25) (off := 4) (tgt := 29) (by decide +kernel) rfl ?_
      have j0 := Option.some.inj h
      subst j0
      refine X.fgt (o' := [some (.ref (e_b E + t)), none, none]) ⟨rfl, trivial⟩ ?_
      exact hj4
    · refine X.icmp_ne_t (pc := 21) (off := 7) (tgt := 28) hq9 rfl (by decide +kernel) ?_
      refine X.iconst (pc := 28) (i := 0) (v := 0) ic_0 (by decide +kernel) ?_
      have j0 := Option.some.inj h
      subst j0
      refine X.fgt (o' := [some (.ref (e_b E + t)), none, none]) ⟨rfl, trivial⟩ ?_
      exact hj4
set_option maxRecDepth 100000 in
noncomputable def f_Mod_begins_II (S : MS) (I : MI) (t : Nat) (p1 : Int32) (p2 : Int32) : Option MI :=
  lt (wI I t 7 p1) fun (I1 : MI) =>
  lt (wI I1 t 8 p2) fun (I2 : MI) =>
  lt (wI I2 t 13 0) fun (I3 : MI) =>
  lt (wI I3 t 14 0) fun (I4 : MI) =>
  lt (wI I4 t 23 0) fun (I5 : MI) =>
  some I5
set_option maxRecDepth 100000 in
set_option maxHeartbeats 4000000 in
theorem c_Mod_begins_II {E : Env} (hE : OKE E) {tg : Bool} {d : Nat} (hd : 0 ≤ d) {S : MS} {I : MI} {L : ML} {R : MR} {n : Nat} {t : Nat} {p1 : Int32} {p2 : Int32} {I' : MI} (hS : (S t).1 = 12) (h : f_Mod_begins_II S I t p1 p2 = some I') : C E y_Mod_begins_II b_Mod_begins_II 3 none tg d 0 0 [.ref (e_b E + t), .int p1, .int p2] S I L R n (Kq none S I' L R n) := by
  refine C.of (o := [some (.ref (e_b E + t)), some (.int p1), some (.int p2)]) (by decide) rfl (Nat.le_of_ble_eq_true rfl) ?_
  rw [f_Mod_begins_II] at h
  refine X.aload_0 (pc := 0) (by decide +kernel) ?_
  refine X.iload_1 (pc := 1) (by decide +kernel) ?_
  refine X.putI (pc := 2) (k := 7) fw_Mod_204 (by decide +kernel) rfl rfl hS ?_
  refine X.nameMI (fun I1 hI1 => ?_)
  have h := lt_at hI1 h
  refine X.aload_0 (pc := 5) (by decide +kernel) ?_
  refine X.iload_2 (pc := 6) (by decide +kernel) ?_
  refine X.putI (pc := 7) (k := 8) fw_Mod_207 (by decide +kernel) rfl rfl hS ?_
  refine X.nameMI (fun I2 hI2 => ?_)
  have h := lt_at hI2 h
  refine X.aload_0 (pc := 10) (by decide +kernel) ?_
  refine X.iconst (pc := 11) (i := 0) (v := 0) ic_0 (by decide +kernel) ?_
  refine X.putI (pc := 12) (k := 13) fw_Mod_210 (by decide +kernel) rfl rfl hS ?_
  refine X.nameMI (fun I3 hI3 => ?_)
  have h := lt_at hI3 h
  refine X.aload_0 (pc := 15) (by decide +kernel) ?_
  refine X.iconst (pc := 16) (i := 0) (v := 0) ic_0 (by decide +kernel) ?_
  refine X.putI (pc := 17) (k := 14) fw_Mod_213 (by decide +kernel) rfl rfl hS ?_
  refine X.nameMI (fun I4 hI4 => ?_)
  have h := lt_at hI4 h
  refine X.aload_0 (pc := 20) (by decide +kernel) ?_
  refine X.iconst (pc := 21) (i := 0) (v := 0) ic_0 (by decide +kernel) ?_
  refine X.putI (pc := 22) (k := 23) fw_Mod_216 (by decide +kernel) rfl rfl hS ?_
  refine X.nameMI (fun I5 hI5 => ?_)
  have h := lt_at hI5 h
  have j0 := Option.some.inj h
  subst j0
  exact X.vreturn (pc := 25) (by decide +kernel) rfl ⟨rfl, rfl, rfl, rfl, rfl, rfl⟩
set_option maxRecDepth 100000 in
noncomputable def l_Mod_moor_44 (g : Nat) (S : MS) (R : MR) (v0 : Nat) (v2 : Int32) (v3 : Int32) (v7 : Int32) : Nat → MI → Int32 → Int32 → Option (Int32 × Int32 × MI)
  | 0, _, _, _ => none
  | f + 1, I, v1, v6 =>
    ifb (6 ≤ v3)
      (some (v1, v6, I))
      (ifb (v7 ≤ v6)
        (some (v1, v6, I))
        (ifb ((I v0 19) ≤ (I v0 18))
          (some (v1, v6, I))
          (bnd1 (R v0 16) fun b13 =>
          lt (I v0 18) fun (x14 : Int32) =>
          asrt ((S b13).1 = 20) <|
          asrt (vp_in x14 (S b13).2) <|
          bnd1 (f_Mod_among g 6 (I b13 (Int32.toNatClampNeg x14))) fun x17 =>
          ifb (x17 < 0)
            (some (v1, v6, I))
            (bnd1 (R v0 20) fun b20 =>
            lt (I v0 18) fun (x21 : Int32) =>
            asrt (vp_in x21 (S b13).2) <|
            bnd1 (f_Mod_among g 6 (I b13 (Int32.toNatClampNeg x21))) fun x23 =>
            asrt ((S b20).1 = 20) <|
            asrt (vp_in v1 (S b20).2) <|
            lt (wI I b20 (Int32.toNatClampNeg v1) x23) fun (I27 : MI) =>
            lt ((I27 v0 18) + 1) fun (x28 : Int32) =>
            lt (wI I27 v0 18 x28) fun (I29 : MI) =>
            l_Mod_moor_44 g S R v0 v2 v3 v7 f I29 (v1 + 1) (v6 + 1)))))
set_option maxRecDepth 100000 in
set_option maxHeartbeats 4000000 in
theorem xl_Mod_moor_44 {E : Env} (hE : OKE E) {tg : Bool} {d : Nat} (hd : 5 ≤ d) {g : Nat} {S : MS} {L : ML} {R : MR} {n : Nat} {v0 : Nat} {v2 : Int32} {v3 : Int32} {v7 : Int32} {K : KT} :
    ∀ {f : Nat} {I : MI} {v1 : Int32} {v6 : Int32} {o1 : Int32} {o6 : Int32} {I' : MI}, (S v0).1 = 12 → l_Mod_moor_44 g S R v0 v2 v3 v7 f I v1 v6 = some (o1, o6, I') → X E y_Mod_moor b_Mod_moor 8 (some .int) tg d 0 0 124 [some (.ref (e_b E + v0)), some (.int o1), some (.int v2), some (.int v3), none, none, some (.int o6), none] [] S I' L R n K → X E y_Mod_moor b_Mod_moor 8 (some .int) tg d 0 0 44 [some (.ref (e_b E + v0)), some (.int v1), some (.int v2), some (.int v3), none, none, some (.int v6), some (.int v7)] [] S I L R n K := by
  intro f
  induction f with
  | zero =>
    intro I v1 v6 o1 o6 I' hS h hk
    rw [l_Mod_moor_44] at h
    cases h
  | succ f ih =>
    intro I v1 v6 o1 o6 I' hS h hk
    rw [l_Mod_moor_44] at h
    refine X.iload_3 (pc := 44) (by decide +kernel) ?_
    refine X.bipush (pc := 45) (i := 6) (v := 6) bp_6 (by decide +kernel) ?_
    rcases ifb_some h with ⟨hq10, h⟩ | ⟨hq10, h⟩
    · refine X.icmp_ge_t (pc := 47) (off := 77) (tgt := 124) hq10 rfl (by decide +kernel) ?_
      have j0 := Option.some.inj h
      obtain ⟨i0, j1⟩ := Prod.mk.inj j0
      obtain ⟨i1, j2⟩ := Prod.mk.inj j1
      subst i0
      subst i1
      subst j2
      refine X.fgt (o' := [some (.ref (e_b E + v0)), some (.int v1), some (.int v2), some (.int v3), none, none, some (.int v6), none]) ⟨rfl, ⟨rfl, ⟨rfl, ⟨rfl, ⟨rfl, trivial⟩⟩⟩⟩⟩ ?_
      exact hk
    · refine X.icmp_ge_f (pc := 47) (off := 77) (tgt := 124) hq10 rfl (by decide +kernel) ?_
      refine X.iload_6 (pc := 50) (by decide +kernel) ?_
      refine X.iload_7 (pc := 52) (by decide +kernel) ?_
      rcases ifb_some h with ⟨hq11, h⟩ | ⟨hq11, h⟩
      · refine X.icmp_ge_t (pc := 54) (off := 70) (tgt := 124) hq11 rfl (by decide +kernel) ?_
        have j0 := Option.some.inj h
        obtain ⟨i0, j1⟩ := Prod.mk.inj j0
        obtain ⟨i1, j2⟩ := Prod.mk.inj j1
        subst i0
        subst i1
        subst j2
        refine X.fgt (o' := [some (.ref (e_b E + v0)), some (.int v1), some (.int v2), some (.int v3), none, none, some (.int v6), none]) ⟨rfl, ⟨rfl, ⟨rfl, ⟨rfl, ⟨rfl, trivial⟩⟩⟩⟩⟩ ?_
        exact hk
      · refine X.icmp_ge_f (pc := 54) (off := 70) (tgt := 124) hq11 rfl (by decide +kernel) ?_
        refine X.aload_0 (pc := 57) (by decide +kernel) ?_
        refine X.getI (pc := 58) (k := 18) fw_Mod_162 (by decide +kernel) (fun _ => rfl) hS ?_
        refine X.aload_0 (pc := 61) (by decide +kernel) ?_
        refine X.getI (pc := 62) (k := 19) fw_Mod_169 (by decide +kernel) (fun _ => rfl) hS ?_
        rcases ifb_some h with ⟨hq12, h⟩ | ⟨hq12, h⟩
        · refine X.icmp_ge_t (pc := 65) (off := 59) (tgt := 124) hq12 rfl (by decide +kernel) ?_
          have j0 := Option.some.inj h
          obtain ⟨i0, j1⟩ := Prod.mk.inj j0
          obtain ⟨i1, j2⟩ := Prod.mk.inj j1
          subst i0
          subst i1
          subst j2
          refine X.fgt (o' := [some (.ref (e_b E + v0)), some (.int v1), some (.int v2), some (.int v3), none, none, some (.int v6), none]) ⟨rfl, ⟨rfl, ⟨rfl, ⟨rfl, ⟨rfl, trivial⟩⟩⟩⟩⟩ ?_
          exact hk
        · refine X.icmp_ge_f (pc := 65) (off := 59) (tgt := 124) hq12 rfl (by decide +kernel) ?_
          refine X.ldcS (pc := 68) (x := 185) (ix := 6) (tx := ".o#H") (by decide +kernel) (by decide +kernel) ?_
          refine X.aload_0 (pc := 70) (by decide +kernel) ?_
          obtain ⟨b13, hb13, h⟩ := bnd1_some h
          refine X.getR (pc := 71) (k := 16) fw_Mod_59 (by decide +kernel) (fun _ => rfl) hS hb13 ?_
          refine X.aload_0 (pc := 74) (by decide +kernel) ?_
          refine X.getI (pc := 75) (k := 18) fw_Mod_162 (by decide +kernel) (fun _ => rfl) hS ?_
          refine X.nameI (fun x14 hx14 => ?_)
          have h := lt_at hx14 h
          obtain ⟨hc16, h⟩ := asrt_some h
          obtain ⟨hi15, h⟩ := asrt_some h
          refine X.iaload (pc := 78) (by decide +kernel) hc16 hi15 ?_
          obtain ⟨x17, hv18, h⟩ := bnd1_some h
          refine X.callSi (pc := 79) (nc := 0) (ns := 0) (c_Mod_among hE (dle hd (Nat.le_of_ble_eq_true rfl)) hv18) cv_Mod_187 (by decide +kernel) (ddd hd (Nat.le_of_ble_eq_true rfl)) rfl (Nat.le_of_ble_eq_true rfl) rfl rfl ?_
          rcases ifb_some h with ⟨hq19, h⟩ | ⟨hq19, h⟩
          · refine X.if_lt_t (pc := 82) (off := 42) (tgt := 124) hq19 rfl (by decide +kernel) ?_
            have j0 := Option.some.inj h
            obtain ⟨i0, j1⟩ := Prod.mk.inj j0
            obtain ⟨i1, j2⟩ := Prod.mk.inj j1
            subst i0
            subst i1
            subst j2
            refine X.fgt (o' := [some (.ref (e_b E + v0)), some (.int v1), some (.int v2), some (.int v3), none, none, some (.int v6), none]) ⟨rfl, ⟨rfl, ⟨rfl, ⟨rfl, ⟨rfl, trivial⟩⟩⟩⟩⟩ ?_
            exact hk
          · refine X.if_lt_f (pc := 82) (off := 42) (tgt := 124) hq19 rfl (by decide +kernel) ?_
            refine X.aload_0 (pc := 85) (by decide +kernel) ?_
            obtain ⟨b20, hb20, h⟩ := bnd1_some h
            refine X.getR (pc := 86) (k := 20) fw_Mod_62 (by decide +kernel) (fun _ => rfl) hS hb20 ?_
            refine X.iload_1 (pc := 89) (by decide +kernel) ?_
            refine X.ldcS (pc := 90) (x := 185) (ix := 6) (tx := ".o#H") (by decide +kernel) (by decide +kernel) ?_
            refine X.aload_0 (pc := 92) (by decide +kernel) ?_
            refine X.getR (pc := 93) (k := 16) fw_Mod_59 (by decide +kernel) (fun _ => rfl) hS hb13 ?_
            refine X.aload_0 (pc := 96) (by decide +kernel) ?_
            refine X.getI (pc := 97) (k := 18) fw_Mod_162 (by decide +kernel) (fun _ => rfl) hS ?_
            refine X.nameI (fun x21 hx21 => ?_)
            have h := lt_at hx21 h
            obtain ⟨hi22, h⟩ := asrt_some h
            refine X.iaload (pc := 100) (by decide +kernel) hc16 hi22 ?_
            obtain ⟨x23, hv24, h⟩ := bnd1_some h
            refine X.callSi (pc := 101) (nc := 0) (ns := 0) (c_Mod_among hE (dle hd (Nat.le_of_ble_eq_true rfl)) hv24) cv_Mod_187 (by decide +kernel) (ddd hd (Nat.le_of_ble_eq_true rfl)) rfl (Nat.le_of_ble_eq_true rfl) rfl rfl ?_
            obtain ⟨hc25, h⟩ := asrt_some h
            obtain ⟨hi26, h⟩ := asrt_some h
            refine X.iastore (pc := 104) (by decide +kernel) hc25 hi26 ?_
            refine X.nameMI (fun I27 hI27 => ?_)
            have h := lt_at hI27 h
            refine X.aload_0 (pc := 105) (by decide +kernel) ?_
            refine X.dupr (pc := 106) (by decide +kernel) ?_
            refine X.getI (pc := 107) (k := 18) fw_Mod_162 (by decide +kernel) (fun _ => rfl) hS ?_
            refine X.iconst (pc := 110) (i := 1) (v := 1) ic_1 (by decide +kernel) ?_
            refine X.iadd (pc := 111) (by decide +kernel) ?_
            refine X.nameI (fun x28 hx28 => ?_)
            have h := lt_at hx28 h
            refine X.putI (pc := 112) (k := 18) fw_Mod_162 (by decide +kernel) rfl rfl hS ?_
            refine X.nameMI (fun I29 hI29 => ?_)
            have h := lt_at hI29 h
            refine X.iinc_1 (pc := 115) (z := 1) (v := 1) ic_1 (by decide +kernel) (by decide) rfl ?_
            refine X.iinc_6 (pc := 118) (z := 1) (v := 1) ic_1 (by decide +kernel) (by decide) rfl ?_
            refine X.goto (pc := 121) (off := (-77)) (tgt := 44) (by decide +kernel) rfl ?_
            exact ih hS h hk
set_option maxRecDepth 100000 in
noncomputable def l_Mod_moor_24 (g : Nat) (S : MS) (R : MR) (v0 : Nat) : Nat → MI → Int32 → Int32 → Int32 → Int32 → Int32 → Option (Int32 × Int32 × Int32 × Int32 × MI)
  | 0, _, _, _, _, _, _ => none
  | f + 1, I, v1, v2, v3, v4, v5 =>
    ifb (v5 = 0)
      (some (v1, v2, v3, v4, I))
      (bnd1 (ifb (v3 = 0)
          (some 6)
          (some v2)) fun (y7 : Int32) =>
      bnd3 (l_Mod_moor_44 g S R v0 v2 v3 y7 g I v1 0) fun x30 x31 I32 =>
      bnd1 (ifb (v3 = 0)
          (some x31)
          (some v2)) fun (y35 : Int32) =>
      bnd1 (ifb (x31 ≤ 0)
          (some 0)
          (ifb (x31 = y35)
            (some 1)
            (some 0))) fun (y39 : Int32) =>
      bnd2 (ifb (y39 = 0)
          (some (0, I32))
          (bnd2 (f_Mod_takes S R I32 v0 47) fun x48 I49 =>
          ifb (x48 = 0)
            (some (0, I49))
            (some (1, I49)))) fun (y44 : Int32) (I45 : MI) =>
      l_Mod_moor_24 g S R v0 f I45 x30 y35 (v3 + 1) y39 y44)
set_option maxRecDepth 100000 in
set_option maxHeartbeats 4000000 in
theorem xl_Mod_moor_24 {E : Env} (hE : OKE E) {tg : Bool} {d : Nat} (hd : 5 ≤ d) {g : Nat} {S : MS} {L : ML} {R : MR} {n : Nat} {v0 : Nat} {K : KT} :
    ∀ {f : Nat} {I : MI} {v1 : Int32} {v2 : Int32} {v3 : Int32} {v4 : Int32} {v5 : Int32} {o1 : Int32} {o2 : Int32} {o3 : Int32} {o4 : Int32} {I' : MI}, (S v0).1 = 12 → l_Mod_moor_24 g S R v0 f I v1 v2 v3 v4 v5 = some (o1, o2, o3, o4, I') → X E y_Mod_moor b_Mod_moor 8 (some .int) tg d 0 0 180 [some (.ref (e_b E + v0)), some (.int o1), some (.int o2), some (.int o3), some (.int o4), none, none, none] [] S I' L R n K → X E y_Mod_moor b_Mod_moor 8 (some .int) tg d 0 0 24 [some (.ref (e_b E + v0)), some (.int v1), some (.int v2), some (.int v3), some (.int v4), some (.int v5), none, none] [] S I L R n K := by
  intro f
  induction f with
  | zero =>
    intro I v1 v2 v3 v4 v5 o1 o2 o3 o4 I' hS h hk
    rw [l_Mod_moor_24] at h
    cases h
  | succ f ih =>
    intro I v1 v2 v3 v4 v5 o1 o2 o3 o4 I' hS h hk
    rw [l_Mod_moor_24] at h
    refine X.iload_5 (pc := 24) (by decide +kernel) ?_
    rcases ifb_some h with ⟨hq5, h⟩ | ⟨hq5, h⟩
    · refine X.if_eq_t (pc := 26) (off := 154) (tgt := 180) hq5 rfl (by decide +kernel) ?_
      have j0 := Option.some.inj h
      obtain ⟨i0, j1⟩ := Prod.mk.inj j0
      obtain ⟨i1, j2⟩ := Prod.mk.inj j1
      obtain ⟨i2, j3⟩ := Prod.mk.inj j2
      obtain ⟨i3, j4⟩ := Prod.mk.inj j3
      subst i0
      subst i1
      subst i2
      subst i3
      subst j4
      refine X.fgt (o' := [some (.ref (e_b E + v0)), some (.int v1), some (.int v2), some (.int v3), some (.int v4), none, none, none]) ⟨rfl, ⟨rfl, ⟨rfl, ⟨rfl, ⟨rfl, trivial⟩⟩⟩⟩⟩ ?_
      exact hk
    · refine X.if_eq_f (pc := 26) (off := 154) (tgt := 180) hq5 rfl (by decide +kernel) ?_
      refine X.iconst (pc := 29) (i := 0) (v := 0) ic_0 (by decide +kernel) ?_
      refine X.istore_6 (pc := 30) (by decide +kernel) (by decide) rfl ?_
      refine X.iload_3 (pc := 32) (by decide +kernel) ?_
      obtain ⟨y7, hr8, h⟩ := bnd1_some h
      have hj9 : X E y_Mod_moor b_Mod_moor 8 (some .int) tg d 0 0 42 [some (.ref (e_b E + v0)), some (.int v1), some (.int v2), some (.int v3), none, none, some (.int 0), none] [.int y7] S I L R n K := by
        refine X.istore_7 (pc := 42) (by decide +kernel) (by decide) rfl ?_
        obtain ⟨x30, x31, I32, hv33, h⟩ := bnd3_some h
        refine xl_Mod_moor_44 hE hd hS hv33 ?_
        refine X.iload_3 (pc := 124) (by decide +kernel) ?_
        obtain ⟨y35, hr36, h⟩ := bnd1_some h
        have hj37 : X E y_Mod_moor b_Mod_moor 8 (some .int) tg d 0 0 134 [some (.ref (e_b E + v0)), some (.int x30), none, some (.int v3), none, none, some (.int x31), none] [.int y35] S I32 L R n K := by
          refine X.istore_2 (pc := 134) (by decide +kernel) (by decide) rfl ?_
          refine X.iload_6 (pc := 135) (by decide +kernel) ?_
          obtain ⟨y39, hr40, h⟩ := bnd1_some h
          have hj41 : X E y_Mod_moor b_Mod_moor 8 (some .int) tg d 0 0 151 [some (.ref (e_b E + v0)), some (.int x30), some (.int y35), some (.int v3), none, none, none, none] [.int y39] S I32 L R n K := by
            refine X.istore_4 (pc := 151) (by decide +kernel) (by decide) rfl ?_
            refine X.iinc_3 (pc := 153) (z := 1) (v := 1) ic_1 (by decide +kernel) (by decide) rfl ?_
            refine X.iload_4 (pc := 156) (by decide +kernel) ?_
            obtain ⟨y44, I45, hr46, h⟩ := bnd2_some h
            have hj47 : X E y_Mod_moor b_Mod_moor 8 (some .int) tg d 0 0 175 [some (.ref (e_b E + v0)), some (.int x30), some (.int y35), some (.int (v3 + 1)), some (.int y39), none, none, none] [.int y44] S I45 L R n K := by
              refine X.istore_5 (pc := 175) (by decide +kernel) (by decide) rfl ?_
              refine X.goto (pc := 177) (off := (-153)) (tgt := 24) (by decide +kernel) rfl ?_
              exact ih hS h hk
            have h := hr46
            rcases ifb_some h with ⟨hq43, h⟩ | ⟨hq43, h⟩
            · refine X.if_eq_t (pc := 158) (off := 16) (tgt := 174) hq43 rfl (by decide +kernel) ?_
              refine X.iconst (pc := 174) (i := 0) (v := 0) ic_0 (by decide +kernel) ?_
              have j0 := Option.some.inj h
              obtain ⟨i0, j1⟩ := Prod.mk.inj j0
              subst i0
              subst j1
              exact hj47
            · refine X.if_eq_f (pc := 158) (off := 16) (tgt := 174) hq43 rfl (by decide +kernel) ?_
              refine X.aload_0 (pc := 161) (by decide +kernel) ?_
              refine X.bipush (pc := 162) (i := 47) (v := 47) bp_47 (by decide +kernel) ?_
              obtain ⟨x48, I49, hv50, h⟩ := bnd2_some h
              refine X.callVi (pc := 164) (nc := 0) (ns := 0) (c_Mod_takes hE (dle hd (Nat.le_of_ble_eq_true rfl)) hS hv50) cv_Mod_191 (by decide +kernel) hS ⟨by decide, rfl⟩ (ddd hd (Nat.le_of_ble_eq_true rfl)) rfl (Nat.le_of_ble_eq_true rfl) rfl rfl ?_
              rcases ifb_some h with ⟨hq51, h⟩ | ⟨hq51, h⟩
              · refine X.if_eq_t (pc := 167) (off := 7) (tgt := 174) hq51 rfl (by decide +kernel) ?_
                refine X.iconst (pc := 174) (i := 0) (v := 0) ic_0 (by decide +kernel) ?_
                have j0 := Option.some.inj h
                obtain ⟨i0, j1⟩ := Prod.mk.inj j0
                subst i0
                subst j1
                exact hj47
              · refine X.if_eq_f (pc := 167) (off := 7) (tgt := 174) hq51 rfl (by decide +kernel) ?_
                refine X.iconst (pc := 170) (i := 1) (v := 1) ic_1 (by decide +kernel) ?_
                refine X.goto (pc := 171) (off := 4) (tgt := 175) (by decide +kernel) rfl ?_
                have j0 := Option.some.inj h
                obtain ⟨i0, j1⟩ := Prod.mk.inj j0
                subst i0
                subst j1
                exact hj47
          have h := hr40
          rcases ifb_some h with ⟨hq38, h⟩ | ⟨hq38, h⟩
          · refine X.if_le_t (pc := 137) (off := 13) (tgt := 150) hq38 rfl (by decide +kernel) ?_
            refine X.iconst (pc := 150) (i := 0) (v := 0) ic_0 (by decide +kernel) ?_
            have j0 := Option.some.inj h
            subst j0
            refine X.fgt (o' := [some (.ref (e_b E + v0)), some (.int x30), some (.int y35), some (.int v3), none, none, none, none]) ⟨rfl, ⟨rfl, ⟨rfl, ⟨rfl, trivial⟩⟩⟩⟩ ?_
            exact hj41
          · refine X.if_le_f (pc := 137) (off := 13) (tgt := 150) hq38 rfl (by decide +kernel) ?_
            refine X.iload_6 (pc := 140) (by decide +kernel) ?_
            refine X.iload_2 (pc := 142) (by decide +kernel) ?_
            rcases ifb_some h with ⟨hq42, h⟩ | ⟨hq42, h⟩
            · refine X.icmp_ne_f (pc := 143) (off := 7) (tgt := 150) hq42 rfl (by decide +kernel) ?_
              refine X.iconst (pc := 146) (i := 1) (v := 1) ic_1 (by decide +kernel) ?_
              refine X.goto (pc := 147) (off := 4) (tgt := 151) (by decide +kernel) rfl ?_
              have j0 := Option.some.inj h
              subst j0
              refine X.fgt (o' := [some (.ref (e_b E + v0)), some (.int x30), some (.int y35), some (.int v3), none, none, none, none]) ⟨rfl, ⟨rfl, ⟨rfl, ⟨rfl, trivial⟩⟩⟩⟩ ?_
              exact hj41
            · refine X.icmp_ne_t (pc := 143) (off := 7) (tgt := 150) hq42 rfl (by decide +kernel) ?_
              refine X.iconst (pc := 150) (i := 0) (v := 0) ic_0 (by decide +kernel) ?_
              have j0 := Option.some.inj h
              subst j0
              refine X.fgt (o' := [some (.ref (e_b E + v0)), some (.int x30), some (.int y35), some (.int v3), none, none, none, none]) ⟨rfl, ⟨rfl, ⟨rfl, ⟨rfl, trivial⟩⟩⟩⟩ ?_
              exact hj41
        have h := hr36
        rcases ifb_some h with ⟨hq34, h⟩ | ⟨hq34, h⟩
        · refine X.if_ne_f (pc := 125) (off := 8) (tgt := 133) hq34 rfl (by decide +kernel) ?_
          refine X.iload_6 (pc := 128) (by decide +kernel) ?_
          refine X.goto (pc := 130) (off := 4) (tgt := 134) (by decide +kernel) rfl ?_
          have j0 := Option.some.inj h
          subst j0
          refine X.fgt (o' := [some (.ref (e_b E + v0)), some (.int x30), none, some (.int v3), none, none, some (.int x31), none]) ⟨rfl, ⟨rfl, ⟨rfl, ⟨rfl, trivial⟩⟩⟩⟩ ?_
          exact hj37
        · refine X.if_ne_t (pc := 125) (off := 8) (tgt := 133) hq34 rfl (by decide +kernel) ?_
          refine X.iload_2 (pc := 133) (by decide +kernel) ?_
          have j0 := Option.some.inj h
          subst j0
          refine X.fgt (o' := [some (.ref (e_b E + v0)), some (.int x30), none, some (.int v3), none, none, some (.int x31), none]) ⟨rfl, ⟨rfl, ⟨rfl, ⟨rfl, trivial⟩⟩⟩⟩ ?_
          exact hj37
      have h := hr8
      rcases ifb_some h with ⟨hq6, h⟩ | ⟨hq6, h⟩
      · refine X.if_ne_f (pc := 33) (off := 8) (tgt := 41) hq6 rfl (by decide +kernel) ?_
        refine X.bipush (pc := 36) (i := 6) (v := 6) bp_6 (by decide +kernel) ?_
        refine X.goto (pc := 38) (off := 4) (tgt := 42) (by decide +kernel) rfl ?_
        have j0 := Option.some.inj h
        subst j0
        refine X.fgt (o' := [some (.ref (e_b E + v0)), some (.int v1), some (.int v2), some (.int v3), none, none, some (.int 0), none]) ⟨rfl, ⟨rfl, ⟨rfl, ⟨rfl, ⟨rfl, trivial⟩⟩⟩⟩⟩ ?_
        exact hj9
      · refine X.if_ne_t (pc := 33) (off := 8) (tgt := 41) hq6 rfl (by decide +kernel) ?_
        refine X.iload_2 (pc := 41) (by decide +kernel) ?_
        have j0 := Option.some.inj h
        subst j0
        refine X.fgt (o' := [some (.ref (e_b E + v0)), some (.int v1), some (.int v2), some (.int v3), none, none, some (.int 0), none]) ⟨rfl, ⟨rfl, ⟨rfl, ⟨rfl, ⟨rfl, trivial⟩⟩⟩⟩⟩ ?_
        exact hj9
set_option maxRecDepth 100000 in
noncomputable def l_Mod_moor_216 (S : MS) (R : MR) (v0 : Nat) (v1 : Int32) : Nat → MI → Int32 → Option MI
  | 0, _, _ => none
  | f + 1, I, v6 =>
    ifb (36 ≤ v6)
      (some I)
      (bnd1 (R v0 5) fun b64 =>
      bnd1 (ifb (v1 ≤ v6)
          (some 0)
          (bnd1 (R v0 20) fun b69 =>
          asrt ((S b69).1 = 20) <|
          asrt (vp_in v6 (S b69).2) <|
          some (I b69 (Int32.toNatClampNeg v6)))) fun (y66 : Int32) =>
      asrt ((S b64).1 = 20) <|
      asrt (vp_in v6 (S b64).2) <|
      lt (wI I b64 (Int32.toNatClampNeg v6) y66) fun (I74 : MI) =>
      l_Mod_moor_216 S R v0 v1 f I74 (v6 + 1))
set_option maxRecDepth 100000 in
set_option maxHeartbeats 4000000 in
theorem xl_Mod_moor_216 {E : Env} (hE : OKE E) {tg : Bool} {d : Nat} (hd : 5 ≤ d) {S : MS} {L : ML} {R : MR} {n : Nat} {v0 : Nat} {v1 : Int32} {K : KT} :
    ∀ {f : Nat} {I : MI} {v6 : Int32} {I' : MI}, (S v0).1 = 12 → l_Mod_moor_216 S R v0 v1 f I v6 = some I' → X E y_Mod_moor b_Mod_moor 8 (some .int) tg d 0 0 253 [some (.ref (e_b E + v0)), some (.int v1), none, none, none, none, none, none] [] S I' L R n K → X E y_Mod_moor b_Mod_moor 8 (some .int) tg d 0 0 216 [some (.ref (e_b E + v0)), some (.int v1), none, none, none, none, some (.int v6), none] [] S I L R n K := by
  intro f
  induction f with
  | zero =>
    intro I v6 I' hS h hk
    rw [l_Mod_moor_216] at h
    cases h
  | succ f ih =>
    intro I v6 I' hS h hk
    rw [l_Mod_moor_216] at h
    refine X.iload_6 (pc := 216) (by decide +kernel) ?_
    refine X.bipush (pc := 218) (i := 36) (v := 36) bp_36 (by decide +kernel) ?_
    rcases ifb_some h with ⟨hq63, h⟩ | ⟨hq63, h⟩
    · refine X.icmp_ge_t (pc := 220) (off := 33) (tgt := 253) hq63 rfl (by decide +kernel) ?_
      have j0 := Option.some.inj h
      subst j0
      refine X.fgt (o' := [some (.ref (e_b E + v0)), some (.int v1), none, none, none, none, none, none]) ⟨rfl, ⟨rfl, trivial⟩⟩ ?_
      exact hk
    · refine X.icmp_ge_f (pc := 220) (off := 33) (tgt := 253) hq63 rfl (by decide +kernel) ?_
      refine X.aload_0 (pc := 223) (by decide +kernel) ?_
      obtain ⟨b64, hb64, h⟩ := bnd1_some h
      refine X.getR (pc := 224) (k := 5) fw_Mod_40 (by decide +kernel) (fun _ => rfl) hS hb64 ?_
      refine X.iload_6 (pc := 227) (by decide +kernel) ?_
      refine X.iload_6 (pc := 229) (by decide +kernel) ?_
      refine X.iload_1 (pc := 231) (by decide +kernel) ?_
      obtain ⟨y66, hr67, h⟩ := bnd1_some h
      have hj68 : X E y_Mod_moor b_Mod_moor 8 (some .int) tg d 0 0 246 [some (.ref (e_b E + v0)), some (.int v1), none, none, none, none, some (.int v6), none] [.int y66, .int v6, .ref (e_b E + b64)] S I L R n K := by
        obtain ⟨hc72, h⟩ := asrt_some h
        obtain ⟨hi73, h⟩ := asrt_some h
        refine X.iastore (pc := 246) (by decide +kernel) hc72 hi73 ?_
        refine X.nameMI (fun I74 hI74 => ?_)
        have h := lt_at hI74 h
        refine X.iinc_6 (pc := 247) (z := 1) (v := 1) ic_1 (by decide +kernel) (by decide) rfl ?_
        refine X.goto (pc := 250) (off := (-34)) (tgt := 216) (by decide +kernel) rfl ?_
        exact ih hS h hk
      have h := hr67
      rcases ifb_some h with ⟨hq65, h⟩ | ⟨hq65, h⟩
      · refine X.icmp_ge_t (pc := 232) (off := 13) (tgt := 245) hq65 rfl (by decide +kernel) ?_
        refine X.iconst (pc := 245) (i := 0) (v := 0) ic_0 (by decide +kernel) ?_
        have j0 := Option.some.inj h
        subst j0
        exact hj68
      · refine X.icmp_ge_f (pc := 232) (off := 13) (tgt := 245) hq65 rfl (by decide +kernel) ?_
        refine X.aload_0 (pc := 235) (by decide +kernel) ?_
        obtain ⟨b69, hb69, h⟩ := bnd1_some h
        refine X.getR (pc := 236) (k := 20) fw_Mod_62 (by decide +kernel) (fun _ => rfl) hS hb69 ?_
        refine X.iload_6 (pc := 239) (by decide +kernel) ?_
        obtain ⟨hc71, h⟩ := asrt_some h
        obtain ⟨hi70, h⟩ := asrt_some h
        refine X.iaload (pc := 241) (by decide +kernel) hc71 hi70 ?_
        refine X.goto (pc := 242) (off := 4) (tgt := 246) (by decide +kernel) rfl ?_
        have j0 := Option.some.inj h
        subst j0
        exact hj68
set_option maxRecDepth 100000 in
noncomputable def f_Mod_moor (g : Nat) (S : MS) (R : MR) (I : MI) (t : Nat) : Option (Int32 × MI) :=
  lt (wI I t 0 0) fun (I1 : MI) =>
  bnd2 (f_Mod_begins_I S I1 t 80) fun x2 I3 =>
  bnd5 (l_Mod_moor_24 g S R t g I3 0 0 0 1 1) fun x52 x53 x54 x55 I56 =>
  ifb (x55 = 0)
    (lt ((-1) - (I56 t 18)) fun (x59 : Int32) =>
    some (x59, I56))
    (ifb ((I56 t 19) ≤ (I56 t 18))
      (lt (wI I56 t 3 x53) fun (I61 : MI) =>
      lt (wI I61 t 4 x54) fun (I62 : MI) =>
      bnd1 (l_Mod_moor_216 S R t x52 g I62 0) fun I75 =>
      lt ((I75 t 6) + 1) fun (x77 : Int32) =>
      lt (wI I75 t 6 x77) fun (I78 : MI) =>
      bnd2 (f_Mod_clearsTracks g S R I78 t) fun x79 I80 =>
      lt (wI I80 t 42 0) fun (I82 : MI) =>
      bnd1 (f_Mod_begins_II S I82 t 0 0) fun I83 =>
      some (x52, I83))
      (lt ((-1) - (I56 t 18)) fun (x85 : Int32) =>
      some (x85, I56)))
set_option maxRecDepth 100000 in
set_option maxHeartbeats 4000000 in
theorem c_Mod_moor {E : Env} (hE : OKE E) {tg : Bool} {d : Nat} (hd : 5 ≤ d) {g : Nat} {S : MS} {I : MI} {L : ML} {R : MR} {n : Nat} {t : Nat} {v : Int32} {I' : MI} (hS : (S t).1 = 12) (h : f_Mod_moor g S R I t = some (v, I')) : C E y_Mod_moor b_Mod_moor 8 (some .int) tg d 0 0 [.ref (e_b E + t)] S I L R n (Kq (some (.int v)) S I' L R n) := by
  refine C.of (o := [some (.ref (e_b E + t)), none, none, none, none, none, none, none]) (by decide) rfl (Nat.le_of_ble_eq_true rfl) ?_
  rw [f_Mod_moor] at h
  refine X.aload_0 (pc := 0) (by decide +kernel) ?_
  refine X.iconst (pc := 1) (i := 0) (v := 0) ic_0 (by decide +kernel) ?_
  refine X.putI (pc := 2) (k := 0) fw_Mod_3 (by decide +kernel) rfl rfl hS ?_
  refine X.nameMI (fun I1 hI1 => ?_)
  have h := lt_at hI1 h
  refine X.aload_0 (pc := 5) (by decide +kernel) ?_
  refine X.bipush (pc := 6) (i := 80) (v := 80) bp_80 (by decide +kernel) ?_
  obtain ⟨x2, I3, hv4, h⟩ := bnd2_some h
  refine X.callVi (pc := 8) (nc := 0) (ns := 0) (c_Mod_begins_I hE (dle hd (Nat.le_of_ble_eq_true rfl)) hS hv4) cv_Mod_181 (by decide +kernel) hS ⟨by decide, rfl⟩ (ddd hd (Nat.le_of_ble_eq_true rfl)) rfl (Nat.le_of_ble_eq_true rfl) rfl rfl ?_
  refine X.pop (pc := 11) (by decide +kernel) ?_
  refine X.iconst (pc := 12) (i := 0) (v := 0) ic_0 (by decide +kernel) ?_
  refine X.istore_1 (pc := 13) (by decide +kernel) (by decide) rfl ?_
  refine X.iconst (pc := 14) (i := 0) (v := 0) ic_0 (by decide +kernel) ?_
  refine X.istore_2 (pc := 15) (by decide +kernel) (by decide) rfl ?_
  refine X.iconst (pc := 16) (i := 0) (v := 0) ic_0 (by decide +kernel) ?_
  refine X.istore_3 (pc := 17) (by decide +kernel) (by decide) rfl ?_
  refine X.iconst (pc := 18) (i := 1) (v := 1) ic_1 (by decide +kernel) ?_
  refine X.istore_4 (pc := 19) (by decide +kernel) (by decide) rfl ?_
  refine X.iconst (pc := 21) (i := 1) (v := 1) ic_1 (by decide +kernel) ?_
  refine X.istore_5 (pc := 22) (by decide +kernel) (by decide) rfl ?_
  obtain ⟨x52, x53, x54, x55, I56, hv57, h⟩ := bnd5_some h
  refine xl_Mod_moor_24 hE hd hS hv57 ?_
  refine X.iload_4 (pc := 180) (by decide +kernel) ?_
  rcases ifb_some h with ⟨hq58, h⟩ | ⟨hq58, h⟩
  · refine X.if_eq_t (pc := 182) (off := 14) (tgt := 196) hq58 rfl (by decide +kernel) ?_
    refine X.iconst (pc := 196) (i := (-1)) (v := (-1)) ic_m1 (by decide +kernel) ?_
    refine X.aload_0 (pc := 197) (by decide +kernel) ?_
    refine X.getI (pc := 198) (k := 18) fw_Mod_162 (by decide +kernel) (fun _ => rfl) hS ?_
    refine X.isub (pc := 201) (by decide +kernel) ?_
    refine X.nameI (fun x59 hx59 => ?_)
    have h := lt_at hx59 h
    have j0 := Option.some.inj h
    obtain ⟨i0, j1⟩ := Prod.mk.inj j0
    subst i0
    subst j1
    exact X.ireturn (pc := 202) (by decide +kernel) ⟨_, rfl, rfl⟩ ⟨rfl, rfl, rfl, rfl, rfl, rfl⟩
  · refine X.if_eq_f (pc := 182) (off := 14) (tgt := 196) hq58 rfl (by decide +kernel) ?_
    refine X.aload_0 (pc := 185) (by decide +kernel) ?_
    refine X.getI (pc := 186) (k := 18) fw_Mod_162 (by decide +kernel) (fun _ => rfl) hS ?_
    refine X.aload_0 (pc := 189) (by decide +kernel) ?_
    refine X.getI (pc := 190) (k := 19) fw_Mod_169 (by decide +kernel) (fun _ => rfl) hS ?_
    rcases ifb_some h with ⟨hq60, h⟩ | ⟨hq60, h⟩
    · refine X.icmp_ge_t (pc := 193) (off := 10) (tgt := 203) hq60 rfl (by decide +kernel) ?_
      refine X.aload_0 (pc := 203) (by decide +kernel) ?_
      refine X.iload_2 (pc := 204) (by decide +kernel) ?_
      refine X.putI (pc := 205) (k := 3) fw_Mod_34 (by decide +kernel) rfl rfl hS ?_
      refine X.nameMI (fun I61 hI61 => ?_)
      have h := lt_at hI61 h
      refine X.aload_0 (pc := 208) (by decide +kernel) ?_
      refine X.iload_3 (pc := 209) (by decide +kernel) ?_
      refine X.putI (pc := 210) (k := 4) fw_Mod_37 (by decide +kernel) rfl rfl hS ?_
      refine X.nameMI (fun I62 hI62 => ?_)
      have h := lt_at hI62 h
      refine X.iconst (pc := 213) (i := 0) (v := 0) ic_0 (by decide +kernel) ?_
      refine X.istore_6 (pc := 214) (by decide +kernel) (by decide) rfl ?_
      obtain ⟨I75, hv76, h⟩ := bnd1_some h
      refine X.fgt (o' := [some (.ref (e_b E + t)), some (.int x52), none, none, none, none, some (.int 0), none]) ⟨rfl, ⟨rfl, ⟨rfl, trivial⟩⟩⟩ ?_
      refine xl_Mod_moor_216 hE hd hS hv76 ?_
      refine X.aload_0 (pc := 253) (by decide +kernel) ?_
      refine X.dupr (pc := 254) (by decide +kernel) ?_
      refine X.getI (pc := 255) (k := 6) fw_Mod_195 (by decide +kernel) (fun _ => rfl) hS ?_
      refine X.iconst (pc := 258) (i := 1) (v := 1) ic_1 (by decide +kernel) ?_
      refine X.iadd (pc := 259) (by decide +kernel) ?_
      refine X.nameI (fun x77 hx77 => ?_)
      have h := lt_at hx77 h
      refine X.putI (pc := 260) (k := 6) fw_Mod_195 (by decide +kernel) rfl rfl hS ?_
      refine X.nameMI (fun I78 hI78 => ?_)
      have h := lt_at hI78 h
      refine X.aload_0 (pc := 263) (by decide +kernel) ?_
      obtain ⟨x79, I80, hv81, h⟩ := bnd2_some h
      refine X.callVi (pc := 264) (nc := 0) (ns := 0) (c_Mod_clearsTracks hE (dle hd (Nat.le_of_ble_eq_true rfl)) hS hv81) cv_Mod_144 (by decide +kernel) hS ⟨by decide, rfl⟩ (ddd hd (Nat.le_of_ble_eq_true rfl)) rfl (Nat.le_of_ble_eq_true rfl) rfl rfl ?_
      refine X.pop (pc := 267) (by decide +kernel) ?_
      refine X.aload_0 (pc := 268) (by decide +kernel) ?_
      refine X.iconst (pc := 269) (i := 0) (v := 0) ic_0 (by decide +kernel) ?_
      refine X.putI (pc := 270) (k := 42) fw_Mod_198 (by decide +kernel) rfl rfl hS ?_
      refine X.nameMI (fun I82 hI82 => ?_)
      have h := lt_at hI82 h
      refine X.aload_0 (pc := 273) (by decide +kernel) ?_
      refine X.iconst (pc := 274) (i := 0) (v := 0) ic_0 (by decide +kernel) ?_
      refine X.iconst (pc := 275) (i := 0) (v := 0) ic_0 (by decide +kernel) ?_
      obtain ⟨I83, hv84, h⟩ := bnd1_some h
      refine X.callVv (pc := 276) (nc := 0) (ns := 0) (c_Mod_begins_II hE (dle hd (Nat.le_of_ble_eq_true rfl)) hS hv84) cv_Mod_201 (by decide +kernel) hS ⟨by decide, rfl⟩ (ddd hd (Nat.le_of_ble_eq_true rfl)) rfl (Nat.le_of_ble_eq_true rfl) rfl rfl ?_
      refine X.iload_1 (pc := 279) (by decide +kernel) ?_
      have j0 := Option.some.inj h
      obtain ⟨i0, j1⟩ := Prod.mk.inj j0
      subst i0
      subst j1
      exact X.ireturn (pc := 280) (by decide +kernel) ⟨_, rfl, rfl⟩ ⟨rfl, rfl, rfl, rfl, rfl, rfl⟩
    · refine X.icmp_ge_f (pc := 193) (off := 10) (tgt := 203) hq60 rfl (by decide +kernel) ?_
      refine X.iconst (pc := 196) (i := (-1)) (v := (-1)) ic_m1 (by decide +kernel) ?_
      refine X.aload_0 (pc := 197) (by decide +kernel) ?_
      refine X.getI (pc := 198) (k := 18) fw_Mod_162 (by decide +kernel) (fun _ => rfl) hS ?_
      refine X.isub (pc := 201) (by decide +kernel) ?_
      refine X.nameI (fun x85 hx85 => ?_)
      have h := lt_at hx85 h
      have j0 := Option.some.inj h
      obtain ⟨i0, j1⟩ := Prod.mk.inj j0
      subst i0
      subst j1
      exact X.ireturn (pc := 202) (by decide +kernel) ⟨_, rfl, rfl⟩ ⟨rfl, rfl, rfl, rfl, rfl, rfl⟩
set_option maxRecDepth 100000 in
noncomputable def f_Mod_isDigit (S : MS) (R : MR) (I : MI) (t : Nat) : Option Int32 :=
  bnd1 (ifb ((I t 19) ≤ (I t 18))
      (some 0)
      (bnd1 (R t 16) fun b5 =>
      lt (I t 18) fun (x6 : Int32) =>
      asrt ((S b5).1 = 20) <|
      asrt (vp_in x6 (S b5).2) <|
      bnd1 (f_Mod_in (Int32.toInt64 (I b5 (Int32.toNatClampNeg x6))) 48 57) fun x9 =>
      ifb (x9 = 0)
        (some 0)
        (some 1))) fun (y2 : Int32) =>
  asrt (y2 = 0 ∨ y2 = 1) <|
  some y2
set_option maxRecDepth 100000 in
set_option maxHeartbeats 4000000 in
theorem c_Mod_isDigit {E : Env} (hE : OKE E) {tg : Bool} {d : Nat} (hd : 1 ≤ d) {S : MS} {I : MI} {L : ML} {R : MR} {n : Nat} {t : Nat} {v : Int32} (hS : (S t).1 = 12) (h : f_Mod_isDigit S R I t = some v) : C E y_Mod_isDigit b_Mod_isDigit 1 (some .boolean) tg d 0 0 [.ref (e_b E + t)] S I L R n (Kq (some (.int v)) S I L R n) := by
  refine C.of (o := [some (.ref (e_b E + t))]) (by decide) rfl (Nat.le_of_ble_eq_true rfl) ?_
  rw [f_Mod_isDigit] at h
  refine X.aload_0 (pc := 0) (by decide +kernel) ?_
  refine X.getI (pc := 1) (k := 18) fw_Mod_162 (by decide +kernel) (fun _ => rfl) hS ?_
  refine X.aload_0 (pc := 4) (by decide +kernel) ?_
  refine X.getI (pc := 5) (k := 19) fw_Mod_169 (by decide +kernel) (fun _ => rfl) hS ?_
  obtain ⟨y2, hr3, h⟩ := bnd1_some h
  have hj4 : X E y_Mod_isDigit b_Mod_isDigit 1 (some .boolean) tg d 0 0 38 [none] [.int y2] S I L R n (Kq (some (.int v)) S I L R n) := by
    obtain ⟨hb12, h⟩ := asrt_some h
    have j0 := Option.some.inj h
    subst j0
    exact X.ireturn (pc := 38) (by decide +kernel) ⟨_, rfl, nz01 hb12⟩ ⟨rfl, rfl, rfl, rfl, rfl, rfl⟩
  have h := hr3
  rcases ifb_some h with ⟨hq1, h⟩ | ⟨hq1, h⟩
  · refine X.icmp_ge_t (pc := 8) (off := 29) (tgt := 37) hq1 rfl (by decide +kernel) ?_
    refine X.iconst (pc := 37) (i := 0) (v := 0) ic_0 (by decide +kernel) ?_
    have j0 := Option.some.inj h
    subst j0
    refine X.fgt (o' := [none]) trivial ?_
    exact hj4
  · refine X.icmp_ge_f (pc := 8) (off := 29) (tgt := 37) hq1 rfl (by decide +kernel) ?_
    refine X.aload_0 (pc := 11) (by decide +kernel) ?_
    obtain ⟨b5, hb5, h⟩ := bnd1_some h
    refine X.getR (pc := 12) (k := 16) fw_Mod_59 (by decide +kernel) (fun _ => rfl) hS hb5 ?_
    refine X.aload_0 (pc := 15) (by decide +kernel) ?_
    refine X.getI (pc := 16) (k := 18) fw_Mod_162 (by decide +kernel) (fun _ => rfl) hS ?_
    refine X.nameI (fun x6 hx6 => ?_)
    have h := lt_at hx6 h
    obtain ⟨hc8, h⟩ := asrt_some h
    obtain ⟨hi7, h⟩ := asrt_some h
    refine X.iaload (pc := 19) (by decide +kernel) hc8 hi7 ?_
    refine X.i2l (pc := 20) (by decide +kernel) ?_
    refine X.ldc2 (pc := 21) (x := 225) (v := 48) ld_Mod_225 (by decide +kernel) ?_
    refine X.ldc2 (pc := 24) (x := 227) (v := 57) ld_Mod_227 (by decide +kernel) ?_
    obtain ⟨x9, hv10, h⟩ := bnd1_some h
    refine X.callSi (pc := 27) (nc := 0) (ns := 0) (c_Mod_in hE (dle hd (Nat.le_of_ble_eq_true rfl)) hv10) cv_Mod_151 (by decide +kernel) (ddd hd (Nat.le_of_ble_eq_true rfl)) rfl (Nat.le_of_ble_eq_true rfl) rfl rfl ?_
    rcases ifb_some h with ⟨hq11, h⟩ | ⟨hq11, h⟩
    · refine X.if_eq_t (pc := 30) (off := 7) (tgt := 37) hq11 rfl (by decide +kernel) ?_
      refine X.iconst (pc := 37) (i := 0) (v := 0) ic_0 (by decide +kernel) ?_
      have j0 := Option.some.inj h
      subst j0
      refine X.fgt (o' := [none]) trivial ?_
      exact hj4
    · refine X.if_eq_f (pc := 30) (off := 7) (tgt := 37) hq11 rfl (by decide +kernel) ?_
      refine X.iconst (pc := 33) (i := 1) (v := 1) ic_1 (by decide +kernel) ?_
      refine X.goto (pc := 34) (off := 4) (tgt := 38) (by decide +kernel) rfl ?_
      have j0 := Option.some.inj h
      subst j0
      refine X.fgt (o' := [none]) trivial ?_
      exact hj4
