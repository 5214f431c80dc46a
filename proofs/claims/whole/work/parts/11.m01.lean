set_option maxRecDepth 100000 in
noncomputable def f_GWL_set (S : MS) (R : MR) (I : MI) (t : Nat) (p1 : Int32) (p2 : Int32) : Option (Int32 × MI) :=
  bnd2 (ifb (p1 = 0)
      (ifb (p2 < 0)
        (ifb (p1 = 1)
          (ifb (p2 < 0)
            (some ((-1), I))
            (ifb (10 < p2)
              (some ((-1), I))
              (lt (I t 6) fun (x10 : Int32) =>
              lt (wI I t 6 p2) fun (I11 : MI) =>
              some (x10, I11))))
          (some ((-1), I)))
        (ifb (9 < p2)
          (ifb (p1 = 1)
            (ifb (p2 < 0)
              (some ((-1), I))
              (ifb (10 < p2)
                (some ((-1), I))
                (lt (I t 6) fun (x16 : Int32) =>
                lt (wI I t 6 p2) fun (I17 : MI) =>
                some (x16, I17))))
            (some ((-1), I)))
          (bnd1 (R t 3) fun b18 =>
          asrt ((S b18).1 = 5) <|
          lt (I b18 2) fun (x20 : Int32) =>
          lt (wI I b18 2 p2) fun (I21 : MI) =>
          some (x20, I21))))
      (ifb (p1 = 1)
        (ifb (p2 < 0)
          (some ((-1), I))
          (ifb (10 < p2)
            (some ((-1), I))
            (lt (I t 6) fun (x25 : Int32) =>
            lt (wI I t 6 p2) fun (I26 : MI) =>
            some (x25, I26))))
        (some ((-1), I)))) fun (z2 : Int32) (I3 : MI) =>
  some (z2, I3)
set_option maxRecDepth 100000 in
set_option maxHeartbeats 4000000 in
theorem c_GWL_set {E : Env} (hE : OKE E) {tg : Bool} {d : Nat} (hd : 0 ≤ d) {S : MS} {I : MI} {L : ML} {R : MR} {n : Nat} {t : Nat} {p1 : Int32} {p2 : Int32} {v : Int32} {I' : MI} (hS : (S t).1 = 11) (h : f_GWL_set S R I t p1 p2 = some (v, I')) : C E y_GWL_set b_GWL_set 4 (some .int) tg d 0 0 [.ref (e_b E + t), .int p1, .int p2] S I L R n (Kq (some (.int v)) S I' L R n) := by
  refine C.of (o := [some (.ref (e_b E + t)), some (.int p1), some (.int p2), none]) (by decide) rfl (Nat.le_of_ble_eq_true rfl) ?_
  rw [f_GWL_set] at h
  refine X.iconst (pc := 0) (i := (-1)) (v := (-1)) ic_m1 (by decide +kernel) ?_
  refine X.istore_3 (pc := 1) (by decide +kernel) (by decide) rfl ?_
  refine X.iload_1 (pc := 2) (by decide +kernel) ?_
  obtain ⟨z2, I3, hr4, h⟩ := bnd2_some h
  have hj5 : X E y_GWL_set b_GWL_set 4 (some .int) tg d 0 0 60 [none, none, none, some (.int z2)] [] S I3 L R n (Kq (some (.int v)) S I' L R n) := by
    refine X.iload_3 (pc := 60) (by decide +kernel) ?_
    have j0 := Option.some.inj h
    obtain ⟨i0, j1⟩ := Prod.mk.inj j0
    subst i0
    subst j1
    exact X.ireturn (pc := 61) (by decide +kernel) ⟨_, rfl, rfl⟩ ⟨rfl, rfl, rfl, rfl, rfl, rfl⟩
  have h := hr4
  rcases ifb_some h with ⟨hq1, h⟩ | ⟨hq1, h⟩
  · refine X.if_ne_f (pc := 3) (off := 32) (tgt := 35) hq1 rfl (by decide +kernel) ?_
    refine X.iload_2 (pc := 6) (by decide +kernel) ?_
    rcases ifb_some h with ⟨hq6, h⟩ | ⟨hq6, h⟩
    · refine X.if_lt_t (pc := 7) (off := 28) (tgt := 35) hq6 rfl (by decide +kernel) ?_
      refine X.iload_1 (pc := 35) (by decide +kernel) ?_
      refine X.iconst (pc := 36) (i := 1) (v := 1) ic_1 (by decide +kernel) ?_
      rcases ifb_some h with ⟨hq7, h⟩ | ⟨hq7, h⟩
      · refine X.icmp_ne_f (pc := 37) (off := 23) (tgt := 60) hq7 rfl (by decide +kernel) ?_
        refine X.iload_2 (pc := 40) (by decide +kernel) ?_
        rcases ifb_some h with ⟨hq8, h⟩ | ⟨hq8, h⟩
        · refine X.if_lt_t (pc := 41) (off := 19) (tgt := 60) hq8 rfl (by decide +kernel) ?_
          have j0 := Option.some.inj h
          obtain ⟨i0, j1⟩ := Prod.mk.inj j0
          subst i0
          subst j1
          refine X.fgt (o' := [none, none, none, some (.int (-1))]) ⟨rfl, trivial⟩ ?_
          exact hj5
        · refine X.if_lt_f (pc := 41) (off := 19) (tgt := 60) hq8 rfl (by decide +kernel) ?_
          refine X.iload_2 (pc := 44) (by decide +kernel) ?_
          refine X.bipush (pc := 45) (i := 10) (v := 10) bp_10 (by decide +kernel) ?_
          rcases ifb_some h with ⟨hq9, h⟩ | ⟨hq9, h⟩
          · refine X.icmp_gt_t (pc := 47) (off := 13) (tgt := 60) hq9 rfl (by decide +kernel) ?_
            have j0 := Option.some.inj h
            obtain ⟨i0, j1⟩ := Prod.mk.inj j0
            subst i0
            subst j1
            refine X.fgt (o' := [none, none, none, some (.int (-1))]) ⟨rfl, trivial⟩ ?_
            exact hj5
          · refine X.icmp_gt_f (pc := 47) (off := 13) (tgt := 60) hq9 rfl (by decide +kernel) ?_
            refine X.aload_0 (pc := 50) (by decide +kernel) ?_
            refine X.getI (pc := 51) (k := 6) fw_GWL_30 (by decide +kernel) (fun _ => rfl) hS ?_
            refine X.nameI (fun x10 hx10 => ?_)
            have h := lt_at hx10 h
            refine X.istore_3 (pc := 54) (by decide +kernel) (by decide) rfl ?_
            refine X.aload_0 (pc := 55) (by decide +kernel) ?_
            refine X.iload_2 (pc := 56) (by decide +kernel) ?_
            refine X.putI (pc := 57) (k := 6) fw_GWL_30 (by decide +kernel) rfl rfl hS ?_
            refine X.nameMI (fun I11 hI11 => ?_)
            have h := lt_at hI11 h
            have j0 := Option.some.inj h
            obtain ⟨i0, j1⟩ := Prod.mk.inj j0
            subst i0
            subst j1
            refine X.fgt (o' := [none, none, none, some (.int x10)]) ⟨rfl, trivial⟩ ?_
            exact hj5
      · refine X.icmp_ne_t (pc := 37) (off := 23) (tgt := 60) hq7 rfl (by decide +kernel) ?_
        have j0 := Option.some.inj h
        obtain ⟨i0, j1⟩ := Prod.mk.inj j0
        subst i0
        subst j1
        refine X.fgt (o' := [none, none, none, some (.int (-1))]) ⟨rfl, trivial⟩ ?_
        exact hj5
    · refine X.if_lt_f (pc := 7) (off := 28) (tgt := 35) hq6 rfl (by decide +kernel) ?_
      refine X.iload_2 (pc := 10) (by decide +kernel) ?_
      refine X.bipush (pc := 11) (i := 9) (v := 9) bp_9 (by decide +kernel) ?_
      rcases ifb_some h with ⟨hq12, h⟩ | ⟨hq12, h⟩
      · refine X.icmp_gt_t (pc := 13) (off := 22) (tgt := 35) hq12 rfl (by decide +kernel) ?_
        refine X.iload_1 (pc := 35) (by decide +kernel) ?_
        refine X.iconst (pc := 36) (i := 1) (v := 1) ic_1 (by decide +kernel) ?_
        rcases ifb_some h with ⟨hq13, h⟩ | ⟨hq13, h⟩
        · refine X.icmp_ne_f (pc := 37) (off := 23) (tgt := 60) hq13 rfl (by decide +kernel) ?_
          refine X.iload_2 (pc := 40) (by decide +kernel) ?_
          rcases ifb_some h with ⟨hq14, h⟩ | ⟨hq14, h⟩
          · refine X.if_lt_t (pc := 41) (off := 19) (tgt := 60) hq14 rfl (by decide +kernel) ?_
            have j0 := Option.some.inj h
            obtain ⟨i0, j1⟩ := Prod.mk.inj j0
            subst i0
            subst j1
            refine X.fgt (o' := [none, none, none, some (.int (-1))]) ⟨rfl, trivial⟩ ?_
            exact hj5
          · refine X.if_lt_f (pc := 41) (off := 19) (tgt := 60) hq14 rfl (by decide +kernel) ?_
            refine X.iload_2 (pc := 44) (by decide +kernel) ?_
            refine X.bipush (pc := 45) (i := 10) (v := 10) bp_10 (by decide +kernel) ?_
            rcases ifb_some h with ⟨hq15, h⟩ | ⟨hq15, h⟩
            · refine X.icmp_gt_t (pc := 47) (off := 13) (tgt := 60) hq15 rfl (by decide +kernel) ?_
              have j0 := Option.some.inj h
              obtain ⟨i0, j1⟩ := Prod.mk.inj j0
              subst i0
              subst j1
              refine X.fgt (o' := [none, none, none, some (.int (-1))]) ⟨rfl, trivial⟩ ?_
              exact hj5
            · refine X.icmp_gt_f (pc := 47) (off := 13) (tgt := 60) hq15 rfl (by decide +kernel) ?_
              refine X.aload_0 (pc := 50) (by decide +kernel) ?_
              refine X.getI (pc := 51) (k := 6) fw_GWL_30 (by decide +kernel) (fun _ => rfl) hS ?_
              refine X.nameI (fun x16 hx16 => ?_)
              have h := lt_at hx16 h
              refine X.istore_3 (pc := 54) (by decide +kernel) (by decide) rfl ?_
              refine X.aload_0 (pc := 55) (by decide +kernel) ?_
              refine X.iload_2 (pc := 56) (by decide +kernel) ?_
              refine X.putI (pc := 57) (k := 6) fw_GWL_30 (by decide +kernel) rfl rfl hS ?_
              refine X.nameMI (fun I17 hI17 => ?_)
              have h := lt_at hI17 h
              have j0 := Option.some.inj h
              obtain ⟨i0, j1⟩ := Prod.mk.inj j0
              subst i0
              subst j1
              refine X.fgt (o' := [none, none, none, some (.int x16)]) ⟨rfl, trivial⟩ ?_
              exact hj5
        · refine X.icmp_ne_t (pc := 37) (off := 23) (tgt := 60) hq13 rfl (by decide +kernel) ?_
          have j0 := Option.some.inj h
          obtain ⟨i0, j1⟩ := Prod.mk.inj j0
          subst i0
          subst j1
          refine X.fgt (o' := [none, none, none, some (.int (-1))]) ⟨rfl, trivial⟩ ?_
          exact hj5
      · refine X.icmp_gt_f (pc := 13) (off := 22) (tgt := 35) hq12 rfl (by decide +kernel) ?_
        refine X.aload_0 (pc := 16) (by decide +kernel) ?_
        obtain ⟨b18, hb18, h⟩ := bnd1_some h
        refine X.getR (pc := 17) (k := 3) fw_GWL_87 (by decide +kernel) (fun _ => rfl) hS hb18 ?_
        obtain ⟨hc19, h⟩ := asrt_some h
        refine X.getI (pc := 20) (k := 2) fw_GWL_181 (by decide +kernel) (fun _ => rfl) hc19 ?_
        refine X.nameI (fun x20 hx20 => ?_)
        have h := lt_at hx20 h
        refine X.istore_3 (pc := 23) (by decide +kernel) (by decide) rfl ?_
        refine X.aload_0 (pc := 24) (by decide +kernel) ?_
        refine X.getR (pc := 25) (k := 3) fw_GWL_87 (by decide +kernel) (fun _ => rfl) hS hb18 ?_
        refine X.iload_2 (pc := 28) (by decide +kernel) ?_
        refine X.putI (pc := 29) (k := 2) fw_GWL_181 (by decide +kernel) rfl rfl hc19 ?_
        refine X.nameMI (fun I21 hI21 => ?_)
        have h := lt_at hI21 h
        refine X.goto (pc := 32) (off := 28) (tgt := 60) (by decide +kernel) rfl ?_
        have j0 := Option.some.inj h
        obtain ⟨i0, j1⟩ := Prod.mk.inj j0
        subst i0
        subst j1
        refine X.fgt (o' := [none, none, none, some (.int x20)]) ⟨rfl, trivial⟩ ?_
        exact hj5
  · refine X.if_ne_t (pc := 3) (off := 32) (tgt := 35) hq1 rfl (by decide +kernel) ?_
    refine X.iload_1 (pc := 35) (by decide +kernel) ?_
    refine X.iconst (pc := 36) (i := 1) (v := 1) ic_1 (by decide +kernel) ?_
    rcases ifb_some h with ⟨hq22, h⟩ | ⟨hq22, h⟩
    · refine X.icmp_ne_f (pc := 37) (off := 23) (tgt := 60) hq22 rfl (by decide +kernel) ?_
      refine X.iload_2 (pc := 40) (by decide +kernel) ?_
      rcases ifb_some h with ⟨hq23, h⟩ | ⟨hq23, h⟩
      · refine X.if_lt_t (pc := 41) (off := 19) (tgt := 60) hq23 rfl (by decide +kernel) ?_
        have j0 := Option.some.inj h
        obtain ⟨i0, j1⟩ := Prod.mk.inj j0
        subst i0
        subst j1
        refine X.fgt (o' := [none, none, none, some (.int (-1))]) ⟨rfl, trivial⟩ ?_
        exact hj5
      · refine X.if_lt_f (pc := 41) (off := 19) (tgt := 60) hq23 rfl (by decide +kernel) ?_
        refine X.iload_2 (pc := 44) (by decide +kernel) ?_
        refine X.bipush (pc := 45) (i := 10) (v := 10) bp_10 (by decide +kernel) ?_
        rcases ifb_some h with ⟨hq24, h⟩ | ⟨hq24, h⟩
        · refine X.icmp_gt_t (pc := 47) (off := 13) (tgt := 60) hq24 rfl (by decide +kernel) ?_
          have j0 := Option.some.inj h
          obtain ⟨i0, j1⟩ := Prod.mk.inj j0
          subst i0
          subst j1
          refine X.fgt (o' := [none, none, none, some (.int (-1))]) ⟨rfl, trivial⟩ ?_
          exact hj5
        · refine X.icmp_gt_f (pc := 47) (off := 13) (tgt := 60) hq24 rfl (by decide +kernel) ?_
          refine X.aload_0 (pc := 50) (by decide +kernel) ?_
          refine X.getI (pc := 51) (k := 6) fw_GWL_30 (by decide +kernel) (fun _ => rfl) hS ?_
          refine X.nameI (fun x25 hx25 => ?_)
          have h := lt_at hx25 h
          refine X.istore_3 (pc := 54) (by decide +kernel) (by decide) rfl ?_
          refine X.aload_0 (pc := 55) (by decide +kernel) ?_
          refine X.iload_2 (pc := 56) (by decide +kernel) ?_
          refine X.putI (pc := 57) (k := 6) fw_GWL_30 (by decide +kernel) rfl rfl hS ?_
          refine X.nameMI (fun I26 hI26 => ?_)
          have h := lt_at hI26 h
          have j0 := Option.some.inj h
          obtain ⟨i0, j1⟩ := Prod.mk.inj j0
          subst i0
          subst j1
          refine X.fgt (o' := [none, none, none, some (.int x25)]) ⟨rfl, trivial⟩ ?_
          exact hj5
    · refine X.icmp_ne_t (pc := 37) (off := 23) (tgt := 60) hq22 rfl (by decide +kernel) ?_
      have j0 := Option.some.inj h
      obtain ⟨i0, j1⟩ := Prod.mk.inj j0
      subst i0
      subst j1
      refine X.fgt (o' := [none, none, none, some (.int (-1))]) ⟨rfl, trivial⟩ ?_
      exact hj5
set_option maxRecDepth 100000 in
noncomputable def l_Land_spreadOut_9 (S : MS) (R : MR) (v0 : Nat) (v1 : Int32) (v3 : Int32) (v4 : Int32) : Nat → MI → Int32 → Int32 → Int32 → Option (Int32 × MI)
  | 0, _, _, _, _ => none
  | f + 1, I, v5, v6, v7 =>
    ifb (((I v0 0) * (I v0 1)) ≤ v7)
      (some (v5, I))
      (ifb (36 ≤ v7)
        (some (v5, I))
        (bnd1 (ifb (v7 = v4)
            (some I)
            (bnd1 (R v0 2) fun b7 =>
            bnd1 (ifb (v1 ≤ v7)
                (some 0)
                (some (v6 &&& 3))) fun (y9 : Int32) =>
            asrt ((S b7).1 = 20) <|
            asrt (vp_in v7 (S b7).2) <|
            lt (wI I b7 (Int32.toNatClampNeg v7) y9) fun (I14 : MI) =>
            some I14)) fun (I4 : MI) =>
        lt (v6 + v3) fun (x15 : Int32) =>
        bnd1 (R v0 2) fun b16 =>
        asrt ((S b16).1 = 20) <|
        asrt (vp_in v7 (S b16).2) <|
        bnd1 (ifb ((I4 b16 (Int32.toNatClampNeg v7)) = 0)
            (some 0)
            (some 1)) fun (y20 : Int32) =>
        lt (v5 + y20) fun (x23 : Int32) =>
        l_Land_spreadOut_9 S R v0 v1 v3 v4 f I4 x23 x15 (v7 + 1)))
set_option maxRecDepth 100000 in
set_option maxHeartbeats 4000000 in
theorem xl_Land_spreadOut_9 {E : Env} (hE : OKE E) {tg : Bool} {d : Nat} (hd : 3 ≤ d) {S : MS} {L : ML} {R : MR} {n : Nat} {v0 : Nat} {v1 : Int32} {v3 : Int32} {v4 : Int32} {K : KT} :
    ∀ {f : Nat} {I : MI} {v5 : Int32} {v6 : Int32} {v7 : Int32} {o5 : Int32} {I' : MI}, (S v0).1 = 2 → l_Land_spreadOut_9 S R v0 v1 v3 v4 f I v5 v6 v7 = some (o5, I') → X E y_Land_spreadOut b_Land_spreadOut 8 (some .int) tg d 0 0 90 [some (.ref (e_b E + v0)), none, none, none, none, some (.int o5), none, none] [] S I' L R n K → X E y_Land_spreadOut b_Land_spreadOut 8 (some .int) tg d 0 0 9 [some (.ref (e_b E + v0)), some (.int v1), none, some (.int v3), some (.int v4), some (.int v5), some (.int v6), some (.int v7)] [] S I L R n K := by
  intro f
  induction f with
  | zero =>
    intro I v5 v6 v7 o5 I' hS h hk
    rw [l_Land_spreadOut_9] at h
    cases h
  | succ f ih =>
    intro I v5 v6 v7 o5 I' hS h hk
    rw [l_Land_spreadOut_9] at h
    refine X.iload_7 (pc := 9) (by decide +kernel) ?_
    refine X.aload_0 (pc := 11) (by decide +kernel) ?_
    refine X.getI (pc := 12) (k := 0) fw_Land_9 (by decide +kernel) (fun _ => rfl) hS ?_
    refine X.aload_0 (pc := 15) (by decide +kernel) ?_
    refine X.getI (pc := 16) (k := 1) fw_Land_15 (by decide +kernel) (fun _ => rfl) hS ?_
    refine X.imul (pc := 19) (by decide +kernel) ?_
    rcases ifb_some h with ⟨hq1, h⟩ | ⟨hq1, h⟩
    · refine X.icmp_ge_t (pc := 20) (off := 70) (tgt := 90) hq1 rfl (by decide +kernel) ?_
      have j0 := Option.some.inj h
      obtain ⟨i0, j1⟩ := Prod.mk.inj j0
      subst i0
      subst j1
      refine X.fgt (o' := [some (.ref (e_b E + v0)), none, none, none, none, some (.int v5), none, none]) ⟨rfl, ⟨rfl, trivial⟩⟩ ?_
      exact hk
    · refine X.icmp_ge_f (pc := 20) (off := 70) (tgt := 90) hq1 rfl (by decide +kernel) ?_
      refine X.iload_7 (pc := 23) (by decide +kernel) ?_
      refine X.bipush (pc := 25) (i := 36) (v := 36) bp_36 (by decide +kernel) ?_
      rcases ifb_some h with ⟨hq2, h⟩ | ⟨hq2, h⟩
      · refine X.icmp_ge_t (pc := 27) (off := 63) (tgt := 90) hq2 rfl (by decide +kernel) ?_
        have j0 := Option.some.inj h
        obtain ⟨i0, j1⟩ := Prod.mk.inj j0
        subst i0
        subst j1
        refine X.fgt (o' := [some (.ref (e_b E + v0)), none, none, none, none, some (.int v5), none, none]) ⟨rfl, ⟨rfl, trivial⟩⟩ ?_
        exact hk
      · refine X.icmp_ge_f (pc := 27) (off := 63) (tgt := 90) hq2 rfl (by decide +kernel) ?_
        refine X.iload_7 (pc := 30) (by decide +kernel) ?_
        refine X.iload_4 (pc := 32) (by decide +kernel) ?_
        obtain ⟨I4, hr5, h⟩ := bnd1_some h
        have hj6 : X E y_Land_spreadOut b_Land_spreadOut 8 (some .int) tg d 0 0 58 [some (.ref (e_b E + v0)), some (.int v1), none, some (.int v3), some (.int v4), some (.int v5), some (.int v6), some (.int v7)] [] S I4 L R n K := by
          refine X.iload_6 (pc := 58) (by decide +kernel) ?_
          refine X.iload_3 (pc := 60) (by decide +kernel) ?_
          refine X.iadd (pc := 61) (by decide +kernel) ?_
          refine X.nameI (fun x15 hx15 => ?_)
          have h := lt_at hx15 h
          refine X.istore_6 (pc := 62) (by decide +kernel) (by decide) rfl ?_
          refine X.iload_5 (pc := 64) (by decide +kernel) ?_
          refine X.aload_0 (pc := 66) (by decide +kernel) ?_
          obtain ⟨b16, hb16, h⟩ := bnd1_some h
          refine X.getR (pc := 67) (k := 2) fw_Land_18 (by decide +kernel) (fun _ => rfl) hS hb16 ?_
          refine X.iload_7 (pc := 70) (by decide +kernel) ?_
          obtain ⟨hc18, h⟩ := asrt_some h
          obtain ⟨hi17, h⟩ := asrt_some h
          refine X.iaload (pc := 72) (by decide +kernel) hc18 hi17 ?_
          obtain ⟨y20, hr21, h⟩ := bnd1_some h
          have hj22 : X E y_Land_spreadOut b_Land_spreadOut 8 (some .int) tg d 0 0 81 [some (.ref (e_b E + v0)), some (.int v1), none, some (.int v3), some (.int v4), none, some (.int x15), some (.int v7)] [.int y20, .int v5] S I4 L R n K := by
            refine X.iadd (pc := 81) (by decide +kernel) ?_
            refine X.nameI (fun x23 hx23 => ?_)
            have h := lt_at hx23 h
            refine X.istore_5 (pc := 82) (by decide +kernel) (by decide) rfl ?_
            refine X.iinc_7 (pc := 84) (z := 1) (v := 1) ic_1 (by decide +kernel) (by decide) rfl ?_
            refine X.goto (pc := 87) (off := (-78)) (tgt := 9) (by decide +kernel) rfl ?_
            exact ih hS h hk
          have h := hr21
          rcases ifb_some h with ⟨hq19, h⟩ | ⟨hq19, h⟩
          · refine X.if_ne_f (pc := 73) (off := 7) (tgt := 80) hq19 rfl (by decide +kernel) ?_
            refine X.iconst (pc := 76) (i := 0) (v := 0) ic_0 (by decide +kernel) ?_
            refine X.goto (pc := 77) (off := 4) (tgt := 81) (by decide +kernel) rfl ?_
            have j0 := Option.some.inj h
            subst j0
            refine X.fgt (o' := [some (.ref (e_b E + v0)), some (.int v1), none, some (.int v3), some (.int v4), none, some (.int x15), some (.int v7)]) ⟨rfl, ⟨rfl, ⟨rfl, ⟨rfl, ⟨rfl, ⟨rfl, trivial⟩⟩⟩⟩⟩⟩ ?_
            exact hj22
          · refine X.if_ne_t (pc := 73) (off := 7) (tgt := 80) hq19 rfl (by decide +kernel) ?_
            refine X.iconst (pc := 80) (i := 1) (v := 1) ic_1 (by decide +kernel) ?_
            have j0 := Option.some.inj h
            subst j0
            refine X.fgt (o' := [some (.ref (e_b E + v0)), some (.int v1), none, some (.int v3), some (.int v4), none, some (.int x15), some (.int v7)]) ⟨rfl, ⟨rfl, ⟨rfl, ⟨rfl, ⟨rfl, ⟨rfl, trivial⟩⟩⟩⟩⟩⟩ ?_
            exact hj22
        have h := hr5
        rcases ifb_some h with ⟨hq3, h⟩ | ⟨hq3, h⟩
        · refine X.icmp_eq_t (pc := 34) (off := 24) (tgt := 58) hq3 rfl (by decide +kernel) ?_
          have j0 := Option.some.inj h
          subst j0
          exact hj6
        · refine X.icmp_eq_f (pc := 34) (off := 24) (tgt := 58) hq3 rfl (by decide +kernel) ?_
          refine X.aload_0 (pc := 37) (by decide +kernel) ?_
          obtain ⟨b7, hb7, h⟩ := bnd1_some h
          refine X.getR (pc := 38) (k := 2) fw_Land_18 (by decide +kernel) (fun _ => rfl) hS hb7 ?_
          refine X.iload_7 (pc := 41) (by decide +kernel) ?_
          refine X.iload_7 (pc := 43) (by decide +kernel) ?_
          refine X.iload_1 (pc := 45) (by decide +kernel) ?_
          obtain ⟨y9, hr10, h⟩ := bnd1_some h
          have hj11 : X E y_Land_spreadOut b_Land_spreadOut 8 (some .int) tg d 0 0 57 [some (.ref (e_b E + v0)), some (.int v1), none, some (.int v3), some (.int v4), some (.int v5), some (.int v6), some (.int v7)] [.int y9, .int v7, .ref (e_b E + b7)] S I L R n K := by
            obtain ⟨hc12, h⟩ := asrt_some h
            obtain ⟨hi13, h⟩ := asrt_some h
            refine X.iastore (pc := 57) (by decide +kernel) hc12 hi13 ?_
            refine X.nameMI (fun I14 hI14 => ?_)
            have h := lt_at hI14 h
            have j0 := Option.some.inj h
            subst j0
            exact hj6
          have h := hr10
          rcases ifb_some h with ⟨hq8, h⟩ | ⟨hq8, h⟩
          · refine X.icmp_ge_t (pc := 46) (off := 10) (tgt := 56) hq8 rfl (by decide +kernel) ?_
            refine X.iconst (pc := 56) (i := 0) (v := 0) ic_0 (by decide +kernel) ?_
            have j0 := Option.some.inj h
            subst j0
            exact hj11
          · refine X.icmp_ge_f (pc := 46) (off := 10) (tgt := 56) hq8 rfl (by decide +kernel) ?_
            refine X.iload_6 (pc := 49) (by decide +kernel) ?_
            refine X.iconst (pc := 51) (i := 3) (v := 3) ic_3 (by decide +kernel) ?_
            refine X.iand (pc := 52) (by decide +kernel) ?_
            refine X.goto (pc := 53) (off := 4) (tgt := 57) (by decide +kernel) rfl ?_
            have j0 := Option.some.inj h
            subst j0
            exact hj11
set_option maxRecDepth 100000 in
noncomputable def f_Land_spreadOut (g : Nat) (S : MS) (R : MR) (I : MI) (t : Nat) (p1 : Int32) (p2 : Int32) (p3 : Int32) (p4 : Int32) : Option (Int32 × MI) :=
  bnd2 (l_Land_spreadOut_9 S R t p1 p3 p4 g I 0 p2 0) fun x24 I25 =>
  bnd1 (f_Land_survey g S R I25 t) fun I27 =>
  some (x24, I27)
set_option maxRecDepth 100000 in
set_option maxHeartbeats 4000000 in
theorem c_Land_spreadOut {E : Env} (hE : OKE E) {tg : Bool} {d : Nat} (hd : 3 ≤ d) {g : Nat} {S : MS} {I : MI} {L : ML} {R : MR} {n : Nat} {t : Nat} {p1 : Int32} {p2 : Int32} {p3 : Int32} {p4 : Int32} {v : Int32} {I' : MI} (hS : (S t).1 = 2) (h : f_Land_spreadOut g S R I t p1 p2 p3 p4 = some (v, I')) : C E y_Land_spreadOut b_Land_spreadOut 8 (some .int) tg d 0 0 [.ref (e_b E + t), .int p1, .int p2, .int p3, .int p4] S I L R n (Kq (some (.int v)) S I' L R n) := by
  refine C.of (o := [some (.ref (e_b E + t)), some (.int p1), some (.int p2), some (.int p3), some (.int p4), none, none, none]) (by decide) rfl (Nat.le_of_ble_eq_true rfl) ?_
  rw [f_Land_spreadOut] at h
  refine X.iconst (pc := 0) (i := 0) (v := 0) ic_0 (by decide +kernel) ?_
  refine X.istore_5 (pc := 1) (by decide +kernel) (by decide) rfl ?_
  refine X.iload_2 (pc := 3) (by decide +kernel) ?_
  refine X.istore_6 (pc := 4) (by decide +kernel) (by decide) rfl ?_
  refine X.iconst (pc := 6) (i := 0) (v := 0) ic_0 (by decide +kernel) ?_
  refine X.istore_7 (pc := 7) (by decide +kernel) (by decide) rfl ?_
  obtain ⟨x24, I25, hv26, h⟩ := bnd2_some h
  refine X.fgt (o' := [some (.ref (e_b E + t)), some (.int p1), none, some (.int p3), some (.int p4), some (.int 0), some (.int p2), some (.int 0)]) ⟨rfl, ⟨rfl, ⟨rfl, ⟨rfl, ⟨rfl, ⟨rfl, ⟨rfl, trivial⟩⟩⟩⟩⟩⟩⟩ ?_
  refine xl_Land_spreadOut_9 hE hd hS hv26 ?_
  refine X.aload_0 (pc := 90) (by decide +kernel) ?_
  obtain ⟨I27, hv28, h⟩ := bnd1_some h
  refine X.callVv (pc := 91) (nc := 0) (ns := 0) (c_Land_survey hE (dle hd (Nat.le_of_ble_eq_true rfl)) hS hv28) cv_Land_32 (by decide +kernel) hS ⟨by decide, rfl⟩ (ddd hd (Nat.le_of_ble_eq_true rfl)) rfl (Nat.le_of_ble_eq_true rfl) rfl rfl ?_
  refine X.iload_5 (pc := 94) (by decide +kernel) ?_
  have j0 := Option.some.inj h
  obtain ⟨i0, j1⟩ := Prod.mk.inj j0
  subst i0
  subst j1
  exact X.ireturn (pc := 96) (by decide +kernel) ⟨_, rfl, rfl⟩ ⟨rfl, rfl, rfl, rfl, rfl, rfl⟩
set_option maxRecDepth 100000 in
noncomputable def f_GWL_sheet (g : Nat) (S : MS) (R : MR) (I : MI) (t : Nat) (p1 : Int32) (p2 : Int32) (p3 : Int32) (p4 : Int32) : Option (Int32 × MI) :=
  ifb (p1 < 0)
    (some ((-1), I))
    (ifb (3 < p1)
      (some ((-1), I))
      (ifb (p2 ≤ 36)
        (bnd1 (ifb (p1 = 3)
            (some 1)
            (some 0)) fun (y5 : Int32) =>
        ifb (y5 = 0)
          (ifb (0 ≤ p2)
            (bnd1 (R t 4) fun b10 =>
            asrt ((S b10).1 = 6) <|
            bnd1 (f_Past_forget S I b10) fun I12 =>
            bnd1 (R t 2) fun b14 =>
            bnd1 (ifb (y5 = 0)
                (some p2)
                (some 0)) fun (y16 : Int32) =>
            bnd1 (R t 3) fun b19 =>
            asrt ((S b19).1 = 5) <|
            asrt ((S b14).1 = 2) <|
            bnd2 (f_Land_spreadOut g S R I12 b14 y16 p3 p4 (I12 b19 0)) fun x22 I23 =>
            bnd1 (ifb (y5 = 0)
                (some x22)
                (some (-3))) fun (y26 : Int32) =>
            some (y26, I23))
            (some ((-2), I)))
          (bnd1 (R t 4) fun b29 =>
          asrt ((S b29).1 = 6) <|
          bnd1 (f_Past_forget S I b29) fun I31 =>
          bnd1 (R t 2) fun b33 =>
          bnd1 (ifb (y5 = 0)
              (some p2)
              (some 0)) fun (y35 : Int32) =>
          bnd1 (R t 3) fun b38 =>
          asrt ((S b38).1 = 5) <|
          asrt ((S b33).1 = 2) <|
          bnd2 (f_Land_spreadOut g S R I31 b33 y35 p3 p4 (I31 b38 0)) fun x41 I42 =>
          bnd1 (ifb (y5 = 0)
              (some x41)
              (some (-3))) fun (y45 : Int32) =>
          some (y45, I42)))
        (some ((-1), I))))
set_option maxRecDepth 100000 in
set_option maxHeartbeats 4000000 in
theorem c_GWL_sheet {E : Env} (hE : OKE E) {tg : Bool} {d : Nat} (hd : 4 ≤ d) {g : Nat} {S : MS} {I : MI} {L : ML} {R : MR} {n : Nat} {t : Nat} {p1 : Int32} {p2 : Int32} {p3 : Int32} {p4 : Int32} {v : Int32} {I' : MI} (hS : (S t).1 = 11) (h : f_GWL_sheet g S R I t p1 p2 p3 p4 = some (v, I')) : C E y_GWL_sheet b_GWL_sheet 7 (some .int) tg d 0 0 [.ref (e_b E + t), .int p1, .int p2, .int p3, .int p4] S I L R n (Kq (some (.int v)) S I' L R n) := by
  refine C.of (o := [some (.ref (e_b E + t)), some (.int p1), some (.int p2), some (.int p3), some (.int p4), none, none]) (by decide) rfl (Nat.le_of_ble_eq_true rfl) ?_
  rw [f_GWL_sheet] at h
  refine X.iload_1 (pc := 0) (by decide +kernel) ?_
  rcases ifb_some h with ⟨hq1, h⟩ | ⟨hq1, h⟩
  · refine X.if_lt_t (pc := 1) (off := 14) (tgt := 15) hq1 rfl (by decide +kernel) ?_
    refine X.iconst (pc := 15) (i := (-1)) (v := (-1)) ic_m1 (by decide +kernel) ?_
    have j0 := Option.some.inj h
    obtain ⟨i0, j1⟩ := Prod.mk.inj j0
    subst i0
    subst j1
    exact X.ireturn (pc := 16) (by decide +kernel) ⟨_, rfl, rfl⟩ ⟨rfl, rfl, rfl, rfl, rfl, rfl⟩
  · refine X.if_lt_f (pc := 1) (off := 14) (tgt := 15) hq1 rfl (by decide +kernel) ?_
    refine X.iload_1 (pc := 4) (by decide +kernel) ?_
    refine X.iconst (pc := 5) (i := 3) (v := 3) ic_3 (by decide +kernel) ?_
    rcases ifb_some h with ⟨hq2, h⟩ | ⟨hq2, h⟩
    · refine X.icmp_gt_t (pc := 6) (off := 9) (tgt := 15) hq2 rfl (by decide +kernel) ?_
      refine X.iconst (pc := 15) (i := (-1)) (v := (-1)) ic_m1 (by decide +kernel) ?_
      have j0 := Option.some.inj h
      obtain ⟨i0, j1⟩ := Prod.mk.inj j0
      subst i0
      subst j1
      exact X.ireturn (pc := 16) (by decide +kernel) ⟨_, rfl, rfl⟩ ⟨rfl, rfl, rfl, rfl, rfl, rfl⟩
    · refine X.icmp_gt_f (pc := 6) (off := 9) (tgt := 15) hq2 rfl (by decide +kernel) ?_
      refine X.iload_2 (pc := 9) (by decide +kernel) ?_
      refine X.bipush (pc := 10) (i := 36) (v := 36) bp_36 (by decide +kernel) ?_
      rcases ifb_some h with ⟨hq3, h⟩ | ⟨hq3, h⟩
      · refine X.icmp_le_t (pc := 12) (off := 5) (tgt := 17) hq3 rfl (by decide +kernel) ?_
        refine X.iload_1 (pc := 17) (by decide +kernel) ?_
        refine X.iconst (pc := 18) (i := 3) (v := 3) ic_3 (by decide +kernel) ?_
        obtain ⟨y5, hr6, h⟩ := bnd1_some h
        have hj7 : X E y_GWL_sheet b_GWL_sheet 7 (some .int) tg d 0 0 27 [some (.ref (e_b E + t)), none, some (.int p2), some (.int p3), some (.int p4), none, none] [.int y5] S I L R n (Kq (some (.int v)) S I' L R n) := by
          refine X.istore_5 (pc := 27) (by decide +kernel) (by decide) rfl ?_
          refine X.iload_5 (pc := 29) (by decide +kernel) ?_
          rcases ifb_some h with ⟨hq8, h⟩ | ⟨hq8, h⟩
          · refine X.if_ne_f (pc := 31) (off := 10) (tgt := 41) hq8 rfl (by decide +kernel) ?_
            refine X.iload_2 (pc := 34) (by decide +kernel) ?_
            rcases ifb_some h with ⟨hq9, h⟩ | ⟨hq9, h⟩
            · refine X.if_ge_t (pc := 35) (off := 6) (tgt := 41) hq9 rfl (by decide +kernel) ?_
              refine X.aload_0 (pc := 41) (by decide +kernel) ?_
              obtain ⟨b10, hb10, h⟩ := bnd1_some h
              refine X.getR (pc := 42) (k := 4) fw_GWL_26 (by decide +kernel) (fun _ => rfl) hS hb10 ?_
              obtain ⟨hc11, h⟩ := asrt_some h
              obtain ⟨I12, hv13, h⟩ := bnd1_some h
              refine X.callVv (pc := 45) (nc := 0) (ns := 0) (c_Past_forget hE (dle hd (Nat.le_of_ble_eq_true rfl)) hc11 hv13) cv_GWL_148 (by decide +kernel) hc11 ⟨by decide, rfl⟩ (ddd hd (Nat.le_of_ble_eq_true rfl)) rfl (Nat.le_of_ble_eq_true rfl) rfl rfl ?_
              refine X.aload_0 (pc := 48) (by decide +kernel) ?_
              obtain ⟨b14, hb14, h⟩ := bnd1_some h
              refine X.getR (pc := 49) (k := 2) fw_GWL_83 (by decide +kernel) (fun _ => rfl) hS hb14 ?_
              refine X.iload_5 (pc := 52) (by decide +kernel) ?_
              obtain ⟨y16, hr17, h⟩ := bnd1_some h
              have hj18 : X E y_GWL_sheet b_GWL_sheet 7 (some .int) tg d 0 0 62 [some (.ref (e_b E + t)), none, none, some (.int p3), some (.int p4), some (.int y5), none] [.int y16, .ref (e_b E + b14)] S I12 L R n (Kq (some (.int v)) S I' L R n) := by
                refine X.iload_3 (pc := 62) (by decide +kernel) ?_
                refine X.iload_4 (pc := 63) (by decide +kernel) ?_
                refine X.aload_0 (pc := 65) (by decide +kernel) ?_
                obtain ⟨b19, hb19, h⟩ := bnd1_some h
                refine X.getR (pc := 66) (k := 3) fw_GWL_87 (by decide +kernel) (fun _ => rfl) hS hb19 ?_
                obtain ⟨hc20, h⟩ := asrt_some h
                refine X.getI (pc := 69) (k := 0) fw_GWL_175 (by decide +kernel) (fun _ => rfl) hc20 ?_
                obtain ⟨hc21, h⟩ := asrt_some h
                obtain ⟨x22, I23, hv24, h⟩ := bnd2_some h
                refine X.callVi (pc := 72) (nc := 0) (ns := 0) (c_Land_spreadOut hE (dle hd (Nat.le_of_ble_eq_true rfl)) hc21 hv24) cv_GWL_184 (by decide +kernel) hc21 ⟨by decide, rfl⟩ (ddd hd (Nat.le_of_ble_eq_true rfl)) rfl (Nat.le_of_ble_eq_true rfl) rfl rfl ?_
                refine X.istore_6 (pc := 75) (by decide +kernel) (by decide) rfl ?_
                refine X.iload_5 (pc := 77) (by decide +kernel) ?_
                obtain ⟨y26, hr27, h⟩ := bnd1_some h
                have hj28 : X E y_GWL_sheet b_GWL_sheet 7 (some .int) tg d 0 0 89 [none, none, none, none, none, none, none] [.int y26] S I23 L R n (Kq (some (.int v)) S I' L R n) := by
                  have j0 := Option.some.inj h
                  obtain ⟨i0, j1⟩ := Prod.mk.inj j0
                  subst i0
                  subst j1
                  exact X.ireturn (pc := 89) (by decide +kernel) ⟨_, rfl, rfl⟩ ⟨rfl, rfl, rfl, rfl, rfl, rfl⟩
                have h := hr27
                rcases ifb_some h with ⟨hq25, h⟩ | ⟨hq25, h⟩
                · refine X.if_eq_t (pc := 79) (off := 8) (tgt := 87) hq25 rfl (by decide +kernel) ?_
                  refine X.iload_6 (pc := 87) (by decide +kernel) ?_
                  have j0 := Option.some.inj h
                  subst j0
                  refine X.fgt (o' := [none, none, none, none, none, none, none]) trivial ?_
                  exact hj28
                · refine X.if_eq_f (pc := 79) (off := 8) (tgt := 87) hq25 rfl (by decide +kernel) ?_
                  refine X.bipush (pc := 82) (i := (-3)) (v := (-3)) bp_m3 (by decide +kernel) ?_
                  refine X.goto (pc := 84) (off := 5) (tgt := 89) (by decide +kernel) rfl ?_
                  have j0 := Option.some.inj h
                  subst j0
                  refine X.fgt (o' := [none, none, none, none, none, none, none]) trivial ?_
                  exact hj28
              have h := hr17
              rcases ifb_some h with ⟨hq15, h⟩ | ⟨hq15, h⟩
              · refine X.if_eq_t (pc := 54) (off := 7) (tgt := 61) hq15 rfl (by decide +kernel) ?_
                refine X.iload_2 (pc := 61) (by decide +kernel) ?_
                have j0 := Option.some.inj h
                subst j0
                refine X.fgt (o' := [some (.ref (e_b E + t)), none, none, some (.int p3), some (.int p4), some (.int y5), none]) ⟨rfl, ⟨rfl, ⟨rfl, ⟨rfl, trivial⟩⟩⟩⟩ ?_
                exact hj18
              · refine X.if_eq_f (pc := 54) (off := 7) (tgt := 61) hq15 rfl (by decide +kernel) ?_
                refine X.iconst (pc := 57) (i := 0) (v := 0) ic_0 (by decide +kernel) ?_
                refine X.goto (pc := 58) (off := 4) (tgt := 62) (by decide +kernel) rfl ?_
                have j0 := Option.some.inj h
                subst j0
                refine X.fgt (o' := [some (.ref (e_b E + t)), none, none, some (.int p3), some (.int p4), some (.int y5), none]) ⟨rfl, ⟨rfl, ⟨rfl, ⟨rfl, trivial⟩⟩⟩⟩ ?_
                exact hj18
            · refine X.if_ge_f (pc := 35) (off := 6) (tgt := 41) hq9 rfl (by decide +kernel) ?_
              refine X.bipush (pc := 38) (i := (-2)) (v := (-2)) bp_m2 (by decide +kernel) ?_
              have j0 := Option.some.inj h
              obtain ⟨i0, j1⟩ := Prod.mk.inj j0
              subst i0
              subst j1
              exact X.ireturn (pc := 40) (by decide +kernel) ⟨_, rfl, rfl⟩ ⟨rfl, rfl, rfl, rfl, rfl, rfl⟩
          · refine X.if_ne_t (pc := 31) (off := 10) (tgt := 41) hq8 rfl (by decide +kernel) ?_
            refine X.aload_0 (pc := 41) (by decide +kernel) ?_
            obtain ⟨b29, hb29, h⟩ := bnd1_some h
            refine X.getR (pc := 42) (k := 4) fw_GWL_26 (by decide +kernel) (fun _ => rfl) hS hb29 ?_
            obtain ⟨hc30, h⟩ := asrt_some h
            obtain ⟨I31, hv32, h⟩ := bnd1_some h
            refine X.callVv (pc := 45) (nc := 0) (ns := 0) (c_Past_forget hE (dle hd (Nat.le_of_ble_eq_true rfl)) hc30 hv32) cv_GWL_148 (by decide +kernel) hc30 ⟨by decide, rfl⟩ (ddd hd (Nat.le_of_ble_eq_true rfl)) rfl (Nat.le_of_ble_eq_true rfl) rfl rfl ?_
            refine X.aload_0 (pc := 48) (by decide +kernel) ?_
            obtain ⟨b33, hb33, h⟩ := bnd1_some h
            refine X.getR (pc := 49) (k := 2) fw_GWL_83 (by decide +kernel) (fun _ => rfl) hS hb33 ?_
            refine X.iload_5 (pc := 52) (by decide +kernel) ?_
            obtain ⟨y35, hr36, h⟩ := bnd1_some h
            have hj37 : X E y_GWL_sheet b_GWL_sheet 7 (some .int) tg d 0 0 62 [some (.ref (e_b E + t)), none, none, some (.int p3), some (.int p4), some (.int y5), none] [.int y35, .ref (e_b E + b33)] S I31 L R n (Kq (some (.int v)) S I' L R n) := by
              refine X.iload_3 (pc := 62) (by decide +kernel) ?_
              refine X.iload_4 (pc := 63) (by decide +kernel) ?_
              refine X.aload_0 (pc := 65) (by decide +kernel) ?_
              obtain ⟨b38, hb38, h⟩ := bnd1_some h
              refine X.getR (pc := 66) (k := 3) fw_GWL_87 (by decide +kernel) (fun _ => rfl) hS hb38 ?_
              obtain ⟨hc39, h⟩ := asrt_some h
              refine X.getI (pc := 69) (k := 0) fw_GWL_175 (by decide +kernel) (fun _ => rfl) hc39 ?_
              obtain ⟨hc40, h⟩ := asrt_some h
              obtain ⟨x41, I42, hv43, h⟩ := bnd2_some h
              refine X.callVi (pc := 72) (nc := 0) (ns := 0) (c_Land_spreadOut hE (dle hd (Nat.le_of_ble_eq_true rfl)) hc40 hv43) cv_GWL_184 (by decide +kernel) hc40 ⟨by decide, rfl⟩ (ddd hd (Nat.le_of_ble_eq_true rfl)) rfl (Nat.le_of_ble_eq_true rfl) rfl rfl ?_
              refine X.istore_6 (pc := 75) (by decide +kernel) (by decide) rfl ?_
              refine X.iload_5 (pc := 77) (by decide +kernel) ?_
              obtain ⟨y45, hr46, h⟩ := bnd1_some h
              have hj47 : X E y_GWL_sheet b_GWL_sheet 7 (some .int) tg d 0 0 89 [none, none, none, none, none, none, none] [.int y45] S I42 L R n (Kq (some (.int v)) S I' L R n) := by
                have j0 := Option.some.inj h
                obtain ⟨i0, j1⟩ := Prod.mk.inj j0
                subst i0
                subst j1
                exact X.ireturn (pc := 89) (by decide +kernel) ⟨_, rfl, rfl⟩ ⟨rfl, rfl, rfl, rfl, rfl, rfl⟩
              have h := hr46
              rcases ifb_some h with ⟨hq44, h⟩ | ⟨hq44, h⟩
              · refine X.if_eq_t (pc := 79) (off := 8) (tgt := 87) hq44 rfl (by decide +kernel) ?_
                refine X.iload_6 (pc := 87) (by decide +kernel) ?_
                have j0 := Option.some.inj h
                subst j0
                refine X.fgt (o' := [none, none, none, none, none, none, none]) trivial ?_
                exact hj47
              · refine X.if_eq_f (pc := 79) (off := 8) (tgt := 87) hq44 rfl (by decide +kernel) ?_
                refine X.bipush (pc := 82) (i := (-3)) (v := (-3)) bp_m3 (by decide +kernel) ?_
                refine X.goto (pc := 84) (off := 5) (tgt := 89) (by decide +kernel) rfl ?_
                have j0 := Option.some.inj h
                subst j0
                refine X.fgt (o' := [none, none, none, none, none, none, none]) trivial ?_
                exact hj47
            have h := hr36
            rcases ifb_some h with ⟨hq34, h⟩ | ⟨hq34, h⟩
            · refine X.if_eq_t (pc := 54) (off := 7) (tgt := 61) hq34 rfl (by decide +kernel) ?_
              refine X.iload_2 (pc := 61) (by decide +kernel) ?_
              have j0 := Option.some.inj h
              subst j0
              refine X.fgt (o' := [some (.ref (e_b E + t)), none, none, some (.int p3), some (.int p4), some (.int y5), none]) ⟨rfl, ⟨rfl, ⟨rfl, ⟨rfl, trivial⟩⟩⟩⟩ ?_
              exact hj37
            · refine X.if_eq_f (pc := 54) (off := 7) (tgt := 61) hq34 rfl (by decide +kernel) ?_
              refine X.iconst (pc := 57) (i := 0) (v := 0) ic_0 (by decide +kernel) ?_
              refine X.goto (pc := 58) (off := 4) (tgt := 62) (by decide +kernel) rfl ?_
              have j0 := Option.some.inj h
              subst j0
              refine X.fgt (o' := [some (.ref (e_b E + t)), none, none, some (.int p3), some (.int p4), some (.int y5), none]) ⟨rfl, ⟨rfl, ⟨rfl, ⟨rfl, trivial⟩⟩⟩⟩ ?_
              exact hj37
        have h := hr6
        rcases ifb_some h with ⟨hq4, h⟩ | ⟨hq4, h⟩
        · refine X.icmp_ne_f (pc := 19) (off := 7) (tgt := 26) hq4 rfl (by decide +kernel) ?_
          refine X.iconst (pc := 22) (i := 1) (v := 1) ic_1 (by decide +kernel) ?_
          refine X.goto (pc := 23) (off := 4) (tgt := 27) (by decide +kernel) rfl ?_
          have j0 := Option.some.inj h
          subst j0
          refine X.fgt (o' := [some (.ref (e_b E + t)), none, some (.int p2), some (.int p3), some (.int p4), none, none]) ⟨rfl, ⟨rfl, ⟨rfl, ⟨rfl, trivial⟩⟩⟩⟩ ?_
          exact hj7
        · refine X.icmp_ne_t (pc := 19) (off := 7) (tgt := 26) hq4 rfl (by decide +kernel) ?_
          refine X.iconst (pc := 26) (i := 0) (v := 0) ic_0 (by decide +kernel) ?_
          have j0 := Option.some.inj h
          subst j0
          refine X.fgt (o' := [some (.ref (e_b E + t)), none, some (.int p2), some (.int p3), some (.int p4), none, none]) ⟨rfl, ⟨rfl, ⟨rfl, ⟨rfl, trivial⟩⟩⟩⟩ ?_
          exact hj7
      · refine X.icmp_le_f (pc := 12) (off := 5) (tgt := 17) hq3 rfl (by decide +kernel) ?_
        refine X.iconst (pc := 15) (i := (-1)) (v := (-1)) ic_m1 (by decide +kernel) ?_
        have j0 := Option.some.inj h
        obtain ⟨i0, j1⟩ := Prod.mk.inj j0
        subst i0
        subst j1
        exact X.ireturn (pc := 16) (by decide +kernel) ⟨_, rfl, rfl⟩ ⟨rfl, rfl, rfl, rfl, rfl, rfl⟩
set_option maxRecDepth 100000 in
noncomputable def f_GWL_isTurn (p1 : Int32) : Option Int32 :=
  bnd1 (ifb (p1 < 0)
      (some 0)
      (ifb (3 ≤ p1)
        (some 0)
        (some 1))) fun (y2 : Int32) =>
  asrt (y2 = 0 ∨ y2 = 1) <|
  some y2
set_option maxRecDepth 100000 in
set_option maxHeartbeats 4000000 in
theorem c_GWL_isTurn {E : Env} (hE : OKE E) {tg : Bool} {d : Nat} (hd : 0 ≤ d) {S : MS} {I : MI} {L : ML} {R : MR} {n : Nat} {p1 : Int32} {v : Int32} (h : f_GWL_isTurn p1 = some v) : C E y_GWL_isTurn b_GWL_isTurn 1 (some .boolean) tg d 0 0 [.int p1] S I L R n (Kq (some (.int v)) S I L R n) := by
  refine C.of (o := [some (.int p1)]) (by decide) rfl (Nat.le_of_ble_eq_true rfl) ?_
  rw [f_GWL_isTurn] at h
  refine X.iload_0 (pc := 0) (by decide +kernel) ?_
  obtain ⟨y2, hr3, h⟩ := bnd1_some h
  have hj4 : X E y_GWL_isTurn b_GWL_isTurn 1 (some .boolean) tg d 0 0 14 [none] [.int y2] S I L R n (Kq (some (.int v)) S I L R n) := by
    obtain ⟨hb6, h⟩ := asrt_some h
    have j0 := Option.some.inj h
    subst j0
    exact X.ireturn (pc := 14) (by decide +kernel) ⟨_, rfl, nz01 hb6⟩ ⟨rfl, rfl, rfl, rfl, rfl, rfl⟩
  have h := hr3
  rcases ifb_some h with ⟨hq1, h⟩ | ⟨hq1, h⟩
  · refine X.if_lt_t (pc := 1) (off := 12) (tgt := 13) hq1 rfl (by decide +kernel) ?_
    refine X.iconst (pc := 13) (i := 0) (v := 0) ic_0 (by decide +kernel) ?_
    have j0 := Option.some.inj h
    subst j0
    refine X.fgt (o' := [none]) trivial ?_
    exact hj4
  · refine X.if_lt_f (pc := 1) (off := 12) (tgt := 13) hq1 rfl (by decide +kernel) ?_
    refine X.iload_0 (pc := 4) (by decide +kernel) ?_
    refine X.iconst (pc := 5) (i := 3) (v := 3) ic_3 (by decide +kernel) ?_
    rcases ifb_some h with ⟨hq5, h⟩ | ⟨hq5, h⟩
    · refine X.icmp_ge_t (pc := 6) (off := 7) (tgt := 13) hq5 rfl (by decide +kernel) ?_
      refine X.iconst (pc := 13) (i := 0) (v := 0) ic_0 (by decide +kernel) ?_
      have j0 := Option.some.inj h
      subst j0
      refine X.fgt (o' := [none]) trivial ?_
      exact hj4
    · refine X.icmp_ge_f (pc := 6) (off := 7) (tgt := 13) hq5 rfl (by decide +kernel) ?_
      refine X.iconst (pc := 9) (i := 1) (v := 1) ic_1 (by decide +kernel) ?_
      refine X.goto (pc := 10) (off := 4) (tgt := 14) (by decide +kernel) rfl ?_
      have j0 := Option.some.inj h
      subst j0
      refine X.fgt (o' := [none]) trivial ?_
      exact hj4
set_option maxRecDepth 100000 in
noncomputable def f_Land_endsAt (S : MS) (R : MR) (I : MI) (t : Nat) (p1 : Int32) : Option Int32 :=
  bnd1 (f_Land_kindOf S R I t p1) fun x1 =>
  bnd1 (ifb (x1 = 1)
      (some 1)
      (ifb (x1 = 3)
        (some 1)
        (some 0))) fun (y4 : Int32) =>
  asrt (y4 = 0 ∨ y4 = 1) <|
  some y4
set_option maxRecDepth 100000 in
set_option maxHeartbeats 4000000 in
theorem c_Land_endsAt {E : Env} (hE : OKE E) {tg : Bool} {d : Nat} (hd : 1 ≤ d) {S : MS} {I : MI} {L : ML} {R : MR} {n : Nat} {t : Nat} {p1 : Int32} {v : Int32} (hS : (S t).1 = 2) (h : f_Land_endsAt S R I t p1 = some v) : C E y_Land_endsAt b_Land_endsAt 3 (some .boolean) tg d 0 0 [.ref (e_b E + t), .int p1] S I L R n (Kq (some (.int v)) S I L R n) := by
  refine C.of (o := [some (.ref (e_b E + t)), some (.int p1), none]) (by decide) rfl (Nat.le_of_ble_eq_true rfl) ?_
  rw [f_Land_endsAt] at h
  refine X.aload_0 (pc := 0) (by decide +kernel) ?_
  refine X.iload_1 (pc := 1) (by decide +kernel) ?_
  obtain ⟨x1, hv2, h⟩ := bnd1_some h
  refine X.callVi (pc := 2) (nc := 0) (ns := 0) (c_Land_kindOf hE (dle hd (Nat.le_of_ble_eq_true rfl)) hS hv2) cv_Land_28 (by decide +kernel) hS ⟨by decide, rfl⟩ (ddd hd (Nat.le_of_ble_eq_true rfl)) rfl (Nat.le_of_ble_eq_true rfl) rfl rfl ?_
  refine X.istore_2 (pc := 5) (by decide +kernel) (by decide) rfl ?_
  refine X.iload_2 (pc := 6) (by decide +kernel) ?_
  refine X.iconst (pc := 7) (i := 1) (v := 1) ic_1 (by decide +kernel) ?_
  obtain ⟨y4, hr5, h⟩ := bnd1_some h
  have hj6 : X E y_Land_endsAt b_Land_endsAt 3 (some .boolean) tg d 0 0 21 [none, none, none] [.int y4] S I L R n (Kq (some (.int v)) S I L R n) := by
    obtain ⟨hb8, h⟩ := asrt_some h
    have j0 := Option.some.inj h
    subst j0
    exact X.ireturn (pc := 21) (by decide +kernel) ⟨_, rfl, nz01 hb8⟩ ⟨rfl, rfl, rfl, rfl, rfl, rfl⟩
  have h := hr5
  rcases ifb_some h with ⟨hq3, h⟩ | ⟨hq3, h⟩
  · refine X.icmp_eq_t (pc := 8) (off := 8) (tgt := 16) hq3 rfl (by decide +kernel) ?_
    refine X.iconst (pc := 16) (i := 1) (v := 1) ic_1 (by decide +kernel) ?_
    refine X.goto (pc := 17) (off := 4) (tgt := 21) (by decide +kernel) rfl ?_
    have j0 := Option.some.inj h
    subst j0
    refine X.fgt (o' := [none, none, none]) trivial ?_
    exact hj6
  · refine X.icmp_eq_f (pc := 8) (off := 8) (tgt := 16) hq3 rfl (by decide +kernel) ?_
    refine X.iload_2 (pc := 11) (by decide +kernel) ?_
    refine X.iconst (pc := 12) (i := 3) (v := 3) ic_3 (by decide +kernel) ?_
    rcases ifb_some h with ⟨hq7, h⟩ | ⟨hq7, h⟩
    · refine X.icmp_ne_f (pc := 13) (off := 7) (tgt := 20) hq7 rfl (by decide +kernel) ?_
      refine X.iconst (pc := 16) (i := 1) (v := 1) ic_1 (by decide +kernel) ?_
      refine X.goto (pc := 17) (off := 4) (tgt := 21) (by decide +kernel) rfl ?_
      have j0 := Option.some.inj h
      subst j0
      refine X.fgt (o' := [none, none, none]) trivial ?_
      exact hj6
    · refine X.icmp_ne_t (pc := 13) (off := 7) (tgt := 20) hq7 rfl (by decide +kernel) ?_
      refine X.iconst (pc := 20) (i := 0) (v := 0) ic_0 (by decide +kernel) ?_
      have j0 := Option.some.inj h
      subst j0
      refine X.fgt (o' := [none, none, none]) trivial ?_
      exact hj6
set_option maxRecDepth 100000 in
noncomputable def f_GWL_isOver (S : MS) (R : MR) (I : MI) (t : Nat) : Option Int32 :=
  bnd1 (R t 2) fun b1 =>
  bnd1 (R t 3) fun b2 =>
  asrt ((S b2).1 = 5) <|
  asrt ((S b1).1 = 2) <|
  bnd1 (f_Land_endsAt S R I b1 (I b2 0)) fun x5 =>
  asrt (x5 = 0 ∨ x5 = 1) <|
  some x5
set_option maxRecDepth 100000 in
set_option maxHeartbeats 4000000 in
theorem c_GWL_isOver {E : Env} (hE : OKE E) {tg : Bool} {d : Nat} (hd : 2 ≤ d) {S : MS} {I : MI} {L : ML} {R : MR} {n : Nat} {t : Nat} {v : Int32} (hS : (S t).1 = 11) (h : f_GWL_isOver S R I t = some v) : C E y_GWL_isOver b_GWL_isOver 1 (some .boolean) tg d 0 0 [.ref (e_b E + t)] S I L R n (Kq (some (.int v)) S I L R n) := by
  refine C.of (o := [some (.ref (e_b E + t))]) (by decide) rfl (Nat.le_of_ble_eq_true rfl) ?_
  rw [f_GWL_isOver] at h
  refine X.aload_0 (pc := 0) (by decide +kernel) ?_
  obtain ⟨b1, hb1, h⟩ := bnd1_some h
  refine X.getR (pc := 1) (k := 2) fw_GWL_83 (by decide +kernel) (fun _ => rfl) hS hb1 ?_
  refine X.aload_0 (pc := 4) (by decide +kernel) ?_
  obtain ⟨b2, hb2, h⟩ := bnd1_some h
  refine X.getR (pc := 5) (k := 3) fw_GWL_87 (by decide +kernel) (fun _ => rfl) hS hb2 ?_
  obtain ⟨hc3, h⟩ := asrt_some h
  refine X.getI (pc := 8) (k := 0) fw_GWL_175 (by decide +kernel) (fun _ => rfl) hc3 ?_
  obtain ⟨hc4, h⟩ := asrt_some h
  obtain ⟨x5, hv6, h⟩ := bnd1_some h
  refine X.callVi (pc := 11) (nc := 0) (ns := 0) (c_Land_endsAt hE (dle hd (Nat.le_of_ble_eq_true rfl)) hc4 hv6) cv_GWL_234 (by decide +kernel) hc4 ⟨by decide, rfl⟩ (ddd hd (Nat.le_of_ble_eq_true rfl)) rfl (Nat.le_of_ble_eq_true rfl) rfl rfl ?_
  obtain ⟨hb7, h⟩ := asrt_some h
  have j0 := Option.some.inj h
  subst j0
  exact X.ireturn (pc := 14) (by decide +kernel) ⟨_, rfl, nz01 hb7⟩ ⟨rfl, rfl, rfl, rfl, rfl, rfl⟩
set_option maxRecDepth 100000 in
noncomputable def f_Party_takeFrom (S : MS) (R : MR) (I : MI) (t : Nat) (p1 : Nat) : Option MI :=
  asrt ((S p1).1 = 5) <|
  lt (I p1 0) fun (x2 : Int32) =>
  lt (wI I t 0 x2) fun (I3 : MI) =>
  lt (I3 p1 1) fun (x4 : Int32) =>
  lt (wI I3 t 1 x4) fun (I5 : MI) =>
  lt (I5 p1 2) fun (x6 : Int32) =>
  lt (wI I5 t 2 x6) fun (I7 : MI) =>
  lt (I7 p1 3) fun (x8 : Int32) =>
  lt (wI I7 t 3 x8) fun (I9 : MI) =>
  lt (I9 p1 4) fun (x10 : Int32) =>
  lt (wI I9 t 4 x10) fun (I11 : MI) =>
  lt (I11 p1 5) fun (x12 : Int32) =>
  lt (wI I11 t 5 x12) fun (I13 : MI) =>
  bnd1 (R p1 6) fun b14 =>
  bnd1 (R t 6) fun b15 =>
  asrt ((S b14).1 = 20) <|
  asrt ((S b15).1 = 20) <|
  asrt (36 ≤ (S b14).2) <|
  asrt (36 ≤ (S b15).2) <|
  lt (cpI I13 b14 b15 36) fun (I20 : MI) =>
  some I20
set_option maxRecDepth 100000 in
set_option maxHeartbeats 4000000 in
theorem c_Party_takeFrom {E : Env} (hE : OKE E) {d : Nat} (hd : 1 ≤ d) {S : MS} {I : MI} {L : ML} {R : MR} {n : Nat} {t : Nat} {p1 : Nat} {I' : MI} (hS : (S t).1 = 5) (h : f_Party_takeFrom S R I t p1 = some I') : C E y_Party_takeFrom b_Party_takeFrom 2 none false d 0 0 [.ref (e_b E + t), .ref (e_b E + p1)] S I L R n (Kq none S I' L R n) := by
  refine C.of (o := [some (.ref (e_b E + t)), some (.ref (e_b E + p1))]) (by decide) rfl (Nat.le_of_ble_eq_true rfl) ?_
  rw [f_Party_takeFrom] at h
  refine X.aload_0 (pc := 0) (by decide +kernel) ?_
  refine X.aload_1 (pc := 1) (by decide +kernel) ?_
  obtain ⟨hc1, h⟩ := asrt_some h
  refine X.getI (pc := 2) (k := 0) fw_Party_28 (by decide +kernel) (fun _ => rfl) hc1 ?_
  refine X.nameI (fun x2 hx2 => ?_)
  have h := lt_at hx2 h
  refine X.putI (pc := 5) (k := 0) fw_Party_28 (by decide +kernel) rfl rfl hS ?_
  refine X.nameMI (fun I3 hI3 => ?_)
  have h := lt_at hI3 h
  refine X.aload_0 (pc := 8) (by decide +kernel) ?_
  refine X.aload_1 (pc := 9) (by decide +kernel) ?_
  refine X.getI (pc := 10) (k := 1) fw_Party_31 (by decide +kernel) (fun _ => rfl) hc1 ?_
  refine X.nameI (fun x4 hx4 => ?_)
  have h := lt_at hx4 h
  refine X.putI (pc := 13) (k := 1) fw_Party_31 (by decide +kernel) rfl rfl hS ?_
  refine X.nameMI (fun I5 hI5 => ?_)
  have h := lt_at hI5 h
  refine X.aload_0 (pc := 16) (by decide +kernel) ?_
  refine X.aload_1 (pc := 17) (by decide +kernel) ?_
  refine X.getI (pc := 18) (k := 2) fw_Party_9 (by decide +kernel) (fun _ => rfl) hc1 ?_
  refine X.nameI (fun x6 hx6 => ?_)
  have h := lt_at hx6 h
  refine X.putI (pc := 21) (k := 2) fw_Party_9 (by decide +kernel) rfl rfl hS ?_
  refine X.nameMI (fun I7 hI7 => ?_)
  have h := lt_at hI7 h
  refine X.aload_0 (pc := 24) (by decide +kernel) ?_
  refine X.aload_1 (pc := 25) (by decide +kernel) ?_
  refine X.getI (pc := 26) (k := 3) fw_Party_15 (by decide +kernel) (fun _ => rfl) hc1 ?_
  refine X.nameI (fun x8 hx8 => ?_)
  have h := lt_at hx8 h
  refine X.putI (pc := 29) (k := 3) fw_Party_15 (by decide +kernel) rfl rfl hS ?_
  refine X.nameMI (fun I9 hI9 => ?_)
  have h := lt_at hI9 h
  refine X.aload_0 (pc := 32) (by decide +kernel) ?_
  refine X.aload_1 (pc := 33) (by decide +kernel) ?_
  refine X.getI (pc := 34) (k := 4) fw_Party_34 (by decide +kernel) (fun _ => rfl) hc1 ?_
  refine X.nameI (fun x10 hx10 => ?_)
  have h := lt_at hx10 h
  refine X.putI (pc := 37) (k := 4) fw_Party_34 (by decide +kernel) rfl rfl hS ?_
  refine X.nameMI (fun I11 hI11 => ?_)
  have h := lt_at hI11 h
  refine X.aload_0 (pc := 40) (by decide +kernel) ?_
  refine X.aload_1 (pc := 41) (by decide +kernel) ?_
  refine X.getI (pc := 42) (k := 5) fw_Party_37 (by decide +kernel) (fun _ => rfl) hc1 ?_
  refine X.nameI (fun x12 hx12 => ?_)
  have h := lt_at hx12 h
  refine X.putI (pc := 45) (k := 5) fw_Party_37 (by decide +kernel) rfl rfl hS ?_
  refine X.nameMI (fun I13 hI13 => ?_)
  have h := lt_at hI13 h
  refine X.aload_1 (pc := 48) (by decide +kernel) ?_
  obtain ⟨b14, hb14, h⟩ := bnd1_some h
  refine X.getR (pc := 49) (k := 6) fw_Party_18 (by decide +kernel) (fun _ => rfl) hc1 hb14 ?_
  refine X.iconst (pc := 52) (i := 0) (v := 0) ic_0 (by decide +kernel) ?_
  refine X.aload_0 (pc := 53) (by decide +kernel) ?_
  obtain ⟨b15, hb15, h⟩ := bnd1_some h
  refine X.getR (pc := 54) (k := 6) fw_Party_18 (by decide +kernel) (fun _ => rfl) hS hb15 ?_
  refine X.iconst (pc := 57) (i := 0) (v := 0) ic_0 (by decide +kernel) ?_
  refine X.bipush (pc := 58) (i := 36) (v := 36) bp_36 (by decide +kernel) ?_
  obtain ⟨hc16, h⟩ := asrt_some h
  obtain ⟨hc17, h⟩ := asrt_some h
  obtain ⟨hi18, h⟩ := asrt_some h
  obtain ⟨hi19, h⟩ := asrt_some h
  refine X.copyi (pc := 60) (N := 36) (by decide +kernel) cp_Party_40 cp_n cp_s cp_i hc16 hc17 rfl (by decide) hi18 hi19 rfl (Nat.le_trans (Nat.le_of_ble_eq_true rfl) hd) (Nat.le_of_ble_eq_true rfl) ?_
  refine X.nameMI (fun I20 hI20 => ?_)
  have h := lt_at hI20 h
  have j0 := Option.some.inj h
  subst j0
  exact X.vreturn (pc := 63) (by decide +kernel) rfl ⟨rfl, rfl, rfl, rfl, rfl, rfl⟩
set_option maxRecDepth 100000 in
noncomputable def f_Past_remember (S : MS) (R : MR) (I : MI) (t : Nat) (p1 : Nat) : Option MI :=
  bnd1 (ifb ((I t 1) < 0)
      (some I)
      (ifb (20 ≤ (I t 1))
        (some I)
        (bnd1 (R t 0) fun b6 =>
        lt (I t 1) fun (x7 : Int32) =>
        asrt ((S b6).1 = 24) <|
        asrt (vp_in x7 (S b6).2) <|
        bnd1 (R b6 (Int32.toNatClampNeg x7)) fun b10 =>
        asrt ((S b10).1 = 5) <|
        bnd1 (f_Party_takeFrom S R I b10 p1) fun I12 =>
        some I12))) fun (I2 : MI) =>
  bnd1 (ifb (((I2 t 1) + 1) < 20)
      (some ((I2 t 1) + 1))
      (some 0)) fun (y15 : Int32) =>
  lt (wI I2 t 1 y15) fun (I18 : MI) =>
  bnd1 (ifb (20 ≤ (I18 t 2))
      (some (I18 t 2))
      (some ((I18 t 2) + 1))) fun (y20 : Int32) =>
  lt (wI I18 t 2 y20) fun (I23 : MI) =>
  some I23
set_option maxRecDepth 100000 in
set_option maxHeartbeats 4000000 in
theorem c_Past_remember {E : Env} (hE : OKE E) {d : Nat} (hd : 2 ≤ d) {S : MS} {I : MI} {L : ML} {R : MR} {n : Nat} {t : Nat} {p1 : Nat} {I' : MI} (hS : (S t).1 = 6) (h : f_Past_remember S R I t p1 = some I') : C E y_Past_remember b_Past_remember 2 none false d 0 0 [.ref (e_b E + t), .ref (e_b E + p1)] S I L R n (Kq none S I' L R n) := by
  refine C.of (o := [some (.ref (e_b E + t)), some (.ref (e_b E + p1))]) (by decide) rfl (Nat.le_of_ble_eq_true rfl) ?_
  rw [f_Past_remember] at h
  refine X.aload_0 (pc := 0) (by decide +kernel) ?_
  refine X.getI (pc := 1) (k := 1) fw_Past_18 (by decide +kernel) (fun _ => rfl) hS ?_
  obtain ⟨I2, hr3, h⟩ := bnd1_some h
  have hj4 : X E y_Past_remember b_Past_remember 2 none false d 0 0 29 [some (.ref (e_b E + t)), none] [] S I2 L R n (Kq none S I' L R n) := by
    refine X.aload_0 (pc := 29) (by decide +kernel) ?_
    refine X.aload_0 (pc := 30) (by decide +kernel) ?_
    refine X.getI (pc := 31) (k := 1) fw_Past_18 (by decide +kernel) (fun _ => rfl) hS ?_
    refine X.iconst (pc := 34) (i := 1) (v := 1) ic_1 (by decide +kernel) ?_
    refine X.iadd (pc := 35) (by decide +kernel) ?_
    refine X.bipush (pc := 36) (i := 20) (v := 20) bp_20 (by decide +kernel) ?_
    obtain ⟨y15, hr16, h⟩ := bnd1_some h
    have hj17 : X E y_Past_remember b_Past_remember 2 none false d 0 0 51 [some (.ref (e_b E + t)), none] [.int y15, .ref (e_b E + t)] S I2 L R n (Kq none S I' L R n) := by
      refine X.putI (pc := 51) (k := 1) fw_Past_18 (by decide +kernel) rfl rfl hS ?_
      refine X.nameMI (fun I18 hI18 => ?_)
      have h := lt_at hI18 h
      refine X.aload_0 (pc := 54) (by decide +kernel) ?_
      refine X.aload_0 (pc := 55) (by decide +kernel) ?_
      refine X.getI (pc := 56) (k := 2) fw_Past_26 (by decide +kernel) (fun _ => rfl) hS ?_
      refine X.bipush (pc := 59) (i := 20) (v := 20) bp_20 (by decide +kernel) ?_
      obtain ⟨y20, hr21, h⟩ := bnd1_some h
      have hj22 : X E y_Past_remember b_Past_remember 2 none false d 0 0 77 [none, none] [.int y20, .ref (e_b E + t)] S I18 L R n (Kq none S I' L R n) := by
        refine X.putI (pc := 77) (k := 2) fw_Past_26 (by decide +kernel) rfl rfl hS ?_
        refine X.nameMI (fun I23 hI23 => ?_)
        have h := lt_at hI23 h
        have j0 := Option.some.inj h
        subst j0
        exact X.vreturn (pc := 80) (by decide +kernel) rfl ⟨rfl, rfl, rfl, rfl, rfl, rfl⟩
      have h := hr21
      rcases ifb_some h with ⟨hq19, h⟩ | ⟨hq19, h⟩
      · refine X.icmp_ge_t (pc := 61) (off := 12) (tgt := 73) hq19 rfl (by decide +kernel) ?_
        refine X.aload_0 (pc := 73) (by decide +kernel) ?_
        refine X.getI (pc := 74) (k := 2) fw_Past_26 (by decide +kernel) (fun _ => rfl) hS ?_
        have j0 := Option.some.inj h
        subst j0
        refine X.fgt (o' := [none, none]) trivial ?_
        exact hj22
      · refine X.icmp_ge_f (pc := 61) (off := 12) (tgt := 73) hq19 rfl (by decide +kernel) ?_
        refine X.aload_0 (pc := 64) (by decide +kernel) ?_
        refine X.getI (pc := 65) (k := 2) fw_Past_26 (by decide +kernel) (fun _ => rfl) hS ?_
        refine X.iconst (pc := 68) (i := 1) (v := 1) ic_1 (by decide +kernel) ?_
        refine X.iadd (pc := 69) (by decide +kernel) ?_
        refine X.goto (pc := 70) (off := 7) (tgt := 77) (by decide +kernel) rfl ?_
        have j0 := Option.some.inj h
        subst j0
        refine X.fgt (o' := [none, none]) trivial ?_
        exact hj22
    have h := hr16
    rcases ifb_some h with ⟨hq14, h⟩ | ⟨hq14, h⟩
    · refine X.icmp_lt_t (pc := 38) (off := 7) (tgt := 45) hq14 rfl (by decide +kernel) ?_
      refine X.aload_0 (pc := 45) (by decide +kernel) ?_
      refine X.getI (pc := 46) (k := 1) fw_Past_18 (by decide +kernel) (fun _ => rfl) hS ?_
      refine X.iconst (pc := 49) (i := 1) (v := 1) ic_1 (by decide +kernel) ?_
      refine X.iadd (pc := 50) (by decide +kernel) ?_
      have j0 := Option.some.inj h
      subst j0
      exact hj17
    · refine X.icmp_lt_f (pc := 38) (off := 7) (tgt := 45) hq14 rfl (by decide +kernel) ?_
      refine X.iconst (pc := 41) (i := 0) (v := 0) ic_0 (by decide +kernel) ?_
      refine X.goto (pc := 42) (off := 9) (tgt := 51) (by decide +kernel) rfl ?_
      have j0 := Option.some.inj h
      subst j0
      exact hj17
  have h := hr3
  rcases ifb_some h with ⟨hq1, h⟩ | ⟨hq1, h⟩
  · refine X.if_lt_t (pc := 4) (off := 25) (tgt := 29) hq1 rfl (by decide +kernel) ?_
    have j0 := Option.some.inj h
    subst j0
    refine X.fgt (o' := [some (.ref (e_b E + t)), none]) ⟨rfl, trivial⟩ ?_
    exact hj4
  · refine X.if_lt_f (pc := 4) (off := 25) (tgt := 29) hq1 rfl (by decide +kernel) ?_
    refine X.aload_0 (pc := 7) (by decide +kernel) ?_
    refine X.getI (pc := 8) (k := 1) fw_Past_18 (by decide +kernel) (fun _ => rfl) hS ?_
    refine X.bipush (pc := 11) (i := 20) (v := 20) bp_20 (by decide +kernel) ?_
    rcases ifb_some h with ⟨hq5, h⟩ | ⟨hq5, h⟩
    · refine X.icmp_ge_t (pc := 13) (off := 16) (tgt := 29) hq5 rfl (by decide +kernel) ?_
      have j0 := Option.some.inj h
      subst j0
      refine X.fgt (o' := [some (.ref (e_b E + t)), none]) ⟨rfl, trivial⟩ ?_
      exact hj4
    · refine X.icmp_ge_f (pc := 13) (off := 16) (tgt := 29) hq5 rfl (by decide +kernel) ?_
      refine X.aload_0 (pc := 16) (by decide +kernel) ?_
      obtain ⟨b6, hb6, h⟩ := bnd1_some h
      refine X.getR (pc := 17) (k := 0) fw_Past_11 (by decide +kernel) (fun _ => rfl) hS hb6 ?_
      refine X.aload_0 (pc := 20) (by decide +kernel) ?_
      refine X.getI (pc := 21) (k := 1) fw_Past_18 (by decide +kernel) (fun _ => rfl) hS ?_
      refine X.nameI (fun x7 hx7 => ?_)
      have h := lt_at hx7 h
      obtain ⟨hc9, h⟩ := asrt_some h
      obtain ⟨hi8, h⟩ := asrt_some h
      obtain ⟨b10, hb10, h⟩ := bnd1_some h
      refine X.aaload (pc := 24) (by decide +kernel) (Or.inr hc9) hi8 hb10 ?_
      refine X.aload_1 (pc := 25) (by decide +kernel) ?_
      obtain ⟨hc11, h⟩ := asrt_some h
      obtain ⟨I12, hv13, h⟩ := bnd1_some h
      refine X.callVv (pc := 26) (nc := 0) (ns := 0) (c_Party_takeFrom hE (dle hd (Nat.le_of_ble_eq_true rfl)) hc11 hv13) cv_Past_22 (by decide +kernel) hc11 ⟨by decide, rfl⟩ (ddd hd (Nat.le_of_ble_eq_true rfl)) rfl (Nat.le_of_ble_eq_true rfl) rfl rfl ?_
      have j0 := Option.some.inj h
      subst j0
      refine X.fgt (o' := [some (.ref (e_b E + t)), none]) ⟨rfl, trivial⟩ ?_
      exact hj4
set_option maxRecDepth 100000 in
noncomputable def f_Party_stance (S : MS) (I : MI) (t : Nat) : Option Int32 :=
  lt (((I t 0) * 4) + (I t 1)) fun (x1 : Int32) =>
  some x1
set_option maxRecDepth 100000 in
set_option maxHeartbeats 4000000 in
theorem c_Party_stance {E : Env} (hE : OKE E) {tg : Bool} {d : Nat} (hd : 0 ≤ d) {S : MS} {I : MI} {L : ML} {R : MR} {n : Nat} {t : Nat} {v : Int32} (hS : (S t).1 = 5) (h : f_Party_stance S I t = some v) : C E y_Party_stance b_Party_stance 1 (some .int) tg d 0 0 [.ref (e_b E + t)] S I L R n (Kq (some (.int v)) S I L R n) := by
  refine C.of (o := [some (.ref (e_b E + t))]) (by decide) rfl (Nat.le_of_ble_eq_true rfl) ?_
  rw [f_Party_stance] at h
  refine X.aload_0 (pc := 0) (by decide +kernel) ?_
  refine X.getI (pc := 1) (k := 0) fw_Party_28 (by decide +kernel) (fun _ => rfl) hS ?_
  refine X.iconst (pc := 4) (i := 4) (v := 4) ic_4 (by decide +kernel) ?_
  refine X.imul (pc := 5) (by decide +kernel) ?_
  refine X.aload_0 (pc := 6) (by decide +kernel) ?_
  refine X.getI (pc := 7) (k := 1) fw_Party_31 (by decide +kernel) (fun _ => rfl) hS ?_
  refine X.iadd (pc := 10) (by decide +kernel) ?_
  refine X.nameI (fun x1 hx1 => ?_)
  have h := lt_at hx1 h
  have j0 := Option.some.inj h
  subst j0
  exact X.ireturn (pc := 11) (by decide +kernel) ⟨_, rfl, rfl⟩ ⟨rfl, rfl, rfl, rfl, rfl, rfl⟩
set_option maxRecDepth 100000 in
noncomputable def f_Land_after (S : MS) (R : MR) (I : MI) (t : Nat) (p1 : Int32) (p2 : Int32) : Option Int32 :=
  lt ((p1 &&& (-4)) ||| (((p1 + p2) + 3) &&& 3)) fun (x1 : Int32) =>
  bnd1 (ifb (x1 < 0)
      (some 0)
      (ifb (144 ≤ x1)
        (some 0)
        (bnd1 (R t 3) fun b7 =>
        asrt ((S b7).1 = 20) <|
        asrt (vp_in x1 (S b7).2) <|
        some (I b7 (Int32.toNatClampNeg x1))))) fun (y3 : Int32) =>
  some y3
set_option maxRecDepth 100000 in
set_option maxHeartbeats 4000000 in
theorem c_Land_after {E : Env} (hE : OKE E) {tg : Bool} {d : Nat} (hd : 0 ≤ d) {S : MS} {I : MI} {L : ML} {R : MR} {n : Nat} {t : Nat} {p1 : Int32} {p2 : Int32} {v : Int32} (hS : (S t).1 = 2) (h : f_Land_after S R I t p1 p2 = some v) : C E y_Land_after b_Land_after 4 (some .int) tg d 0 0 [.ref (e_b E + t), .int p1, .int p2] S I L R n (Kq (some (.int v)) S I L R n) := by
  refine C.of (o := [some (.ref (e_b E + t)), some (.int p1), some (.int p2), none]) (by decide) rfl (Nat.le_of_ble_eq_true rfl) ?_
  rw [f_Land_after] at h
  refine X.iload_1 (pc := 0) (by decide +kernel) ?_
  refine X.bipush (pc := 1) (i := (-4)) (v := (-4)) bp_m4 (by decide +kernel) ?_
  refine X.iand (pc := 3) (by decide +kernel) ?_
  refine X.iload_1 (pc := 4) (by decide +kernel) ?_
  refine X.iload_2 (pc := 5) (by decide +kernel) ?_
  refine X.iadd (pc := 6) (by decide +kernel) ?_
  refine X.iconst (pc := 7) (i := 3) (v := 3) ic_3 (by decide +kernel) ?_
  refine X.iadd (pc := 8) (by decide +kernel) ?_
  refine X.iconst (pc := 9) (i := 3) (v := 3) ic_3 (by decide +kernel) ?_
  refine X.iand (pc := 10) (by decide +kernel) ?_
  refine X.ior (pc := 11) (by decide +kernel) ?_
  refine X.nameI (fun x1 hx1 => ?_)
  have h := lt_at hx1 h
  refine X.istore_3 (pc := 12) (by decide +kernel) (by decide) rfl ?_
  refine X.iload_3 (pc := 13) (by decide +kernel) ?_
  obtain ⟨y3, hr4, h⟩ := bnd1_some h
  have hj5 : X E y_Land_after b_Land_after 4 (some .int) tg d 0 0 34 [none, none, none, none] [.int y3] S I L R n (Kq (some (.int v)) S I L R n) := by
    have j0 := Option.some.inj h
    subst j0
    exact X.ireturn (pc := 34) (by decide +kernel) ⟨_, rfl, rfl⟩ ⟨rfl, rfl, rfl, rfl, rfl, rfl⟩
  have h := hr4
  rcases ifb_some h with ⟨hq2, h⟩ | ⟨hq2, h⟩
  · refine X.if_lt_t (pc := 14) (off := 19) (tgt := 33) hq2 rfl (by decide +kernel) ?_
    refine X.iconst (pc := 33) (i := 0) (v := 0) ic_0 (by decide +kernel) ?_
    have j0 := Option.some.inj h
    subst j0
    refine X.fgt (o' := [none, none, none, none]) trivial ?_
    exact hj5
  · refine X.if_lt_f (pc := 14) (off := 19) (tgt := 33) hq2 rfl (by decide +kernel) ?_
    refine X.iload_3 (pc := 17) (by decide +kernel) ?_
    refine X.sipush (pc := 18) (i := 144) (v := 144) sp_144 (by decide +kernel) ?_
    rcases ifb_some h with ⟨hq6, h⟩ | ⟨hq6, h⟩
    · refine X.icmp_ge_t (pc := 21) (off := 12) (tgt := 33) hq6 rfl (by decide +kernel) ?_
      refine X.iconst (pc := 33) (i := 0) (v := 0) ic_0 (by decide +kernel) ?_
      have j0 := Option.some.inj h
      subst j0
      refine X.fgt (o' := [none, none, none, none]) trivial ?_
      exact hj5
    · refine X.icmp_ge_f (pc := 21) (off := 12) (tgt := 33) hq6 rfl (by decide +kernel) ?_
      refine X.aload_0 (pc := 24) (by decide +kernel) ?_
      obtain ⟨b7, hb7, h⟩ := bnd1_some h
      refine X.getR (pc := 25) (k := 3) fw_Land_22 (by decide +kernel) (fun _ => rfl) hS hb7 ?_
      refine X.iload_3 (pc := 28) (by decide +kernel) ?_
      obtain ⟨hc9, h⟩ := asrt_some h
      obtain ⟨hi8, h⟩ := asrt_some h
      refine X.iaload (pc := 29) (by decide +kernel) hc9 hi8 ?_
      refine X.goto (pc := 30) (off := 4) (tgt := 34) (by decide +kernel) rfl ?_
      have j0 := Option.some.inj h
      subst j0
      refine X.fgt (o' := [none, none, none, none]) trivial ?_
      exact hj5
set_option maxRecDepth 100000 in
noncomputable def f_GWL_cellOf (p1 : Int32) : Option Int32 :=
  lt (isr p1 2) fun (x1 : Int32) =>
  some x1
set_option maxRecDepth 100000 in
set_option maxHeartbeats 4000000 in
theorem c_GWL_cellOf {E : Env} (hE : OKE E) {tg : Bool} {d : Nat} (hd : 0 ≤ d) {S : MS} {I : MI} {L : ML} {R : MR} {n : Nat} {p1 : Int32} {v : Int32} (h : f_GWL_cellOf p1 = some v) : C E y_GWL_cellOf b_GWL_cellOf 1 (some .int) tg d 0 0 [.int p1] S I L R n (Kq (some (.int v)) S I L R n) := by
  refine C.of (o := [some (.int p1)]) (by decide) rfl (Nat.le_of_ble_eq_true rfl) ?_
  rw [f_GWL_cellOf] at h
  refine X.iload_0 (pc := 0) (by decide +kernel) ?_
  refine X.iconst (pc := 1) (i := 2) (v := 2) ic_2 (by decide +kernel) ?_
  refine X.ishr (pc := 2) (by decide +kernel) ?_
  refine X.nameI (fun x1 hx1 => ?_)
  have h := lt_at hx1 h
  have j0 := Option.some.inj h
  subst j0
  exact X.ireturn (pc := 3) (by decide +kernel) ⟨_, rfl, rfl⟩ ⟨rfl, rfl, rfl, rfl, rfl, rfl⟩
set_option maxRecDepth 100000 in
noncomputable def f_Party_tread (S : MS) (R : MR) (I : MI) (t : Nat) (p1 : Nat) (p2 : Int32) : Option MI :=
  bnd1 (f_Party_stance S I t) fun x1 =>
  asrt ((S p1).1 = 2) <|
  bnd1 (f_Land_after S R I p1 x1 p2) fun x4 =>
  bnd1 (f_GWL_cellOf x4) fun x6 =>
  bnd1 (ifb (x6 = (I t 0))
      (some I)
      (ifb ((I t 0) < 0)
        (some I)
        (ifb (36 ≤ (I t 0))
          (some I)
          (bnd1 (R t 6) fun b14 =>
          asrt ((S b14).1 = 20) <|
          asrt (vp_in (I t 0) (S b14).2) <|
          lt (wI I b14 (Int32.toNatClampNeg (I t 0)) x6) fun (I17 : MI) =>
          some I17)))) fun (I9 : MI) =>
  lt (wI I9 t 0 x6) fun (I18 : MI) =>
  lt (x4 &&& 3) fun (x19 : Int32) =>
  lt (wI I18 t 1 x19) fun (I20 : MI) =>
  lt ((I20 t 4) + 1) fun (x21 : Int32) =>
  lt (wI I20 t 4 x21) fun (I22 : MI) =>
  some I22
set_option maxRecDepth 100000 in
set_option maxHeartbeats 4000000 in
theorem c_Party_tread {E : Env} (hE : OKE E) {tg : Bool} {d : Nat} (hd : 1 ≤ d) {S : MS} {I : MI} {L : ML} {R : MR} {n : Nat} {t : Nat} {p1 : Nat} {p2 : Int32} {I' : MI} (hS : (S t).1 = 5) (h : f_Party_tread S R I t p1 p2 = some I') : C E y_Party_tread b_Party_tread 5 none tg d 0 0 [.ref (e_b E + t), .ref (e_b E + p1), .int p2] S I L R n (Kq none S I' L R n) := by
  refine C.of (o := [some (.ref (e_b E + t)), some (.ref (e_b E + p1)), some (.int p2), none, none]) (by decide) rfl (Nat.le_of_ble_eq_true rfl) ?_
  rw [f_Party_tread] at h
  refine X.aload_1 (pc := 0) (by decide +kernel) ?_
  refine X.aload_0 (pc := 1) (by decide +kernel) ?_
  obtain ⟨x1, hv2, h⟩ := bnd1_some h
  refine X.callVi (pc := 2) (nc := 0) (ns := 0) (c_Party_stance hE (dle hd (Nat.le_of_ble_eq_true rfl)) hS hv2) cv_Party_55 (by decide +kernel) hS ⟨by decide, rfl⟩ (ddd hd (Nat.le_of_ble_eq_true rfl)) rfl (Nat.le_of_ble_eq_true rfl) rfl rfl ?_
  refine X.iload_2 (pc := 5) (by decide +kernel) ?_
  obtain ⟨hc3, h⟩ := asrt_some h
  obtain ⟨x4, hv5, h⟩ := bnd1_some h
  refine X.callVi (pc := 6) (nc := 0) (ns := 0) (c_Land_after hE (dle hd (Nat.le_of_ble_eq_true rfl)) hc3 hv5) cv_Party_58 (by decide +kernel) hc3 ⟨by decide, rfl⟩ (ddd hd (Nat.le_of_ble_eq_true rfl)) rfl (Nat.le_of_ble_eq_true rfl) rfl rfl ?_
  refine X.istore_3 (pc := 9) (by decide +kernel) (by decide) rfl ?_
  refine X.iload_3 (pc := 10) (by decide +kernel) ?_
  obtain ⟨x6, hv7, h⟩ := bnd1_some h
  refine X.callSi (pc := 11) (nc := 0) (ns := 0) (c_GWL_cellOf hE (dle hd (Nat.le_of_ble_eq_true rfl)) hv7) cv_Party_64 (by decide +kernel) (ddd hd (Nat.le_of_ble_eq_true rfl)) rfl (Nat.le_of_ble_eq_true rfl) rfl rfl ?_
  refine X.istore_4 (pc := 14) (by decide +kernel) (by decide) rfl ?_
  refine X.iload_4 (pc := 16) (by decide +kernel) ?_
  refine X.aload_0 (pc := 18) (by decide +kernel) ?_
  refine X.getI (pc := 19) (k := 0) fw_Party_28 (by decide +kernel) (fun _ => rfl) hS ?_
  obtain ⟨I9, hr10, h⟩ := bnd1_some h
  have hj11 : X E y_Party_tread b_Party_tread 5 none tg d 0 0 52 [some (.ref (e_b E + t)), none, none, some (.int x4), some (.int x6)] [] S I9 L R n (Kq none S I' L R n) := by
    refine X.aload_0 (pc := 52) (by decide +kernel) ?_
    refine X.iload_4 (pc := 53) (by decide +kernel) ?_
    refine X.putI (pc := 55) (k := 0) fw_Party_28 (by decide +kernel) rfl rfl hS ?_
    refine X.nameMI (fun I18 hI18 => ?_)
    have h := lt_at hI18 h
    refine X.aload_0 (pc := 58) (by decide +kernel) ?_
    refine X.iload_3 (pc := 59) (by decide +kernel) ?_
    refine X.iconst (pc := 60) (i := 3) (v := 3) ic_3 (by decide +kernel) ?_
    refine X.iand (pc := 61) (by decide +kernel) ?_
    refine X.nameI (fun x19 hx19 => ?_)
    have h := lt_at hx19 h
    refine X.putI (pc := 62) (k := 1) fw_Party_31 (by decide +kernel) rfl rfl hS ?_
    refine X.nameMI (fun I20 hI20 => ?_)
    have h := lt_at hI20 h
    refine X.aload_0 (pc := 65) (by decide +kernel) ?_
    refine X.dupr (pc := 66) (by decide +kernel) ?_
    refine X.getI (pc := 67) (k := 4) fw_Party_34 (by decide +kernel) (fun _ => rfl) hS ?_
    refine X.iconst (pc := 70) (i := 1) (v := 1) ic_1 (by decide +kernel) ?_
    refine X.iadd (pc := 71) (by decide +kernel) ?_
    refine X.nameI (fun x21 hx21 => ?_)
    have h := lt_at hx21 h
    refine X.putI (pc := 72) (k := 4) fw_Party_34 (by decide +kernel) rfl rfl hS ?_
    refine X.nameMI (fun I22 hI22 => ?_)
    have h := lt_at hI22 h
    have j0 := Option.some.inj h
    subst j0
    exact X.vreturn (pc := 75) (by decide +kernel) rfl ⟨rfl, rfl, rfl, rfl, rfl, rfl⟩
  have h := hr10
  rcases ifb_some h with ⟨hq8, h⟩ | ⟨hq8, h⟩
  · refine X.icmp_eq_t (pc := 22) (off := 30) (tgt := 52) hq8 rfl (by decide +kernel) ?_
    have j0 := Option.some.inj h
    subst j0
    refine X.fgt (o' := [some (.ref (e_b E + t)), none, none, some (.int x4), some (.int x6)]) ⟨rfl, ⟨rfl, ⟨rfl, trivial⟩⟩⟩ ?_
    exact hj11
  · refine X.icmp_eq_f (pc := 22) (off := 30) (tgt := 52) hq8 rfl (by decide +kernel) ?_
    refine X.aload_0 (pc := 25) (by decide +kernel) ?_
    refine X.getI (pc := 26) (k := 0) fw_Party_28 (by decide +kernel) (fun _ => rfl) hS ?_
    rcases ifb_some h with ⟨hq12, h⟩ | ⟨hq12, h⟩
    · refine X.if_lt_t (pc := 29) (off := 23) (tgt := 52) hq12 rfl (by decide +kernel) ?_
      have j0 := Option.some.inj h
      subst j0
      refine X.fgt (o' := [some (.ref (e_b E + t)), none, none, some (.int x4), some (.int x6)]) ⟨rfl, ⟨rfl, ⟨rfl, trivial⟩⟩⟩ ?_
      exact hj11
    · refine X.if_lt_f (pc := 29) (off := 23) (tgt := 52) hq12 rfl (by decide +kernel) ?_
      refine X.aload_0 (pc := 32) (by decide +kernel) ?_
      refine X.getI (pc := 33) (k := 0) fw_Party_28 (by decide +kernel) (fun _ => rfl) hS ?_
      refine X.bipush (pc := 36) (i := 36) (v := 36) bp_36 (by decide +kernel) ?_
      rcases ifb_some h with ⟨hq13, h⟩ | ⟨hq13, h⟩
      · refine X.icmp_ge_t (pc := 38) (off := 14) (tgt := 52) hq13 rfl (by decide +kernel) ?_
        have j0 := Option.some.inj h
        subst j0
        refine X.fgt (o' := [some (.ref (e_b E + t)), none, none, some (.int x4), some (.int x6)]) ⟨rfl, ⟨rfl, ⟨rfl, trivial⟩⟩⟩ ?_
        exact hj11
      · refine X.icmp_ge_f (pc := 38) (off := 14) (tgt := 52) hq13 rfl (by decide +kernel) ?_
        refine X.aload_0 (pc := 41) (by decide +kernel) ?_
        obtain ⟨b14, hb14, h⟩ := bnd1_some h
        refine X.getR (pc := 42) (k := 6) fw_Party_18 (by decide +kernel) (fun _ => rfl) hS hb14 ?_
        refine X.aload_0 (pc := 45) (by decide +kernel) ?_
        refine X.getI (pc := 46) (k := 0) fw_Party_28 (by decide +kernel) (fun _ => rfl) hS ?_
        refine X.iload_4 (pc := 49) (by decide +kernel) ?_
        obtain ⟨hc15, h⟩ := asrt_some h
        obtain ⟨hi16, h⟩ := asrt_some h
        refine X.iastore (pc := 51) (by decide +kernel) hc15 hi16 ?_
        refine X.nameMI (fun I17 hI17 => ?_)
        have h := lt_at hI17 h
        have j0 := Option.some.inj h
        subst j0
        refine X.fgt (o' := [some (.ref (e_b E + t)), none, none, some (.int x4), some (.int x6)]) ⟨rfl, ⟨rfl, ⟨rfl, trivial⟩⟩⟩ ?_
        exact hj11
set_option maxRecDepth 100000 in
noncomputable def f_GWL_step (S : MS) (R : MR) (I : MI) (t : Nat) (p1 : Int32) : Option (Int32 × MI) :=
  bnd1 (f_GWL_isTurn p1) fun x1 =>
  ifb (x1 = 0)
    (some ((-1), I))
    (bnd1 (f_GWL_isOver S R I t) fun x4 =>
    ifb (x4 = 0)
      (bnd1 (R t 4) fun b7 =>
      bnd1 (R t 3) fun b8 =>
      asrt ((S b7).1 = 6) <|
      bnd1 (f_Past_remember S R I b7 b8) fun I10 =>
      bnd1 (R t 2) fun b12 =>
      asrt ((S b8).1 = 5) <|
      bnd1 (f_Party_tread S R I10 b8 b12 p1) fun I14 =>
      lt (I14 b8 0) fun (x16 : Int32) =>
      some (x16, I14))
      (some ((-2), I)))
set_option maxRecDepth 100000 in
set_option maxHeartbeats 4000000 in
theorem c_GWL_step {E : Env} (hE : OKE E) {d : Nat} (hd : 3 ≤ d) {S : MS} {I : MI} {L : ML} {R : MR} {n : Nat} {t : Nat} {p1 : Int32} {v : Int32} {I' : MI} (hS : (S t).1 = 11) (h : f_GWL_step S R I t p1 = some (v, I')) : C E y_GWL_step b_GWL_step 2 (some .int) false d 0 0 [.ref (e_b E + t), .int p1] S I L R n (Kq (some (.int v)) S I' L R n) := by
  refine C.of (o := [some (.ref (e_b E + t)), some (.int p1)]) (by decide) rfl (Nat.le_of_ble_eq_true rfl) ?_
  rw [f_GWL_step] at h
  refine X.iload_1 (pc := 0) (by decide +kernel) ?_
  obtain ⟨x1, hv2, h⟩ := bnd1_some h
  refine X.callSi (pc := 1) (nc := 0) (ns := 0) (c_GWL_isTurn hE (dle hd (Nat.le_of_ble_eq_true rfl)) hv2) cv_GWL_188 (by decide +kernel) (ddd hd (Nat.le_of_ble_eq_true rfl)) rfl (Nat.le_of_ble_eq_true rfl) rfl rfl ?_
  rcases ifb_some h with ⟨hq3, h⟩ | ⟨hq3, h⟩
  · refine X.if_ne_f (pc := 4) (off := 5) (tgt := 9) hq3 rfl (by decide +kernel) ?_
    refine X.iconst (pc := 7) (i := (-1)) (v := (-1)) ic_m1 (by decide +kernel) ?_
    have j0 := Option.some.inj h
    obtain ⟨i0, j1⟩ := Prod.mk.inj j0
    subst i0
    subst j1
    exact X.ireturn (pc := 8) (by decide +kernel) ⟨_, rfl, rfl⟩ ⟨rfl, rfl, rfl, rfl, rfl, rfl⟩
  · refine X.if_ne_t (pc := 4) (off := 5) (tgt := 9) hq3 rfl (by decide +kernel) ?_
    refine X.aload_0 (pc := 9) (by decide +kernel) ?_
    obtain ⟨x4, hv5, h⟩ := bnd1_some h
    refine X.callVi (pc := 10) (nc := 0) (ns := 0) (c_GWL_isOver hE (dle hd (Nat.le_of_ble_eq_true rfl)) hS hv5) cv_GWL_191 (by decide +kernel) hS ⟨by decide, rfl⟩ (ddd hd (Nat.le_of_ble_eq_true rfl)) rfl (Nat.le_of_ble_eq_true rfl) rfl rfl ?_
    rcases ifb_some h with ⟨hq6, h⟩ | ⟨hq6, h⟩
    · refine X.if_eq_t (pc := 13) (off := 6) (tgt := 19) hq6 rfl (by decide +kernel) ?_
      refine X.aload_0 (pc := 19) (by decide +kernel) ?_
      obtain ⟨b7, hb7, h⟩ := bnd1_some h
      refine X.getR (pc := 20) (k := 4) fw_GWL_26 (by decide +kernel) (fun _ => rfl) hS hb7 ?_
      refine X.aload_0 (pc := 23) (by decide +kernel) ?_
      obtain ⟨b8, hb8, h⟩ := bnd1_some h
      refine X.getR (pc := 24) (k := 3) fw_GWL_87 (by decide +kernel) (fun _ => rfl) hS hb8 ?_
      obtain ⟨hc9, h⟩ := asrt_some h
      obtain ⟨I10, hv11, h⟩ := bnd1_some h
      refine X.callVv (pc := 27) (nc := 0) (ns := 0) (c_Past_remember hE (dle hd (Nat.le_of_ble_eq_true rfl)) hc9 hv11) cv_GWL_195 (by decide +kernel) hc9 ⟨by decide, rfl⟩ (ddd hd (Nat.le_of_ble_eq_true rfl)) rfl (Nat.le_of_ble_eq_true rfl) rfl rfl ?_
      refine X.aload_0 (pc := 30) (by decide +kernel) ?_
      refine X.getR (pc := 31) (k := 3) fw_GWL_87 (by decide +kernel) (fun _ => rfl) hS hb8 ?_
      refine X.aload_0 (pc := 34) (by decide +kernel) ?_
      obtain ⟨b12, hb12, h⟩ := bnd1_some h
      refine X.getR (pc := 35) (k := 2) fw_GWL_83 (by decide +kernel) (fun _ => rfl) hS hb12 ?_
      refine X.iload_1 (pc := 38) (by decide +kernel) ?_
      obtain ⟨hc13, h⟩ := asrt_some h
      obtain ⟨I14, hv15, h⟩ := bnd1_some h
      refine X.callVv (pc := 39) (nc := 0) (ns := 0) (c_Party_tread hE (dle hd (Nat.le_of_ble_eq_true rfl)) hc13 hv15) cv_GWL_199 (by decide +kernel) hc13 ⟨by decide, rfl⟩ (ddd hd (Nat.le_of_ble_eq_true rfl)) rfl (Nat.le_of_ble_eq_true rfl) rfl rfl ?_
      refine X.aload_0 (pc := 42) (by decide +kernel) ?_
      refine X.getR (pc := 43) (k := 3) fw_GWL_87 (by decide +kernel) (fun _ => rfl) hS hb8 ?_
      refine X.getI (pc := 46) (k := 0) fw_GWL_175 (by decide +kernel) (fun _ => rfl) hc13 ?_
      refine X.nameI (fun x16 hx16 => ?_)
      have h := lt_at hx16 h
      have j0 := Option.some.inj h
      obtain ⟨i0, j1⟩ := Prod.mk.inj j0
      subst i0
      subst j1
      exact X.ireturn (pc := 49) (by decide +kernel) ⟨_, rfl, rfl⟩ ⟨rfl, rfl, rfl, rfl, rfl, rfl⟩
    · refine X.if_eq_f (pc := 13) (off := 6) (tgt := 19) hq6 rfl (by decide +kernel) ?_
      refine X.bipush (pc := 16) (i := (-2)) (v := (-2)) bp_m2 (by decide +kernel) ?_
      have j0 := Option.some.inj h
      obtain ⟨i0, j1⟩ := Prod.mk.inj j0
      subst i0
      subst j1
      exact X.ireturn (pc := 18) (by decide +kernel) ⟨_, rfl, rfl⟩ ⟨rfl, rfl, rfl, rfl, rfl, rfl⟩
set_option maxRecDepth 100000 in
noncomputable def f_Party_drawTenths (S : MS) (I : MI) (t : Nat) : Option (Int32 × MI) :=
  lt (((I t 3) * 1103515245) + 12345) fun (x1 : Int32) =>
  lt (wI I t 3 x1) fun (I2 : MI) =>
  lt (irm (ius (I2 t 3) 16) 10) fun (x3 : Int32) =>
  some (x3, I2)
set_option maxRecDepth 100000 in
set_option maxHeartbeats 4000000 in
theorem c_Party_drawTenths {E : Env} (hE : OKE E) {tg : Bool} {d : Nat} (hd : 0 ≤ d) {S : MS} {I : MI} {L : ML} {R : MR} {n : Nat} {t : Nat} {v : Int32} {I' : MI} (hS : (S t).1 = 5) (h : f_Party_drawTenths S I t = some (v, I')) : C E y_Party_drawTenths b_Party_drawTenths 1 (some .int) tg d 0 0 [.ref (e_b E + t)] S I L R n (Kq (some (.int v)) S I' L R n) := by
  refine C.of (o := [some (.ref (e_b E + t))]) (by decide) rfl (Nat.le_of_ble_eq_true rfl) ?_
  rw [f_Party_drawTenths] at h
  refine X.aload_0 (pc := 0) (by decide +kernel) ?_
  refine X.aload_0 (pc := 1) (by decide +kernel) ?_
  refine X.getI (pc := 2) (k := 3) fw_Party_15 (by decide +kernel) (fun _ => rfl) hS ?_
  refine X.ldc (pc := 5) (x := 46) (v := 1103515245) ld_Party_46 (by decide +kernel) ?_
  refine X.imul (pc := 7) (by decide +kernel) ?_
  refine X.sipush (pc := 8) (i := 12345) (v := 12345) sp_12345 (by decide +kernel) ?_
  refine X.iadd (pc := 11) (by decide +kernel) ?_
  refine X.nameI (fun x1 hx1 => ?_)
  have h := lt_at hx1 h
  refine X.putI (pc := 12) (k := 3) fw_Party_15 (by decide +kernel) rfl rfl hS ?_
  refine X.nameMI (fun I2 hI2 => ?_)
  have h := lt_at hI2 h
  refine X.aload_0 (pc := 15) (by decide +kernel) ?_
  refine X.getI (pc := 16) (k := 3) fw_Party_15 (by decide +kernel) (fun _ => rfl) hS ?_
  refine X.bipush (pc := 19) (i := 16) (v := 16) bp_16 (by decide +kernel) ?_
  refine X.iushr (pc := 21) (by decide +kernel) ?_
  refine X.bipush (pc := 22) (i := 10) (v := 10) bp_10 (by decide +kernel) ?_
  refine X.irem (pc := 24) (by decide) (by decide +kernel) ?_
  refine X.nameI (fun x3 hx3 => ?_)
  have h := lt_at hx3 h
  have j0 := Option.some.inj h
  obtain ⟨i0, j1⟩ := Prod.mk.inj j0
  subst i0
  subst j1
  exact X.ireturn (pc := 25) (by decide +kernel) ⟨_, rfl, rfl⟩ ⟨rfl, rfl, rfl, rfl, rfl, rfl⟩
set_option maxRecDepth 100000 in
noncomputable def f_GWL_tenthsOf (S : MS) (I : MI) (p1 : Nat) (p2 : Int32) : Option Int32 :=
  bnd1 (ifb (p2 < 0)
      (some 0)
      (asrt ((S p1).1 = 20) <|
      ifb ((Int32.ofNat (S p1).2) ≤ p2)
        (some 0)
        (asrt (vp_in p2 (S p1).2) <|
        some (I p1 (Int32.toNatClampNeg p2))))) fun (y2 : Int32) =>
  some y2
set_option maxRecDepth 100000 in
set_option maxHeartbeats 4000000 in
theorem c_GWL_tenthsOf {E : Env} (hE : OKE E) {tg : Bool} {d : Nat} (hd : 0 ≤ d) {S : MS} {I : MI} {L : ML} {R : MR} {n : Nat} {p1 : Nat} {p2 : Int32} {v : Int32} (h : f_GWL_tenthsOf S I p1 p2 = some v) : C E y_GWL_tenthsOf b_GWL_tenthsOf 2 (some .int) tg d 0 0 [.ref (e_b E + p1), .int p2] S I L R n (Kq (some (.int v)) S I L R n) := by
  refine C.of (o := [some (.ref (e_b E + p1)), some (.int p2)]) (by decide) rfl (Nat.le_of_ble_eq_true rfl) ?_
  rw [f_GWL_tenthsOf] at h
  refine X.iload_1 (pc := 0) (by decide +kernel) ?_
  obtain ⟨y2, hr3, h⟩ := bnd1_some h
  have hj4 : X E y_GWL_tenthsOf b_GWL_tenthsOf 2 (some .int) tg d 0 0 17 [none, none] [.int y2] S I L R n (Kq (some (.int v)) S I L R n) := by
    have j0 := Option.some.inj h
    subst j0
    exact X.ireturn (pc := 17) (by decide +kernel) ⟨_, rfl, rfl⟩ ⟨rfl, rfl, rfl, rfl, rfl, rfl⟩
  have h := hr3
  rcases ifb_some h with ⟨hq1, h⟩ | ⟨hq1, h⟩
  · refine X.if_lt_t (pc := 1) (off := 15) (tgt := 16) hq1 rfl (by decide +kernel) ?_
    refine X.iconst (pc := 16) (i := 0) (v := 0) ic_0 (by decide +kernel) ?_
    have j0 := Option.some.inj h
    subst j0
    refine X.fgt (o' := [none, none]) trivial ?_
    exact hj4
  · refine X.if_lt_f (pc := 1) (off := 15) (tgt := 16) hq1 rfl (by decide +kernel) ?_
    refine X.iload_1 (pc := 4) (by decide +kernel) ?_
    refine X.aload_0 (pc := 5) (by decide +kernel) ?_
    obtain ⟨hc5, h⟩ := asrt_some h
    refine X.alen (pc := 6) (by decide +kernel) (by rw [hc5]; decide) ?_
    rcases ifb_some h with ⟨hq6, h⟩ | ⟨hq6, h⟩
    · refine X.icmp_ge_t (pc := 7) (off := 9) (tgt := 16) hq6 rfl (by decide +kernel) ?_
      refine X.iconst (pc := 16) (i := 0) (v := 0) ic_0 (by decide +kernel) ?_
      have j0 := Option.some.inj h
      subst j0
      refine X.fgt (o' := [none, none]) trivial ?_
      exact hj4
    · refine X.icmp_ge_f (pc := 7) (off := 9) (tgt := 16) hq6 rfl (by decide +kernel) ?_
      refine X.aload_0 (pc := 10) (by decide +kernel) ?_
      refine X.iload_1 (pc := 11) (by decide +kernel) ?_
      obtain ⟨hi7, h⟩ := asrt_some h
      refine X.iaload (pc := 12) (by decide +kernel) hc5 hi7 ?_
      refine X.goto (pc := 13) (off := 4) (tgt := 17) (by decide +kernel) rfl ?_
      have j0 := Option.some.inj h
      subst j0
      refine X.fgt (o' := [none, none]) trivial ?_
      exact hj4
set_option maxRecDepth 100000 in
noncomputable def f_Party_turnByWeights (S : MS) (I : MI) (t : Nat) (p1 : Nat) : Option (Int32 × MI) :=
  bnd2 (f_Party_drawTenths S I t) fun x1 I2 =>
  bnd1 (f_GWL_tenthsOf S I2 p1 0) fun x4 =>
  bnd1 (ifb (x4 ≤ x1)
      (bnd1 (f_GWL_tenthsOf S I2 p1 1) fun x10 =>
      ifb ((x4 + x10) ≤ x1)
        (some 2)
        (some 1))
      (some 0)) fun (y7 : Int32) =>
  some (y7, I2)
set_option maxRecDepth 100000 in
set_option maxHeartbeats 4000000 in
theorem c_Party_turnByWeights {E : Env} (hE : OKE E) {tg : Bool} {d : Nat} (hd : 1 ≤ d) {S : MS} {I : MI} {L : ML} {R : MR} {n : Nat} {t : Nat} {p1 : Nat} {v : Int32} {I' : MI} (hS : (S t).1 = 5) (h : f_Party_turnByWeights S I t p1 = some (v, I')) : C E y_Party_turnByWeights b_Party_turnByWeights 4 (some .int) tg d 0 0 [.ref (e_b E + t), .ref (e_b E + p1)] S I L R n (Kq (some (.int v)) S I' L R n) := by
  refine C.of (o := [some (.ref (e_b E + t)), some (.ref (e_b E + p1)), none, none]) (by decide) rfl (Nat.le_of_ble_eq_true rfl) ?_
  rw [f_Party_turnByWeights] at h
  refine X.aload_0 (pc := 0) (by decide +kernel) ?_
  obtain ⟨x1, I2, hv3, h⟩ := bnd2_some h
  refine X.callVi (pc := 1) (nc := 0) (ns := 0) (c_Party_drawTenths hE (dle hd (Nat.le_of_ble_eq_true rfl)) hS hv3) cv_Party_47 (by decide +kernel) hS ⟨by decide, rfl⟩ (ddd hd (Nat.le_of_ble_eq_true rfl)) rfl (Nat.le_of_ble_eq_true rfl) rfl rfl ?_
  refine X.istore_2 (pc := 4) (by decide +kernel) (by decide) rfl ?_
  refine X.aload_1 (pc := 5) (by decide +kernel) ?_
  refine X.iconst (pc := 6) (i := 0) (v := 0) ic_0 (by decide +kernel) ?_
  obtain ⟨x4, hv5, h⟩ := bnd1_some h
  refine X.callSi (pc := 7) (nc := 0) (ns := 0) (c_GWL_tenthsOf hE (dle hd (Nat.le_of_ble_eq_true rfl)) hv5) cv_Party_51 (by decide +kernel) (ddd hd (Nat.le_of_ble_eq_true rfl)) rfl (Nat.le_of_ble_eq_true rfl) rfl rfl ?_
  refine X.istore_3 (pc := 10) (by decide +kernel) (by decide) rfl ?_
  refine X.iload_2 (pc := 11) (by decide +kernel) ?_
  refine X.iload_3 (pc := 12) (by decide +kernel) ?_
  obtain ⟨y7, hr8, h⟩ := bnd1_some h
  have hj9 : X E y_Party_turnByWeights b_Party_turnByWeights 4 (some .int) tg d 0 0 36 [none, none, none, none] [.int y7] S I2 L R n (Kq (some (.int v)) S I' L R n) := by
    have j0 := Option.some.inj h
    obtain ⟨i0, j1⟩ := Prod.mk.inj j0
    subst i0
    subst j1
    exact X.ireturn (pc := 36) (by decide +kernel) ⟨_, rfl, rfl⟩ ⟨rfl, rfl, rfl, rfl, rfl, rfl⟩
  have h := hr8
  rcases ifb_some h with ⟨hq6, h⟩ | ⟨hq6, h⟩
  · refine X.icmp_ge_t (pc := 13) (off := 7) (tgt := 20) hq6 rfl (by decide +kernel) ?_
    refine X.iload_2 (pc := 20) (by decide +kernel) ?_
    refine X.iload_3 (pc := 21) (by decide +kernel) ?_
    refine X.aload_1 (pc := 22) (by decide +kernel) ?_
    refine X.iconst (pc := 23) (i := 1) (v := 1) ic_1 (by decide +kernel) ?_
    obtain ⟨x10, hv11, h⟩ := bnd1_some h
    refine X.callSi (pc := 24) (nc := 0) (ns := 0) (c_GWL_tenthsOf hE (dle hd (Nat.le_of_ble_eq_true rfl)) hv11) cv_Party_51 (by decide +kernel) (ddd hd (Nat.le_of_ble_eq_true rfl)) rfl (Nat.le_of_ble_eq_true rfl) rfl rfl ?_
    refine X.iadd (pc := 27) (by decide +kernel) ?_
    rcases ifb_some h with ⟨hq12, h⟩ | ⟨hq12, h⟩
    · refine X.icmp_ge_t (pc := 28) (off := 7) (tgt := 35) hq12 rfl (by decide +kernel) ?_
      refine X.iconst (pc := 35) (i := 2) (v := 2) ic_2 (by decide +kernel) ?_
      have j0 := Option.some.inj h
      subst j0
      refine X.fgt (o' := [none, none, none, none]) trivial ?_
      exact hj9
    · refine X.icmp_ge_f (pc := 28) (off := 7) (tgt := 35) hq12 rfl (by decide +kernel) ?_
      refine X.iconst (pc := 31) (i := 1) (v := 1) ic_1 (by decide +kernel) ?_
      refine X.goto (pc := 32) (off := 4) (tgt := 36) (by decide +kernel) rfl ?_
      have j0 := Option.some.inj h
      subst j0
      refine X.fgt (o' := [none, none, none, none]) trivial ?_
      exact hj9
  · refine X.icmp_ge_f (pc := 13) (off := 7) (tgt := 20) hq6 rfl (by decide +kernel) ?_
    refine X.iconst (pc := 16) (i := 0) (v := 0) ic_0 (by decide +kernel) ?_
    refine X.goto (pc := 17) (off := 19) (tgt := 36) (by decide +kernel) rfl ?_
    have j0 := Option.some.inj h
    subst j0
    refine X.fgt (o' := [none, none, none, none]) trivial ?_
    exact hj9
set_option maxRecDepth 100000 in
noncomputable def f_Numbers_begin (S : MS) (I : MI) (t : Nat) : Option MI :=
  lt (wI I t 1 0) fun (I1 : MI) =>
  some I1
set_option maxRecDepth 100000 in
set_option maxHeartbeats 4000000 in
theorem c_Numbers_begin {E : Env} (hE : OKE E) {tg : Bool} {d : Nat} (hd : 0 ≤ d) {S : MS} {I : MI} {L : ML} {R : MR} {n : Nat} {t : Nat} {I' : MI} (hS : (S t).1 = 4) (h : f_Numbers_begin S I t = some I') : C E y_Numbers_begin b_Numbers_begin 1 none tg d 0 0 [.ref (e_b E + t)] S I L R n (Kq none S I' L R n) := by
  refine C.of (o := [some (.ref (e_b E + t))]) (by decide) rfl (Nat.le_of_ble_eq_true rfl) ?_
  rw [f_Numbers_begin] at h
  refine X.aload_0 (pc := 0) (by decide +kernel) ?_
  refine X.iconst (pc := 1) (i := 0) (v := 0) ic_0 (by decide +kernel) ?_
  refine X.putI (pc := 2) (k := 1) fw_Numbers_15 (by decide +kernel) rfl rfl hS ?_
  refine X.nameMI (fun I1 hI1 => ?_)
  have h := lt_at hI1 h
  have j0 := Option.some.inj h
  subst j0
  exact X.vreturn (pc := 5) (by decide +kernel) rfl ⟨rfl, rfl, rfl, rfl, rfl, rfl⟩
set_option maxRecDepth 100000 in
noncomputable def f_Numbers_add (S : MS) (R : MR) (I : MI) (L : ML) (t : Nat) (p1 : Int64) : Option (MI × ML) :=
  bnd2 (ifb (16 ≤ (I t 1))
      (some (I, L))
      (bnd1 (R t 0) fun b6 =>
      asrt ((S b6).1 = 21) <|
      asrt (vp_in (I t 1) (S b6).2) <|
      lt (wL L b6 (Int32.toNatClampNeg (I t 1)) p1) fun (L9 : ML) =>
      lt ((I t 1) + 1) fun (x10 : Int32) =>
      lt (wI I t 1 x10) fun (I11 : MI) =>
      some (I11, L9))) fun (I2 : MI) (L3 : ML) =>
  some (I2, L3)
set_option maxRecDepth 100000 in
set_option maxHeartbeats 4000000 in
theorem c_Numbers_add {E : Env} (hE : OKE E) {tg : Bool} {d : Nat} (hd : 0 ≤ d) {S : MS} {I : MI} {L : ML} {R : MR} {n : Nat} {t : Nat} {p1 : Int64} {I' : MI} {L' : ML} (hS : (S t).1 = 4) (h : f_Numbers_add S R I L t p1 = some (I', L')) : C E y_Numbers_add b_Numbers_add 3 none tg d 0 0 [.ref (e_b E + t), .long p1] S I L R n (Kq none S I' L' R n) := by
  refine C.of (o := [some (.ref (e_b E + t)), some (.long p1), none]) (by decide) rfl (Nat.le_of_ble_eq_true rfl) ?_
  rw [f_Numbers_add] at h
  refine X.aload_0 (pc := 0) (by decide +kernel) ?_
  refine X.getI (pc := 1) (k := 1) fw_Numbers_15 (by decide +kernel) (fun _ => rfl) hS ?_
  refine X.bipush (pc := 4) (i := 16) (v := 16) bp_16 (by decide +kernel) ?_
  obtain ⟨I2, L3, hr4, h⟩ := bnd2_some h
  have hj5 : X E y_Numbers_add b_Numbers_add 3 none tg d 0 0 29 [none, none, none] [] S I2 L3 R n (Kq none S I' L' R n) := by
    have j0 := Option.some.inj h
    obtain ⟨i0, j1⟩ := Prod.mk.inj j0
    subst i0
    subst j1
    exact X.vreturn (pc := 29) (by decide +kernel) rfl ⟨rfl, rfl, rfl, rfl, rfl, rfl⟩
  have h := hr4
  rcases ifb_some h with ⟨hq1, h⟩ | ⟨hq1, h⟩
  · refine X.icmp_ge_t (pc := 6) (off := 23) (tgt := 29) hq1 rfl (by decide +kernel) ?_
    have j0 := Option.some.inj h
    obtain ⟨i0, j1⟩ := Prod.mk.inj j0
    subst i0
    subst j1
    refine X.fgt (o' := [none, none, none]) trivial ?_
    exact hj5
  · refine X.icmp_ge_f (pc := 6) (off := 23) (tgt := 29) hq1 rfl (by decide +kernel) ?_
    refine X.aload_0 (pc := 9) (by decide +kernel) ?_
    obtain ⟨b6, hb6, h⟩ := bnd1_some h
    refine X.getR (pc := 10) (k := 0) fw_Numbers_9 (by decide +kernel) (fun _ => rfl) hS hb6 ?_
    refine X.aload_0 (pc := 13) (by decide +kernel) ?_
    refine X.getI (pc := 14) (k := 1) fw_Numbers_15 (by decide +kernel) (fun _ => rfl) hS ?_
    refine X.lload_1 (pc := 17) (by decide +kernel) ?_
    obtain ⟨hc7, h⟩ := asrt_some h
    obtain ⟨hi8, h⟩ := asrt_some h
    refine X.lastore (pc := 18) (by decide +kernel) hc7 hi8 ?_
    refine X.nameML (fun L9 hL9 => ?_)
    have h := lt_at hL9 h
    refine X.aload_0 (pc := 19) (by decide +kernel) ?_
    refine X.dupr (pc := 20) (by decide +kernel) ?_
    refine X.getI (pc := 21) (k := 1) fw_Numbers_15 (by decide +kernel) (fun _ => rfl) hS ?_
    refine X.iconst (pc := 24) (i := 1) (v := 1) ic_1 (by decide +kernel) ?_
    refine X.iadd (pc := 25) (by decide +kernel) ?_
    refine X.nameI (fun x10 hx10 => ?_)
    have h := lt_at hx10 h
    refine X.putI (pc := 26) (k := 1) fw_Numbers_15 (by decide +kernel) rfl rfl hS ?_
    refine X.nameMI (fun I11 hI11 => ?_)
    have h := lt_at hI11 h
    have j0 := Option.some.inj h
    obtain ⟨i0, j1⟩ := Prod.mk.inj j0
    subst i0
    subst j1
    refine X.fgt (o' := [none, none, none]) trivial ?_
    exact hj5
set_option maxRecDepth 100000 in
noncomputable def f_GWL_alone (S : MS) (R : MR) (I : MI) (L : ML) (t : Nat) : Option (Int32 × MI × ML) :=
  bnd1 (f_GWL_isOver S R I t) fun x1 =>
  ifb (x1 = 0)
    (bnd1 (R t 4) fun b4 =>
    bnd1 (R t 3) fun b5 =>
    asrt ((S b4).1 = 6) <|
    bnd1 (f_Past_remember S R I b4 b5) fun I7 =>
    bnd1 (R t 5) fun b9 =>
    asrt ((S b5).1 = 5) <|
    bnd2 (f_Party_turnByWeights S I7 b5 b9) fun x11 I12 =>
    bnd1 (R t 2) fun b14 =>
    bnd1 (f_Party_tread S R I12 b5 b14 x11) fun I15 =>
    bnd1 (R t 1) fun b17 =>
    asrt ((S b17).1 = 4) <|
    bnd1 (f_Numbers_begin S I15 b17) fun I19 =>
    bnd2 (f_Numbers_add S R I19 L b17 (Int32.toInt64 x11)) fun I21 L22 =>
    lt (I21 b5 0) fun (x24 : Int32) =>
    some (x24, I21, L22))
    (some ((-2), I, L))
set_option maxRecDepth 100000 in
set_option maxHeartbeats 4000000 in
theorem c_GWL_alone {E : Env} (hE : OKE E) {d : Nat} (hd : 3 ≤ d) {S : MS} {I : MI} {L : ML} {R : MR} {n : Nat} {t : Nat} {v : Int32} {I' : MI} {L' : ML} (hS : (S t).1 = 11) (h : f_GWL_alone S R I L t = some (v, I', L')) : C E y_GWL_alone b_GWL_alone 2 (some .int) false d 0 0 [.ref (e_b E + t)] S I L R n (Kq (some (.int v)) S I' L' R n) := by
  refine C.of (o := [some (.ref (e_b E + t)), none]) (by decide) rfl (Nat.le_of_ble_eq_true rfl) ?_
  rw [f_GWL_alone] at h
  refine X.aload_0 (pc := 0) (by decide +kernel) ?_
  obtain ⟨x1, hv2, h⟩ := bnd1_some h
  refine X.callVi (pc := 1) (nc := 0) (ns := 0) (c_GWL_isOver hE (dle hd (Nat.le_of_ble_eq_true rfl)) hS hv2) cv_GWL_191 (by decide +kernel) hS ⟨by decide, rfl⟩ (ddd hd (Nat.le_of_ble_eq_true rfl)) rfl (Nat.le_of_ble_eq_true rfl) rfl rfl ?_
  rcases ifb_some h with ⟨hq3, h⟩ | ⟨hq3, h⟩
  · refine X.if_eq_t (pc := 4) (off := 6) (tgt := 10) hq3 rfl (by decide +kernel) ?_
    refine X.aload_0 (pc := 10) (by decide +kernel) ?_
    obtain ⟨b4, hb4, h⟩ := bnd1_some h
    refine X.getR (pc := 11) (k := 4) fw_GWL_26 (by decide +kernel) (fun _ => rfl) hS hb4 ?_
    refine X.aload_0 (pc := 14) (by decide +kernel) ?_
    obtain ⟨b5, hb5, h⟩ := bnd1_some h
    refine X.getR (pc := 15) (k := 3) fw_GWL_87 (by decide +kernel) (fun _ => rfl) hS hb5 ?_
    obtain ⟨hc6, h⟩ := asrt_some h
    obtain ⟨I7, hv8, h⟩ := bnd1_some h
    refine X.callVv (pc := 18) (nc := 0) (ns := 0) (c_Past_remember hE (dle hd (Nat.le_of_ble_eq_true rfl)) hc6 hv8) cv_GWL_195 (by decide +kernel) hc6 ⟨by decide, rfl⟩ (ddd hd (Nat.le_of_ble_eq_true rfl)) rfl (Nat.le_of_ble_eq_true rfl) rfl rfl ?_
    refine X.aload_0 (pc := 21) (by decide +kernel) ?_
    refine X.getR (pc := 22) (k := 3) fw_GWL_87 (by decide +kernel) (fun _ => rfl) hS hb5 ?_
    refine X.aload_0 (pc := 25) (by decide +kernel) ?_
    obtain ⟨b9, hb9, h⟩ := bnd1_some h
    refine X.getR (pc := 26) (k := 5) fw_GWL_91 (by decide +kernel) (fun _ => rfl) hS hb9 ?_
    obtain ⟨hc10, h⟩ := asrt_some h
    obtain ⟨x11, I12, hv13, h⟩ := bnd2_some h
    refine X.callVi (pc := 29) (nc := 0) (ns := 0) (c_Party_turnByWeights hE (dle hd (Nat.le_of_ble_eq_true rfl)) hc10 hv13) cv_GWL_203 (by decide +kernel) hc10 ⟨by decide, rfl⟩ (ddd hd (Nat.le_of_ble_eq_true rfl)) rfl (Nat.le_of_ble_eq_true rfl) rfl rfl ?_
    refine X.istore_1 (pc := 32) (by decide +kernel) (by decide) rfl ?_
    refine X.aload_0 (pc := 33) (by decide +kernel) ?_
    refine X.getR (pc := 34) (k := 3) fw_GWL_87 (by decide +kernel) (fun _ => rfl) hS hb5 ?_
    refine X.aload_0 (pc := 37) (by decide +kernel) ?_
    obtain ⟨b14, hb14, h⟩ := bnd1_some h
    refine X.getR (pc := 38) (k := 2) fw_GWL_83 (by decide +kernel) (fun _ => rfl) hS hb14 ?_
    refine X.iload_1 (pc := 41) (by decide +kernel) ?_
    obtain ⟨I15, hv16, h⟩ := bnd1_some h
    refine X.callVv (pc := 42) (nc := 0) (ns := 0) (c_Party_tread hE (dle hd (Nat.le_of_ble_eq_true rfl)) hc10 hv16) cv_GWL_199 (by decide +kernel) hc10 ⟨by decide, rfl⟩ (ddd hd (Nat.le_of_ble_eq_true rfl)) rfl (Nat.le_of_ble_eq_true rfl) rfl rfl ?_
    refine X.aload_0 (pc := 45) (by decide +kernel) ?_
    obtain ⟨b17, hb17, h⟩ := bnd1_some h
    refine X.getR (pc := 46) (k := 1) fw_GWL_19 (by decide +kernel) (fun _ => rfl) hS hb17 ?_
    obtain ⟨hc18, h⟩ := asrt_some h
    obtain ⟨I19, hv20, h⟩ := bnd1_some h
    refine X.callVv (pc := 49) (nc := 0) (ns := 0) (c_Numbers_begin hE (dle hd (Nat.le_of_ble_eq_true rfl)) hc18 hv20) cv_GWL_207 (by decide +kernel) hc18 ⟨by decide, rfl⟩ (ddd hd (Nat.le_of_ble_eq_true rfl)) rfl (Nat.le_of_ble_eq_true rfl) rfl rfl ?_
    refine X.aload_0 (pc := 52) (by decide +kernel) ?_
    refine X.getR (pc := 53) (k := 1) fw_GWL_19 (by decide +kernel) (fun _ => rfl) hS hb17 ?_
    refine X.iload_1 (pc := 56) (by decide +kernel) ?_
    refine X.i2l (pc := 57) (by decide +kernel) ?_
    obtain ⟨I21, L22, hv23, h⟩ := bnd2_some h
    refine X.callVv (pc := 58) (nc := 0) (ns := 0) (c_Numbers_add hE (dle hd (Nat.le_of_ble_eq_true rfl)) hc18 hv23) cv_GWL_209 (by decide +kernel) hc18 ⟨by decide, rfl⟩ (ddd hd (Nat.le_of_ble_eq_true rfl)) rfl (Nat.le_of_ble_eq_true rfl) rfl rfl ?_
    refine X.aload_0 (pc := 61) (by decide +kernel) ?_
    refine X.getR (pc := 62) (k := 3) fw_GWL_87 (by decide +kernel) (fun _ => rfl) hS hb5 ?_
    refine X.getI (pc := 65) (k := 0) fw_GWL_175 (by decide +kernel) (fun _ => rfl) hc10 ?_
    refine X.nameI (fun x24 hx24 => ?_)
    have h := lt_at hx24 h
    have j0 := Option.some.inj h
    obtain ⟨i0, j1⟩ := Prod.mk.inj j0
    obtain ⟨i1, j2⟩ := Prod.mk.inj j1
    subst i0
    subst i1
    subst j2
    exact X.ireturn (pc := 68) (by decide +kernel) ⟨_, rfl, rfl⟩ ⟨rfl, rfl, rfl, rfl, rfl, rfl⟩
  · refine X.if_eq_f (pc := 4) (off := 6) (tgt := 10) hq3 rfl (by decide +kernel) ?_
    refine X.bipush (pc := 7) (i := (-2)) (v := (-2)) bp_m2 (by decide +kernel) ?_
    have j0 := Option.some.inj h
    obtain ⟨i0, j1⟩ := Prod.mk.inj j0
    obtain ⟨i1, j2⟩ := Prod.mk.inj j1
    subst i0
    subst i1
    subst j2
    exact X.ireturn (pc := 9) (by decide +kernel) ⟨_, rfl, rfl⟩ ⟨rfl, rfl, rfl, rfl, rfl, rfl⟩
set_option maxRecDepth 100000 in
noncomputable def f_GWL_ask (S : MS) (R : MR) (I : MI) (L : ML) (t : Nat) (p1 : Int32) : Option (Int32 × MI × ML) :=
  bnd1 (f_GWL_isTurn p1) fun x1 =>
  ifb (x1 = 0)
    (some ((-1), I, L))
    (bnd1 (f_GWL_isOver S R I t) fun x4 =>
    ifb (x4 = 0)
      (bnd1 (R t 3) fun b7 =>
      asrt ((S b7).1 = 5) <|
      ifb (1 ≤ (I b7 2))
        (bnd1 (R t 4) fun b10 =>
        asrt ((S b10).1 = 6) <|
        bnd1 (f_Past_remember S R I b10 b7) fun I12 =>
        lt ((I12 b7 2) - 1) fun (x14 : Int32) =>
        lt (wI I12 b7 2 x14) fun (I15 : MI) =>
        lt ((I15 b7 5) + 1) fun (x16 : Int32) =>
        lt (wI I15 b7 5 x16) fun (I17 : MI) =>
        bnd2 (f_Party_drawTenths S I17 b7) fun x18 I19 =>
        bnd1 (ifb ((I19 t 6) ≤ x18)
            (some 0)
            (some 1)) fun (y22 : Int32) =>
        bnd2 (ifb (y22 = 0)
            (bnd1 (R t 5) fun b30 =>
            bnd2 (f_Party_turnByWeights S I19 b7 b30) fun x31 I32 =>
            some (x31, I32))
            (some (p1, I19))) fun (y26 : Int32) (I27 : MI) =>
        bnd1 (R t 2) fun b34 =>
        bnd1 (f_Party_tread S R I27 b7 b34 y26) fun I35 =>
        bnd1 (R t 1) fun b37 =>
        asrt ((S b37).1 = 4) <|
        bnd1 (f_Numbers_begin S I35 b37) fun I39 =>
        bnd1 (ifb (y22 = 0)
            (some 0)
            (some 1)) fun (y42 : Int64) =>
        bnd2 (f_Numbers_add S R I39 L b37 y42) fun I45 L46 =>
        bnd2 (f_Numbers_add S R I45 L46 b37 (Int32.toInt64 y26)) fun I48 L49 =>
        lt (I48 b7 0) fun (x51 : Int32) =>
        some (x51, I48, L49))
        (some ((-3), I, L)))
      (some ((-2), I, L)))
set_option maxRecDepth 100000 in
set_option maxHeartbeats 4000000 in
theorem c_GWL_ask {E : Env} (hE : OKE E) {d : Nat} (hd : 3 ≤ d) {S : MS} {I : MI} {L : ML} {R : MR} {n : Nat} {t : Nat} {p1 : Int32} {v : Int32} {I' : MI} {L' : ML} (hS : (S t).1 = 11) (h : f_GWL_ask S R I L t p1 = some (v, I', L')) : C E y_GWL_ask b_GWL_ask 4 (some .int) false d 0 0 [.ref (e_b E + t), .int p1] S I L R n (Kq (some (.int v)) S I' L' R n) := by
  refine C.of (o := [some (.ref (e_b E + t)), some (.int p1), none, none]) (by decide) rfl (Nat.le_of_ble_eq_true rfl) ?_
  rw [f_GWL_ask] at h
  refine X.iload_1 (pc := 0) (by decide +kernel) ?_
  obtain ⟨x1, hv2, h⟩ := bnd1_some h
  refine X.callSi (pc := 1) (nc := 0) (ns := 0) (c_GWL_isTurn hE (dle hd (Nat.le_of_ble_eq_true rfl)) hv2) cv_GWL_188 (by decide +kernel) (ddd hd (Nat.le_of_ble_eq_true rfl)) rfl (Nat.le_of_ble_eq_true rfl) rfl rfl ?_
  rcases ifb_some h with ⟨hq3, h⟩ | ⟨hq3, h⟩
  · refine X.if_ne_f (pc := 4) (off := 5) (tgt := 9) hq3 rfl (by decide +kernel) ?_
    refine X.iconst (pc := 7) (i := (-1)) (v := (-1)) ic_m1 (by decide +kernel) ?_
    have j0 := Option.some.inj h
    obtain ⟨i0, j1⟩ := Prod.mk.inj j0
    obtain ⟨i1, j2⟩ := Prod.mk.inj j1
    subst i0
    subst i1
    subst j2
    exact X.ireturn (pc := 8) (by decide +kernel) ⟨_, rfl, rfl⟩ ⟨rfl, rfl, rfl, rfl, rfl, rfl⟩
  · refine X.if_ne_t (pc := 4) (off := 5) (tgt := 9) hq3 rfl (by decide +kernel) ?_
    refine X.aload_0 (pc := 9) (by decide +kernel) ?_
    obtain ⟨x4, hv5, h⟩ := bnd1_some h
    refine X.callVi (pc := 10) (nc := 0) (ns := 0) (c_GWL_isOver hE (dle hd (Nat.le_of_ble_eq_true rfl)) hS hv5) cv_GWL_191 (by decide +kernel) hS ⟨by decide, rfl⟩ (ddd hd (Nat.le_of_ble_eq_true rfl)) rfl (Nat.le_of_ble_eq_true rfl) rfl rfl ?_
    rcases ifb_some h with ⟨hq6, h⟩ | ⟨hq6, h⟩
    · refine X.if_eq_t (pc := 13) (off := 6) (tgt := 19) hq6 rfl (by decide +kernel) ?_
      refine X.aload_0 (pc := 19) (by decide +kernel) ?_
      obtain ⟨b7, hb7, h⟩ := bnd1_some h
      refine X.getR (pc := 20) (k := 3) fw_GWL_87 (by decide +kernel) (fun _ => rfl) hS hb7 ?_
      obtain ⟨hc8, h⟩ := asrt_some h
      refine X.getI (pc := 23) (k := 2) fw_GWL_181 (by decide +kernel) (fun _ => rfl) hc8 ?_
      refine X.iconst (pc := 26) (i := 1) (v := 1) ic_1 (by decide +kernel) ?_
      rcases ifb_some h with ⟨hq9, h⟩ | ⟨hq9, h⟩
      · refine X.icmp_ge_t (pc := 27) (off := 6) (tgt := 33) hq9 rfl (by decide +kernel) ?_
        refine X.aload_0 (pc := 33) (by decide +kernel) ?_
        obtain ⟨b10, hb10, h⟩ := bnd1_some h
        refine X.getR (pc := 34) (k := 4) fw_GWL_26 (by decide +kernel) (fun _ => rfl) hS hb10 ?_
        refine X.aload_0 (pc := 37) (by decide +kernel) ?_
        refine X.getR (pc := 38) (k := 3) fw_GWL_87 (by decide +kernel) (fun _ => rfl) hS hb7 ?_
        obtain ⟨hc11, h⟩ := asrt_some h
        obtain ⟨I12, hv13, h⟩ := bnd1_some h
        refine X.callVv (pc := 41) (nc := 0) (ns := 0) (c_Past_remember hE (dle hd (Nat.le_of_ble_eq_true rfl)) hc11 hv13) cv_GWL_195 (by decide +kernel) hc11 ⟨by decide, rfl⟩ (ddd hd (Nat.le_of_ble_eq_true rfl)) rfl (Nat.le_of_ble_eq_true rfl) rfl rfl ?_
        refine X.aload_0 (pc := 44) (by decide +kernel) ?_
        refine X.getR (pc := 45) (k := 3) fw_GWL_87 (by decide +kernel) (fun _ => rfl) hS hb7 ?_
        refine X.dupr (pc := 48) (by decide +kernel) ?_
        refine X.getI (pc := 49) (k := 2) fw_GWL_181 (by decide +kernel) (fun _ => rfl) hc8 ?_
        refine X.iconst (pc := 52) (i := 1) (v := 1) ic_1 (by decide +kernel) ?_
        refine X.isub (pc := 53) (by decide +kernel) ?_
        refine X.nameI (fun x14 hx14 => ?_)
        have h := lt_at hx14 h
        refine X.putI (pc := 54) (k := 2) fw_GWL_181 (by decide +kernel) rfl rfl hc8 ?_
        refine X.nameMI (fun I15 hI15 => ?_)
        have h := lt_at hI15 h
        refine X.aload_0 (pc := 57) (by decide +kernel) ?_
        refine X.getR (pc := 58) (k := 3) fw_GWL_87 (by decide +kernel) (fun _ => rfl) hS hb7 ?_
        refine X.dupr (pc := 61) (by decide +kernel) ?_
        refine X.getI (pc := 62) (k := 5) fw_GWL_213 (by decide +kernel) (fun _ => rfl) hc8 ?_
        refine X.iconst (pc := 65) (i := 1) (v := 1) ic_1 (by decide +kernel) ?_
        refine X.iadd (pc := 66) (by decide +kernel) ?_
        refine X.nameI (fun x16 hx16 => ?_)
        have h := lt_at hx16 h
        refine X.putI (pc := 67) (k := 5) fw_GWL_213 (by decide +kernel) rfl rfl hc8 ?_
        refine X.nameMI (fun I17 hI17 => ?_)
        have h := lt_at hI17 h
        refine X.aload_0 (pc := 70) (by decide +kernel) ?_
        refine X.getR (pc := 71) (k := 3) fw_GWL_87 (by decide +kernel) (fun _ => rfl) hS hb7 ?_
        obtain ⟨x18, I19, hv20, h⟩ := bnd2_some h
        refine X.callVi (pc := 74) (nc := 0) (ns := 0) (c_Party_drawTenths hE (dle hd (Nat.le_of_ble_eq_true rfl)) hc8 hv20) cv_GWL_216 (by decide +kernel) hc8 ⟨by decide, rfl⟩ (ddd hd (Nat.le_of_ble_eq_true rfl)) rfl (Nat.le_of_ble_eq_true rfl) rfl rfl ?_
        refine X.aload_0 (pc := 77) (by decide +kernel) ?_
        refine X.getI (pc := 78) (k := 6) fw_GWL_30 (by decide +kernel) (fun _ => rfl) hS ?_
        obtain ⟨y22, hr23, h⟩ := bnd1_some h
        have hj24 : X E y_GWL_ask b_GWL_ask 4 (some .int) false d 0 0 89 [some (.ref (e_b E + t)), some (.int p1), none, none] [.int y22] S I19 L R n (Kq (some (.int v)) S I' L' R n) := by
          refine X.istore_2 (pc := 89) (by decide +kernel) (by decide) rfl ?_
          refine X.iload_2 (pc := 90) (by decide +kernel) ?_
          obtain ⟨y26, I27, hr28, h⟩ := bnd2_some h
          have hj29 : X E y_GWL_ask b_GWL_ask 4 (some .int) false d 0 0 109 [some (.ref (e_b E + t)), none, some (.int y22), none] [.int y26] S I27 L R n (Kq (some (.int v)) S I' L' R n) := by
            refine X.istore_3 (pc := 109) (by decide +kernel) (by decide) rfl ?_
            refine X.aload_0 (pc := 110) (by decide +kernel) ?_
            refine X.getR (pc := 111) (k := 3) fw_GWL_87 (by decide +kernel) (fun _ => rfl) hS hb7 ?_
            refine X.aload_0 (pc := 114) (by decide +kernel) ?_
            obtain ⟨b34, hb34, h⟩ := bnd1_some h
            refine X.getR (pc := 115) (k := 2) fw_GWL_83 (by decide +kernel) (fun _ => rfl) hS hb34 ?_
            refine X.iload_3 (pc := 118) (by decide +kernel) ?_
            obtain ⟨I35, hv36, h⟩ := bnd1_some h
            refine X.callVv (pc := 119) (nc := 0) (ns := 0) (c_Party_tread hE (dle hd (Nat.le_of_ble_eq_true rfl)) hc8 hv36) cv_GWL_199 (by decide +kernel) hc8 ⟨by decide, rfl⟩ (ddd hd (Nat.le_of_ble_eq_true rfl)) rfl (Nat.le_of_ble_eq_true rfl) rfl rfl ?_
            refine X.aload_0 (pc := 122) (by decide +kernel) ?_
            obtain ⟨b37, hb37, h⟩ := bnd1_some h
            refine X.getR (pc := 123) (k := 1) fw_GWL_19 (by decide +kernel) (fun _ => rfl) hS hb37 ?_
            obtain ⟨hc38, h⟩ := asrt_some h
            obtain ⟨I39, hv40, h⟩ := bnd1_some h
            refine X.callVv (pc := 126) (nc := 0) (ns := 0) (c_Numbers_begin hE (dle hd (Nat.le_of_ble_eq_true rfl)) hc38 hv40) cv_GWL_207 (by decide +kernel) hc38 ⟨by decide, rfl⟩ (ddd hd (Nat.le_of_ble_eq_true rfl)) rfl (Nat.le_of_ble_eq_true rfl) rfl rfl ?_
            refine X.aload_0 (pc := 129) (by decide +kernel) ?_
            refine X.getR (pc := 130) (k := 1) fw_GWL_19 (by decide +kernel) (fun _ => rfl) hS hb37 ?_
            refine X.iload_2 (pc := 133) (by decide +kernel) ?_
            obtain ⟨y42, hr43, h⟩ := bnd1_some h
            have hj44 : X E y_GWL_ask b_GWL_ask 4 (some .int) false d 0 0 142 [some (.ref (e_b E + t)), none, none, some (.int y26)] [.long y42, .ref (e_b E + b37)] S I39 L R n (Kq (some (.int v)) S I' L' R n) := by
              obtain ⟨I45, L46, hv47, h⟩ := bnd2_some h
              refine X.callVv (pc := 142) (nc := 0) (ns := 0) (c_Numbers_add hE (dle hd (Nat.le_of_ble_eq_true rfl)) hc38 hv47) cv_GWL_209 (by decide +kernel) hc38 ⟨by decide, rfl⟩ (ddd hd (Nat.le_of_ble_eq_true rfl)) rfl (Nat.le_of_ble_eq_true rfl) rfl rfl ?_
              refine X.aload_0 (pc := 145) (by decide +kernel) ?_
              refine X.getR (pc := 146) (k := 1) fw_GWL_19 (by decide +kernel) (fun _ => rfl) hS hb37 ?_
              refine X.iload_3 (pc := 149) (by decide +kernel) ?_
              refine X.i2l (pc := 150) (by decide +kernel) ?_
              obtain ⟨I48, L49, hv50, h⟩ := bnd2_some h
              refine X.callVv (pc := 151) (nc := 0) (ns := 0) (c_Numbers_add hE (dle hd (Nat.le_of_ble_eq_true rfl)) hc38 hv50) cv_GWL_209 (by decide +kernel) hc38 ⟨by decide, rfl⟩ (ddd hd (Nat.le_of_ble_eq_true rfl)) rfl (Nat.le_of_ble_eq_true rfl) rfl rfl ?_
              refine X.aload_0 (pc := 154) (by decide +kernel) ?_
              refine X.getR (pc := 155) (k := 3) fw_GWL_87 (by decide +kernel) (fun _ => rfl) hS hb7 ?_
              refine X.getI (pc := 158) (k := 0) fw_GWL_175 (by decide +kernel) (fun _ => rfl) hc8 ?_
              refine X.nameI (fun x51 hx51 => ?_)
              have h := lt_at hx51 h
              have j0 := Option.some.inj h
              obtain ⟨i0, j1⟩ := Prod.mk.inj j0
              obtain ⟨i1, j2⟩ := Prod.mk.inj j1
              subst i0
              subst i1
              subst j2
              exact X.ireturn (pc := 161) (by decide +kernel) ⟨_, rfl, rfl⟩ ⟨rfl, rfl, rfl, rfl, rfl, rfl⟩
            have h := hr43
            rcases ifb_some h with ⟨hq41, h⟩ | ⟨hq41, h⟩
            · refine X.if_eq_t (pc := 134) (off := 7) (tgt := 141) hq41 rfl (by decide +kernel) ?_
              refine X.lconst (pc := 141) (i := 0) (v := 0) rfl (by decide +kernel) ?_
              have j0 := Option.some.inj h
              subst j0
              refine X.fgt (o' := [some (.ref (e_b E + t)), none, none, some (.int y26)]) ⟨rfl, ⟨rfl, trivial⟩⟩ ?_
              exact hj44
            · refine X.if_eq_f (pc := 134) (off := 7) (tgt := 141) hq41 rfl (by decide +kernel) ?_
              refine X.lconst (pc := 137) (i := 1) (v := 1) rfl (by decide +kernel) ?_
              refine X.goto (pc := 138) (off := 4) (tgt := 142) (by decide +kernel) rfl ?_
              have j0 := Option.some.inj h
              subst j0
              refine X.fgt (o' := [some (.ref (e_b E + t)), none, none, some (.int y26)]) ⟨rfl, ⟨rfl, trivial⟩⟩ ?_
              exact hj44
          have h := hr28
          rcases ifb_some h with ⟨hq25, h⟩ | ⟨hq25, h⟩
          · refine X.if_eq_t (pc := 91) (off := 7) (tgt := 98) hq25 rfl (by decide +kernel) ?_
            refine X.aload_0 (pc := 98) (by decide +kernel) ?_
            refine X.getR (pc := 99) (k := 3) fw_GWL_87 (by decide +kernel) (fun _ => rfl) hS hb7 ?_
            refine X.aload_0 (pc := 102) (by decide +kernel) ?_
            obtain ⟨b30, hb30, h⟩ := bnd1_some h
            refine X.getR (pc := 103) (k := 5) fw_GWL_91 (by decide +kernel) (fun _ => rfl) hS hb30 ?_
            obtain ⟨x31, I32, hv33, h⟩ := bnd2_some h
            refine X.callVi (pc := 106) (nc := 0) (ns := 0) (c_Party_turnByWeights hE (dle hd (Nat.le_of_ble_eq_true rfl)) hc8 hv33) cv_GWL_203 (by decide +kernel) hc8 ⟨by decide, rfl⟩ (ddd hd (Nat.le_of_ble_eq_true rfl)) rfl (Nat.le_of_ble_eq_true rfl) rfl rfl ?_
            have j0 := Option.some.inj h
            obtain ⟨i0, j1⟩ := Prod.mk.inj j0
            subst i0
            subst j1
            refine X.fgt (o' := [some (.ref (e_b E + t)), none, some (.int y22), none]) ⟨rfl, ⟨rfl, trivial⟩⟩ ?_
            exact hj29
          · refine X.if_eq_f (pc := 91) (off := 7) (tgt := 98) hq25 rfl (by decide +kernel) ?_
            refine X.iload_1 (pc := 94) (by decide +kernel) ?_
            refine X.goto (pc := 95) (off := 14) (tgt := 109) (by decide +kernel) rfl ?_
            have j0 := Option.some.inj h
            obtain ⟨i0, j1⟩ := Prod.mk.inj j0
            subst i0
            subst j1
            refine X.fgt (o' := [some (.ref (e_b E + t)), none, some (.int y22), none]) ⟨rfl, ⟨rfl, trivial⟩⟩ ?_
            exact hj29
        have h := hr23
        rcases ifb_some h with ⟨hq21, h⟩ | ⟨hq21, h⟩
        · refine X.icmp_ge_t (pc := 81) (off := 7) (tgt := 88) hq21 rfl (by decide +kernel) ?_
          refine X.iconst (pc := 88) (i := 0) (v := 0) ic_0 (by decide +kernel) ?_
          have j0 := Option.some.inj h
          subst j0
          exact hj24
        · refine X.icmp_ge_f (pc := 81) (off := 7) (tgt := 88) hq21 rfl (by decide +kernel) ?_
          refine X.iconst (pc := 84) (i := 1) (v := 1) ic_1 (by decide +kernel) ?_
          refine X.goto (pc := 85) (off := 4) (tgt := 89) (by decide +kernel) rfl ?_
          have j0 := Option.some.inj h
          subst j0
          exact hj24
      · refine X.icmp_ge_f (pc := 27) (off := 6) (tgt := 33) hq9 rfl (by decide +kernel) ?_
        refine X.bipush (pc := 30) (i := (-3)) (v := (-3)) bp_m3 (by decide +kernel) ?_
        have j0 := Option.some.inj h
        obtain ⟨i0, j1⟩ := Prod.mk.inj j0
        obtain ⟨i1, j2⟩ := Prod.mk.inj j1
        subst i0
        subst i1
        subst j2
        exact X.ireturn (pc := 32) (by decide +kernel) ⟨_, rfl, rfl⟩ ⟨rfl, rfl, rfl, rfl, rfl, rfl⟩
    · refine X.if_eq_f (pc := 13) (off := 6) (tgt := 19) hq6 rfl (by decide +kernel) ?_
      refine X.bipush (pc := 16) (i := (-2)) (v := (-2)) bp_m2 (by decide +kernel) ?_
      have j0 := Option.some.inj h
      obtain ⟨i0, j1⟩ := Prod.mk.inj j0
      obtain ⟨i1, j2⟩ := Prod.mk.inj j1
      subst i0
      subst i1
      subst j2
      exact X.ireturn (pc := 18) (by decide +kernel) ⟨_, rfl, rfl⟩ ⟨rfl, rfl, rfl, rfl, rfl, rfl⟩
set_option maxRecDepth 100000 in
noncomputable def f_Past_recall (S : MS) (R : MR) (I : MI) (t : Nat) (p1 : Nat) : Option (Int32 × MI) :=
  ifb ((I t 2) = 0)
    (some (0, I))
    (bnd1 (ifb ((I t 1) = 0)
        (some 19)
        (some ((I t 1) - 1))) fun (y3 : Int32) =>
    lt (wI I t 1 y3) fun (I6 : MI) =>
    bnd1 (ifb ((I6 t 1) < 0)
        (some I6)
        (ifb (20 ≤ (I6 t 1))
          (some I6)
          (bnd1 (R t 0) fun b12 =>
          lt (I6 t 1) fun (x13 : Int32) =>
          asrt ((S b12).1 = 24) <|
          asrt (vp_in x13 (S b12).2) <|
          bnd1 (R b12 (Int32.toNatClampNeg x13)) fun b16 =>
          asrt ((S p1).1 = 5) <|
          bnd1 (f_Party_takeFrom S R I6 p1 b16) fun I18 =>
          some I18))) fun (I8 : MI) =>
    lt ((I8 t 2) - 1) fun (x20 : Int32) =>
    lt (wI I8 t 2 x20) fun (I21 : MI) =>
    some (1, I21))
set_option maxRecDepth 100000 in
set_option maxHeartbeats 4000000 in
theorem c_Past_recall {E : Env} (hE : OKE E) {d : Nat} (hd : 2 ≤ d) {S : MS} {I : MI} {L : ML} {R : MR} {n : Nat} {t : Nat} {p1 : Nat} {v : Int32} {I' : MI} (hS : (S t).1 = 6) (h : f_Past_recall S R I t p1 = some (v, I')) : C E y_Past_recall b_Past_recall 2 (some .boolean) false d 0 0 [.ref (e_b E + t), .ref (e_b E + p1)] S I L R n (Kq (some (.int v)) S I' L R n) := by
  refine C.of (o := [some (.ref (e_b E + t)), some (.ref (e_b E + p1))]) (by decide) rfl (Nat.le_of_ble_eq_true rfl) ?_
  rw [f_Past_recall] at h
  refine X.aload_0 (pc := 0) (by decide +kernel) ?_
  refine X.getI (pc := 1) (k := 2) fw_Past_26 (by decide +kernel) (fun _ => rfl) hS ?_
  rcases ifb_some h with ⟨hq1, h⟩ | ⟨hq1, h⟩
  · refine X.if_ne_f (pc := 4) (off := 5) (tgt := 9) hq1 rfl (by decide +kernel) ?_
    refine X.iconst (pc := 7) (i := 0) (v := 0) ic_0 (by decide +kernel) ?_
    have j0 := Option.some.inj h
    obtain ⟨i0, j1⟩ := Prod.mk.inj j0
    subst i0
    subst j1
    exact X.ireturn (pc := 8) (by decide +kernel) ⟨_, rfl, nz01 (Or.inl rfl)⟩ ⟨rfl, rfl, rfl, rfl, rfl, rfl⟩
  · refine X.if_ne_t (pc := 4) (off := 5) (tgt := 9) hq1 rfl (by decide +kernel) ?_
    refine X.aload_0 (pc := 9) (by decide +kernel) ?_
    refine X.aload_0 (pc := 10) (by decide +kernel) ?_
    refine X.getI (pc := 11) (k := 1) fw_Past_18 (by decide +kernel) (fun _ => rfl) hS ?_
    obtain ⟨y3, hr4, h⟩ := bnd1_some h
    have hj5 : X E y_Past_recall b_Past_recall 2 (some .boolean) false d 0 0 28 [some (.ref (e_b E + t)), some (.ref (e_b E + p1))] [.int y3, .ref (e_b E + t)] S I L R n (Kq (some (.int v)) S I' L R n) := by
      refine X.putI (pc := 28) (k := 1) fw_Past_18 (by decide +kernel) rfl rfl hS ?_
      refine X.nameMI (fun I6 hI6 => ?_)
      have h := lt_at hI6 h
      refine X.aload_0 (pc := 31) (by decide +kernel) ?_
      refine X.getI (pc := 32) (k := 1) fw_Past_18 (by decide +kernel) (fun _ => rfl) hS ?_
      obtain ⟨I8, hr9, h⟩ := bnd1_some h
      have hj10 : X E y_Past_recall b_Past_recall 2 (some .boolean) false d 0 0 60 [some (.ref (e_b E + t)), none] [] S I8 L R n (Kq (some (.int v)) S I' L R n) := by
        refine X.aload_0 (pc := 60) (by decide +kernel) ?_
        refine X.dupr (pc := 61) (by decide +kernel) ?_
        refine X.getI (pc := 62) (k := 2) fw_Past_26 (by decide +kernel) (fun _ => rfl) hS ?_
        refine X.iconst (pc := 65) (i := 1) (v := 1) ic_1 (by decide +kernel) ?_
        refine X.isub (pc := 66) (by decide +kernel) ?_
        refine X.nameI (fun x20 hx20 => ?_)
        have h := lt_at hx20 h
        refine X.putI (pc := 67) (k := 2) fw_Past_26 (by decide +kernel) rfl rfl hS ?_
        refine X.nameMI (fun I21 hI21 => ?_)
        have h := lt_at hI21 h
        refine X.iconst (pc := 70) (i := 1) (v := 1) ic_1 (by decide +kernel) ?_
        have j0 := Option.some.inj h
        obtain ⟨i0, j1⟩ := Prod.mk.inj j0
        subst i0
        subst j1
        exact X.ireturn (pc := 71) (by decide +kernel) ⟨_, rfl, nz01 (Or.inr rfl)⟩ ⟨rfl, rfl, rfl, rfl, rfl, rfl⟩
      have h := hr9
      rcases ifb_some h with ⟨hq7, h⟩ | ⟨hq7, h⟩
      · refine X.if_lt_t (pc := 35) (off := 25) (tgt := 60) hq7 rfl (by decide +kernel) ?_
        have j0 := Option.some.inj h
        subst j0
        refine X.fgt (o' := [some (.ref (e_b E + t)), none]) ⟨rfl, trivial⟩ ?_
        exact hj10
      · refine X.if_lt_f (pc := 35) (off := 25) (tgt := 60) hq7 rfl (by decide +kernel) ?_
        refine X.aload_0 (pc := 38) (by decide +kernel) ?_
        refine X.getI (pc := 39) (k := 1) fw_Past_18 (by decide +kernel) (fun _ => rfl) hS ?_
        refine X.bipush (pc := 42) (i := 20) (v := 20) bp_20 (by decide +kernel) ?_
        rcases ifb_some h with ⟨hq11, h⟩ | ⟨hq11, h⟩
        · refine X.icmp_ge_t (pc := 44) (off := 16) (tgt := 60) hq11 rfl (by decide +kernel) ?_
          have j0 := Option.some.inj h
          subst j0
          refine X.fgt (o' := [some (.ref (e_b E + t)), none]) ⟨rfl, trivial⟩ ?_
          exact hj10
        · refine X.icmp_ge_f (pc := 44) (off := 16) (tgt := 60) hq11 rfl (by decide +kernel) ?_
          refine X.aload_1 (pc := 47) (by decide +kernel) ?_
          refine X.aload_0 (pc := 48) (by decide +kernel) ?_
          obtain ⟨b12, hb12, h⟩ := bnd1_some h
          refine X.getR (pc := 49) (k := 0) fw_Past_11 (by decide +kernel) (fun _ => rfl) hS hb12 ?_
          refine X.aload_0 (pc := 52) (by decide +kernel) ?_
          refine X.getI (pc := 53) (k := 1) fw_Past_18 (by decide +kernel) (fun _ => rfl) hS ?_
          refine X.nameI (fun x13 hx13 => ?_)
          have h := lt_at hx13 h
          obtain ⟨hc15, h⟩ := asrt_some h
          obtain ⟨hi14, h⟩ := asrt_some h
          obtain ⟨b16, hb16, h⟩ := bnd1_some h
          refine X.aaload (pc := 56) (by decide +kernel) (Or.inr hc15) hi14 hb16 ?_
          obtain ⟨hc17, h⟩ := asrt_some h
          obtain ⟨I18, hv19, h⟩ := bnd1_some h
          refine X.callVv (pc := 57) (nc := 0) (ns := 0) (c_Party_takeFrom hE (dle hd (Nat.le_of_ble_eq_true rfl)) hc17 hv19) cv_Past_22 (by decide +kernel) hc17 ⟨by decide, rfl⟩ (ddd hd (Nat.le_of_ble_eq_true rfl)) rfl (Nat.le_of_ble_eq_true rfl) rfl rfl ?_
          have j0 := Option.some.inj h
          subst j0
          refine X.fgt (o' := [some (.ref (e_b E + t)), none]) ⟨rfl, trivial⟩ ?_
          exact hj10
    have h := hr4
    rcases ifb_some h with ⟨hq2, h⟩ | ⟨hq2, h⟩
    · refine X.if_ne_f (pc := 14) (off := 8) (tgt := 22) hq2 rfl (by decide +kernel) ?_
      refine X.bipush (pc := 17) (i := 19) (v := 19) bp_19 (by decide +kernel) ?_
      refine X.goto (pc := 19) (off := 9) (tgt := 28) (by decide +kernel) rfl ?_
      have j0 := Option.some.inj h
      subst j0
      exact hj5
    · refine X.if_ne_t (pc := 14) (off := 8) (tgt := 22) hq2 rfl (by decide +kernel) ?_
      refine X.aload_0 (pc := 22) (by decide +kernel) ?_
      refine X.getI (pc := 23) (k := 1) fw_Past_18 (by decide +kernel) (fun _ => rfl) hS ?_
      refine X.iconst (pc := 26) (i := 1) (v := 1) ic_1 (by decide +kernel) ?_
      refine X.isub (pc := 27) (by decide +kernel) ?_
      have j0 := Option.some.inj h
      subst j0
      exact hj5
set_option maxRecDepth 100000 in
noncomputable def f_GWL_undo (S : MS) (R : MR) (I : MI) (t : Nat) : Option (Int32 × MI) :=
  bnd1 (R t 4) fun b1 =>
  bnd1 (R t 3) fun b2 =>
  asrt ((S b1).1 = 6) <|
  bnd2 (f_Past_recall S R I b1 b2) fun x4 I5 =>
  bnd1 (ifb (x4 = 0)
      (some (-1))
      (some (I5 b1 2))) fun (y8 : Int32) =>
  some (y8, I5)
set_option maxRecDepth 100000 in
set_option maxHeartbeats 4000000 in
theorem c_GWL_undo {E : Env} (hE : OKE E) {d : Nat} (hd : 3 ≤ d) {S : MS} {I : MI} {L : ML} {R : MR} {n : Nat} {t : Nat} {v : Int32} {I' : MI} (hS : (S t).1 = 11) (h : f_GWL_undo S R I t = some (v, I')) : C E y_GWL_undo b_GWL_undo 1 (some .int) false d 0 0 [.ref (e_b E + t)] S I L R n (Kq (some (.int v)) S I' L R n) := by
  refine C.of (o := [some (.ref (e_b E + t))]) (by decide) rfl (Nat.le_of_ble_eq_true rfl) ?_
  rw [f_GWL_undo] at h
  refine X.aload_0 (pc := 0) (by decide +kernel) ?_
  obtain ⟨b1, hb1, h⟩ := bnd1_some h
  refine X.getR (pc := 1) (k := 4) fw_GWL_26 (by decide +kernel) (fun _ => rfl) hS hb1 ?_
  refine X.aload_0 (pc := 4) (by decide +kernel) ?_
  obtain ⟨b2, hb2, h⟩ := bnd1_some h
  refine X.getR (pc := 5) (k := 3) fw_GWL_87 (by decide +kernel) (fun _ => rfl) hS hb2 ?_
  obtain ⟨hc3, h⟩ := asrt_some h
  obtain ⟨x4, I5, hv6, h⟩ := bnd2_some h
  refine X.callVi (pc := 8) (nc := 0) (ns := 0) (c_Past_recall hE (dle hd (Nat.le_of_ble_eq_true rfl)) hc3 hv6) cv_GWL_219 (by decide +kernel) hc3 ⟨by decide, rfl⟩ (ddd hd (Nat.le_of_ble_eq_true rfl)) rfl (Nat.le_of_ble_eq_true rfl) rfl rfl ?_
  obtain ⟨y8, hr9, h⟩ := bnd1_some h
  have hj10 : X E y_GWL_undo b_GWL_undo 1 (some .int) false d 0 0 25 [none] [.int y8] S I5 L R n (Kq (some (.int v)) S I' L R n) := by
    have j0 := Option.some.inj h
    obtain ⟨i0, j1⟩ := Prod.mk.inj j0
    subst i0
    subst j1
    exact X.ireturn (pc := 25) (by decide +kernel) ⟨_, rfl, rfl⟩ ⟨rfl, rfl, rfl, rfl, rfl, rfl⟩
  have h := hr9
  rcases ifb_some h with ⟨hq7, h⟩ | ⟨hq7, h⟩
  · refine X.if_eq_t (pc := 11) (off := 13) (tgt := 24) hq7 rfl (by decide +kernel) ?_
    refine X.iconst (pc := 24) (i := (-1)) (v := (-1)) ic_m1 (by decide +kernel) ?_
    have j0 := Option.some.inj h
    subst j0
    refine X.fgt (o' := [none]) trivial ?_
    exact hj10
  · refine X.if_eq_f (pc := 11) (off := 13) (tgt := 24) hq7 rfl (by decide +kernel) ?_
    refine X.aload_0 (pc := 14) (by decide +kernel) ?_
    refine X.getR (pc := 15) (k := 4) fw_GWL_26 (by decide +kernel) (fun _ => rfl) hS hb1 ?_
    refine X.getI (pc := 18) (k := 2) fw_GWL_223 (by decide +kernel) (fun _ => rfl) hc3 ?_
    refine X.goto (pc := 21) (off := 4) (tgt := 25) (by decide +kernel) rfl ?_
    have j0 := Option.some.inj h
    subst j0
    refine X.fgt (o' := [none]) trivial ?_
    exact hj10
set_option maxRecDepth 100000 in
noncomputable def f_GWL_turnOf (p1 : Int32) : Option Int32 :=
  ifb (p1 = 108)
    (some 0)
    (ifb (p1 = 111)
      (some 1)
      (ifb (p1 = 114)
        (some 2)
        (some (-1))))
set_option maxRecDepth 100000 in
set_option maxHeartbeats 4000000 in
theorem c_GWL_turnOf {E : Env} (hE : OKE E) {tg : Bool} {d : Nat} (hd : 0 ≤ d) {S : MS} {I : MI} {L : ML} {R : MR} {n : Nat} {p1 : Int32} {v : Int32} (h : f_GWL_turnOf p1 = some v) : C E y_GWL_turnOf b_GWL_turnOf 1 (some .int) tg d 0 0 [.int p1] S I L R n (Kq (some (.int v)) S I L R n) := by
  refine C.of (o := [some (.int p1)]) (by decide) rfl (Nat.le_of_ble_eq_true rfl) ?_
  rw [f_GWL_turnOf] at h
  refine X.iload_0 (pc := 0) (by decide +kernel) ?_
  rcases ifb_some h with ⟨hq1_0, h⟩ | ⟨hq1_0, h⟩
  · refine X.lookup (pc := 1) (dflt := 41) (ps := #[(108, 35), (111, 37), (114, 39)]) (len := 35) (off := 35) (tgt := 36) (by decide +kernel) (by decide +kernel) (by rw [hq1_0]; decide +kernel) rfl ?_
    refine X.iconst (pc := 36) (i := 0) (v := 0) ic_0 (by decide +kernel) ?_
    have j0 := Option.some.inj h
    subst j0
    exact X.ireturn (pc := 37) (by decide +kernel) ⟨_, rfl, rfl⟩ ⟨rfl, rfl, rfl, rfl, rfl, rfl⟩
  · rcases ifb_some h with ⟨hq1_1, h⟩ | ⟨hq1_1, h⟩
    · refine X.lookup (pc := 1) (dflt := 41) (ps := #[(108, 35), (111, 37), (114, 39)]) (len := 35) (off := 37) (tgt := 38) (by decide +kernel) (by decide +kernel) (by rw [hq1_1]; decide +kernel) rfl ?_
      refine X.iconst (pc := 38) (i := 1) (v := 1) ic_1 (by decide +kernel) ?_
      have j0 := Option.some.inj h
      subst j0
      exact X.ireturn (pc := 39) (by decide +kernel) ⟨_, rfl, rfl⟩ ⟨rfl, rfl, rfl, rfl, rfl, rfl⟩
    · rcases ifb_some h with ⟨hq1_2, h⟩ | ⟨hq1_2, h⟩
      · refine X.lookup (pc := 1) (dflt := 41) (ps := #[(108, 35), (111, 37), (114, 39)]) (len := 35) (off := 39) (tgt := 40) (by decide +kernel) (by decide +kernel) (by rw [hq1_2]; decide +kernel) rfl ?_
        refine X.iconst (pc := 40) (i := 2) (v := 2) ic_2 (by decide +kernel) ?_
        have j0 := Option.some.inj h
        subst j0
        exact X.ireturn (pc := 41) (by decide +kernel) ⟨_, rfl, rfl⟩ ⟨rfl, rfl, rfl, rfl, rfl, rfl⟩
      · refine X.lookup (pc := 1) (dflt := 41) (ps := #[(108, 35), (111, 37), (114, 39)]) (len := 35) (off := 41) (tgt := 42) (by decide +kernel) (by decide +kernel) ?_ rfl ?_
        · show Op.lookupswitch.offset [(108, 35), (111, 37), (114, 39)] 41 _ = _
          rw [lv_osw (a := 108) hq1_0 (by decide), lv_osw (a := 111) hq1_1 (by decide), lv_osw (a := 114) hq1_2 (by decide)]
          rfl
        refine X.iconst (pc := 42) (i := (-1)) (v := (-1)) ic_m1 (by decide +kernel) ?_
        have j0 := Option.some.inj h
        subst j0
        exact X.ireturn (pc := 43) (by decide +kernel) ⟨_, rfl, rfl⟩ ⟨rfl, rfl, rfl, rfl, rfl, rfl⟩
set_option maxRecDepth 100000 in
noncomputable def l_GWL_walkFault_2 (S : MS) (R : MR) (I : MI) (v0 : Nat) : Nat → Int32 → Option Int32
  | 0, _ => none
  | f + 1, v1 =>
    bnd1 (R v0 0) fun b1 =>
    asrt ((S b1).1 = 8) <|
    bnd1 (f_Signs_length S I b1) fun x3 =>
    ifb (x3 ≤ v1)
      (some (-1))
      (ifb (v1 = 30)
        (some v1)
        (bnd1 (f_Signs_at S R I b1 v1) fun x7 =>
        bnd1 (f_GWL_turnOf x7) fun x9 =>
        ifb (x9 = (-1))
          (some v1)
          (l_GWL_walkFault_2 S R I v0 f (v1 + 1))))
set_option maxRecDepth 100000 in
set_option maxHeartbeats 4000000 in
theorem xl_GWL_walkFault_2 {E : Env} (hE : OKE E) {tg : Bool} {d : Nat} (hd : 1 ≤ d) {S : MS} {I : MI} {L : ML} {R : MR} {n : Nat} {v0 : Nat} :
    ∀ {f : Nat}  {v1 : Int32} {v : Int32}, (S v0).1 = 11 → l_GWL_walkFault_2 S R I v0 f v1 = some v → X E y_GWL_walkFault b_GWL_walkFault 2 (some .int) tg d 0 0 2 [some (.ref (e_b E + v0)), some (.int v1)] [] S I L R n (Kq (some (.int v)) S I L R n) := by
  intro f
  induction f with
  | zero =>
    intro v1 v hS h
    rw [l_GWL_walkFault_2] at h
    cases h
  | succ f ih =>
    intro v1 v hS h
    rw [l_GWL_walkFault_2] at h
    refine X.iload_1 (pc := 2) (by decide +kernel) ?_
    refine X.aload_0 (pc := 3) (by decide +kernel) ?_
    obtain ⟨b1, hb1, h⟩ := bnd1_some h
    refine X.getR (pc := 4) (k := 0) fw_GWL_10 (by decide +kernel) (fun _ => rfl) hS hb1 ?_
    obtain ⟨hc2, h⟩ := asrt_some h
    obtain ⟨x3, hv4, h⟩ := bnd1_some h
    refine X.callVi (pc := 7) (nc := 0) (ns := 0) (c_Signs_length hE (dle hd (Nat.le_of_ble_eq_true rfl)) hc2 hv4) cv_GWL_123 (by decide +kernel) hc2 ⟨by decide, rfl⟩ (ddd hd (Nat.le_of_ble_eq_true rfl)) rfl (Nat.le_of_ble_eq_true rfl) rfl rfl ?_
    rcases ifb_some h with ⟨hq5, h⟩ | ⟨hq5, h⟩
    · refine X.icmp_ge_t (pc := 10) (off := 32) (tgt := 42) hq5 rfl (by decide +kernel) ?_
      refine X.iconst (pc := 42) (i := (-1)) (v := (-1)) ic_m1 (by decide +kernel) ?_
      have j0 := Option.some.inj h
      subst j0
      exact X.ireturn (pc := 43) (by decide +kernel) ⟨_, rfl, rfl⟩ ⟨rfl, rfl, rfl, rfl, rfl, rfl⟩
    · refine X.icmp_ge_f (pc := 10) (off := 32) (tgt := 42) hq5 rfl (by decide +kernel) ?_
      refine X.iload_1 (pc := 13) (by decide +kernel) ?_
      refine X.bipush (pc := 14) (i := 30) (v := 30) bp_30 (by decide +kernel) ?_
      rcases ifb_some h with ⟨hq6, h⟩ | ⟨hq6, h⟩
      · refine X.icmp_eq_t (pc := 16) (off := 18) (tgt := 34) hq6 rfl (by decide +kernel) ?_
        refine X.iload_1 (pc := 34) (by decide +kernel) ?_
        have j0 := Option.some.inj h
        subst j0
        exact X.ireturn (pc := 35) (by decide +kernel) ⟨_, rfl, rfl⟩ ⟨rfl, rfl, rfl, rfl, rfl, rfl⟩
      · refine X.icmp_eq_f (pc := 16) (off := 18) (tgt := 34) hq6 rfl (by decide +kernel) ?_
        refine X.aload_0 (pc := 19) (by decide +kernel) ?_
        refine X.getR (pc := 20) (k := 0) fw_GWL_10 (by decide +kernel) (fun _ => rfl) hS hb1 ?_
        refine X.iload_1 (pc := 23) (by decide +kernel) ?_
        obtain ⟨x7, hv8, h⟩ := bnd1_some h
        refine X.callVi (pc := 24) (nc := 0) (ns := 0) (c_Signs_at hE (dle hd (Nat.le_of_ble_eq_true rfl)) hc2 hv8) cv_GWL_237 (by decide +kernel) hc2 ⟨by decide, rfl⟩ (ddd hd (Nat.le_of_ble_eq_true rfl)) rfl (Nat.le_of_ble_eq_true rfl) rfl rfl ?_
        obtain ⟨x9, hv10, h⟩ := bnd1_some h
        refine X.callSi (pc := 27) (nc := 0) (ns := 0) (c_GWL_turnOf hE (dle hd (Nat.le_of_ble_eq_true rfl)) hv10) cv_GWL_240 (by decide +kernel) (ddd hd (Nat.le_of_ble_eq_true rfl)) rfl (Nat.le_of_ble_eq_true rfl) rfl rfl ?_
        refine X.iconst (pc := 30) (i := (-1)) (v := (-1)) ic_m1 (by decide +kernel) ?_
        rcases ifb_some h with ⟨hq11, h⟩ | ⟨hq11, h⟩
        · refine X.icmp_ne_f (pc := 31) (off := 5) (tgt := 36) hq11 rfl (by decide +kernel) ?_
          refine X.iload_1 (pc := 34) (by decide +kernel) ?_
          have j0 := Option.some.inj h
          subst j0
          exact X.ireturn (pc := 35) (by decide +kernel) ⟨_, rfl, rfl⟩ ⟨rfl, rfl, rfl, rfl, rfl, rfl⟩
        · refine X.icmp_ne_t (pc := 31) (off := 5) (tgt := 36) hq11 rfl (by decide +kernel) ?_
          refine X.iinc_1 (pc := 36) (z := 1) (v := 1) ic_1 (by decide +kernel) (by decide) rfl ?_
          refine X.goto (pc := 39) (off := (-37)) (tgt := 2) (by decide +kernel) rfl ?_
          exact ih hS h
set_option maxRecDepth 100000 in
noncomputable def f_GWL_walkFault (g : Nat) (S : MS) (R : MR) (I : MI) (t : Nat) : Option Int32 :=
  l_GWL_walkFault_2 S R I t g 0
set_option maxRecDepth 100000 in
set_option maxHeartbeats 4000000 in
theorem c_GWL_walkFault {E : Env} (hE : OKE E) {tg : Bool} {d : Nat} (hd : 1 ≤ d) {g : Nat} {S : MS} {I : MI} {L : ML} {R : MR} {n : Nat} {t : Nat} {v : Int32} (hS : (S t).1 = 11) (h : f_GWL_walkFault g S R I t = some v) : C E y_GWL_walkFault b_GWL_walkFault 2 (some .int) tg d 0 0 [.ref (e_b E + t)] S I L R n (Kq (some (.int v)) S I L R n) := by
  refine C.of (o := [some (.ref (e_b E + t)), none]) (by decide) rfl (Nat.le_of_ble_eq_true rfl) ?_
  rw [f_GWL_walkFault] at h
  refine X.iconst (pc := 0) (i := 0) (v := 0) ic_0 (by decide +kernel) ?_
  refine X.istore_1 (pc := 1) (by decide +kernel) (by decide) rfl ?_
  exact xl_GWL_walkFault_2 hE hd hS h
set_option maxRecDepth 100000 in
noncomputable def f_GWL_fate (S : MS) (R : MR) (I : MI) (t : Nat) (p1 : Int32) : Option Int32 :=
  bnd1 (R t 2) fun b1 =>
  asrt ((S b1).1 = 2) <|
  bnd1 (f_Land_kindOf S R I b1 p1) fun x3 =>
  bnd1 (ifb (x3 = 1)
      (some 1)
      (ifb (x3 = 3)
        (some 2)
        (some 0))) fun (y6 : Int32) =>
  some y6
set_option maxRecDepth 100000 in
set_option maxHeartbeats 4000000 in
theorem c_GWL_fate {E : Env} (hE : OKE E) {tg : Bool} {d : Nat} (hd : 1 ≤ d) {S : MS} {I : MI} {L : ML} {R : MR} {n : Nat} {t : Nat} {p1 : Int32} {v : Int32} (hS : (S t).1 = 11) (h : f_GWL_fate S R I t p1 = some v) : C E y_GWL_fate b_GWL_fate 3 (some .int) tg d 0 0 [.ref (e_b E + t), .int p1] S I L R n (Kq (some (.int v)) S I L R n) := by
  refine C.of (o := [some (.ref (e_b E + t)), some (.int p1), none]) (by decide) rfl (Nat.le_of_ble_eq_true rfl) ?_
  rw [f_GWL_fate] at h
  refine X.aload_0 (pc := 0) (by decide +kernel) ?_
  obtain ⟨b1, hb1, h⟩ := bnd1_some h
  refine X.getR (pc := 1) (k := 2) fw_GWL_83 (by decide +kernel) (fun _ => rfl) hS hb1 ?_
  refine X.iload_1 (pc := 4) (by decide +kernel) ?_
  obtain ⟨hc2, h⟩ := asrt_some h
  obtain ⟨x3, hv4, h⟩ := bnd1_some h
  refine X.callVi (pc := 5) (nc := 0) (ns := 0) (c_Land_kindOf hE (dle hd (Nat.le_of_ble_eq_true rfl)) hc2 hv4) cv_GWL_168 (by decide +kernel) hc2 ⟨by decide, rfl⟩ (ddd hd (Nat.le_of_ble_eq_true rfl)) rfl (Nat.le_of_ble_eq_true rfl) rfl rfl ?_
  refine X.istore_2 (pc := 8) (by decide +kernel) (by decide) rfl ?_
  refine X.iload_2 (pc := 9) (by decide +kernel) ?_
  refine X.iconst (pc := 10) (i := 1) (v := 1) ic_1 (by decide +kernel) ?_
  obtain ⟨y6, hr7, h⟩ := bnd1_some h
  have hj8 : X E y_GWL_fate b_GWL_fate 3 (some .int) tg d 0 0 28 [none, none, none] [.int y6] S I L R n (Kq (some (.int v)) S I L R n) := by
    have j0 := Option.some.inj h
    subst j0
    exact X.ireturn (pc := 28) (by decide +kernel) ⟨_, rfl, rfl⟩ ⟨rfl, rfl, rfl, rfl, rfl, rfl⟩
  have h := hr7
  rcases ifb_some h with ⟨hq5, h⟩ | ⟨hq5, h⟩
  · refine X.icmp_ne_f (pc := 11) (off := 7) (tgt := 18) hq5 rfl (by decide +kernel) ?_
    refine X.iconst (pc := 14) (i := 1) (v := 1) ic_1 (by decide +kernel) ?_
    refine X.goto (pc := 15) (off := 13) (tgt := 28) (by decide +kernel) rfl ?_
    have j0 := Option.some.inj h
    subst j0
    refine X.fgt (o' := [none, none, none]) trivial ?_
    exact hj8
  · refine X.icmp_ne_t (pc := 11) (off := 7) (tgt := 18) hq5 rfl (by decide +kernel) ?_
    refine X.iload_2 (pc := 18) (by decide +kernel) ?_
    refine X.iconst (pc := 19) (i := 3) (v := 3) ic_3 (by decide +kernel) ?_
    rcases ifb_some h with ⟨hq9, h⟩ | ⟨hq9, h⟩
    · refine X.icmp_ne_f (pc := 20) (off := 7) (tgt := 27) hq9 rfl (by decide +kernel) ?_
      refine X.iconst (pc := 23) (i := 2) (v := 2) ic_2 (by decide +kernel) ?_
      refine X.goto (pc := 24) (off := 4) (tgt := 28) (by decide +kernel) rfl ?_
      have j0 := Option.some.inj h
      subst j0
      refine X.fgt (o' := [none, none, none]) trivial ?_
      exact hj8
    · refine X.icmp_ne_t (pc := 20) (off := 7) (tgt := 27) hq9 rfl (by decide +kernel) ?_
      refine X.iconst (pc := 27) (i := 0) (v := 0) ic_0 (by decide +kernel) ?_
      have j0 := Option.some.inj h
      subst j0
      refine X.fgt (o' := [none, none, none]) trivial ?_
      exact hj8
set_option maxRecDepth 100000 in
noncomputable def l_GWL_look_23 (S : MS) (R : MR) (I : MI) (v0 : Nat) (v1 : Int32) : Nat → Int32 → Int32 → Int32 → Option (Int32 × Int32)
  | 0, _, _, _ => none
  | f + 1, v2, v3, v4 =>
    bnd1 (R v0 0) fun b13 =>
    asrt ((S b13).1 = 8) <|
    bnd1 (f_Signs_length S I b13) fun x15 =>
    ifb (x15 ≤ v4)
      (some (v2, v3))
      (bnd1 (R v0 2) fun b18 =>
      bnd1 (f_GWL_cellOf v2) fun x19 =>
      asrt ((S b18).1 = 2) <|
      bnd1 (f_Land_endsAt S R I b18 x19) fun x22 =>
      ifb (x22 = 0)
        (bnd1 (f_Signs_at S R I b13 v4) fun x25 =>
        bnd1 (f_GWL_turnOf x25) fun x27 =>
        bnd1 (f_Land_after S R I b18 v2 x27) fun x29 =>
        l_GWL_look_23 S R I v0 v1 f x29 (v3 + 1) (v4 + 1))
        (some (v2, v3)))
set_option maxRecDepth 100000 in
set_option maxHeartbeats 4000000 in
theorem xl_GWL_look_23 {E : Env} (hE : OKE E) {tg : Bool} {d : Nat} (hd : 2 ≤ d) {S : MS} {I : MI} {L : ML} {R : MR} {n : Nat} {v0 : Nat} {v1 : Int32} {K : KT} :
    ∀ {f : Nat}  {v2 : Int32} {v3 : Int32} {v4 : Int32} {o2 : Int32} {o3 : Int32}, (S v0).1 = 11 → l_GWL_look_23 S R I v0 v1 f v2 v3 v4 = some (o2, o3) → X E y_GWL_look b_GWL_look 5 (some .int) tg d 0 0 79 [some (.ref (e_b E + v0)), some (.int v1), some (.int o2), some (.int o3), none] [] S I L R n K → X E y_GWL_look b_GWL_look 5 (some .int) tg d 0 0 23 [some (.ref (e_b E + v0)), some (.int v1), some (.int v2), some (.int v3), some (.int v4)] [] S I L R n K := by
  intro f
  induction f with
  | zero =>
    intro v2 v3 v4 o2 o3 hS h hk
    rw [l_GWL_look_23] at h
    cases h
  | succ f ih =>
    intro v2 v3 v4 o2 o3 hS h hk
    rw [l_GWL_look_23] at h
    refine X.iload_4 (pc := 23) (by decide +kernel) ?_
    refine X.aload_0 (pc := 25) (by decide +kernel) ?_
    obtain ⟨b13, hb13, h⟩ := bnd1_some h
    refine X.getR (pc := 26) (k := 0) fw_GWL_10 (by decide +kernel) (fun _ => rfl) hS hb13 ?_
    obtain ⟨hc14, h⟩ := asrt_some h
    obtain ⟨x15, hv16, h⟩ := bnd1_some h
    refine X.callVi (pc := 29) (nc := 0) (ns := 0) (c_Signs_length hE (dle hd (Nat.le_of_ble_eq_true rfl)) hc14 hv16) cv_GWL_123 (by decide +kernel) hc14 ⟨by decide, rfl⟩ (ddd hd (Nat.le_of_ble_eq_true rfl)) rfl (Nat.le_of_ble_eq_true rfl) rfl rfl ?_
    rcases ifb_some h with ⟨hq17, h⟩ | ⟨hq17, h⟩
    · refine X.icmp_ge_t (pc := 32) (off := 47) (tgt := 79) hq17 rfl (by decide +kernel) ?_
      have j0 := Option.some.inj h
      obtain ⟨i0, j1⟩ := Prod.mk.inj j0
      subst i0
      subst j1
      refine X.fgt (o' := [some (.ref (e_b E + v0)), some (.int v1), some (.int v2), some (.int v3), none]) ⟨rfl, ⟨rfl, ⟨rfl, ⟨rfl, trivial⟩⟩⟩⟩ ?_
      exact hk
    · refine X.icmp_ge_f (pc := 32) (off := 47) (tgt := 79) hq17 rfl (by decide +kernel) ?_
      refine X.aload_0 (pc := 35) (by decide +kernel) ?_
      obtain ⟨b18, hb18, h⟩ := bnd1_some h
      refine X.getR (pc := 36) (k := 2) fw_GWL_83 (by decide +kernel) (fun _ => rfl) hS hb18 ?_
      refine X.iload_2 (pc := 39) (by decide +kernel) ?_
      obtain ⟨x19, hv20, h⟩ := bnd1_some h
      refine X.callSi (pc := 40) (nc := 0) (ns := 0) (c_GWL_cellOf hE (dle hd (Nat.le_of_ble_eq_true rfl)) hv20) cv_GWL_231 (by decide +kernel) (ddd hd (Nat.le_of_ble_eq_true rfl)) rfl (Nat.le_of_ble_eq_true rfl) rfl rfl ?_
      obtain ⟨hc21, h⟩ := asrt_some h
      obtain ⟨x22, hv23, h⟩ := bnd1_some h
      refine X.callVi (pc := 43) (nc := 0) (ns := 0) (c_Land_endsAt hE (dle hd (Nat.le_of_ble_eq_true rfl)) hc21 hv23) cv_GWL_234 (by decide +kernel) hc21 ⟨by decide, rfl⟩ (ddd hd (Nat.le_of_ble_eq_true rfl)) rfl (Nat.le_of_ble_eq_true rfl) rfl rfl ?_
      rcases ifb_some h with ⟨hq24, h⟩ | ⟨hq24, h⟩
      · refine X.if_ne_f (pc := 46) (off := 33) (tgt := 79) hq24 rfl (by decide +kernel) ?_
        refine X.aload_0 (pc := 49) (by decide +kernel) ?_
        refine X.getR (pc := 50) (k := 2) fw_GWL_83 (by decide +kernel) (fun _ => rfl) hS hb18 ?_
        refine X.iload_2 (pc := 53) (by decide +kernel) ?_
        refine X.aload_0 (pc := 54) (by decide +kernel) ?_
        refine X.getR (pc := 55) (k := 0) fw_GWL_10 (by decide +kernel) (fun _ => rfl) hS hb13 ?_
        refine X.iload_4 (pc := 58) (by decide +kernel) ?_
        obtain ⟨x25, hv26, h⟩ := bnd1_some h
        refine X.callVi (pc := 60) (nc := 0) (ns := 0) (c_Signs_at hE (dle hd (Nat.le_of_ble_eq_true rfl)) hc14 hv26) cv_GWL_237 (by decide +kernel) hc14 ⟨by decide, rfl⟩ (ddd hd (Nat.le_of_ble_eq_true rfl)) rfl (Nat.le_of_ble_eq_true rfl) rfl rfl ?_
        obtain ⟨x27, hv28, h⟩ := bnd1_some h
        refine X.callSi (pc := 63) (nc := 0) (ns := 0) (c_GWL_turnOf hE (dle hd (Nat.le_of_ble_eq_true rfl)) hv28) cv_GWL_240 (by decide +kernel) (ddd hd (Nat.le_of_ble_eq_true rfl)) rfl (Nat.le_of_ble_eq_true rfl) rfl rfl ?_
        obtain ⟨x29, hv30, h⟩ := bnd1_some h
        refine X.callVi (pc := 66) (nc := 0) (ns := 0) (c_Land_after hE (dle hd (Nat.le_of_ble_eq_true rfl)) hc21 hv30) cv_GWL_243 (by decide +kernel) hc21 ⟨by decide, rfl⟩ (ddd hd (Nat.le_of_ble_eq_true rfl)) rfl (Nat.le_of_ble_eq_true rfl) rfl rfl ?_
        refine X.istore_2 (pc := 69) (by decide +kernel) (by decide) rfl ?_
        refine X.iinc_3 (pc := 70) (z := 1) (v := 1) ic_1 (by decide +kernel) (by decide) rfl ?_
        refine X.iinc_4 (pc := 73) (z := 1) (v := 1) ic_1 (by decide +kernel) (by decide) rfl ?_
        refine X.goto (pc := 76) (off := (-53)) (tgt := 23) (by decide +kernel) rfl ?_
        exact ih hS h hk
      · refine X.if_ne_t (pc := 46) (off := 33) (tgt := 79) hq24 rfl (by decide +kernel) ?_
        have j0 := Option.some.inj h
        obtain ⟨i0, j1⟩ := Prod.mk.inj j0
        subst i0
        subst j1
        refine X.fgt (o' := [some (.ref (e_b E + v0)), some (.int v1), some (.int v2), some (.int v3), none]) ⟨rfl, ⟨rfl, ⟨rfl, ⟨rfl, trivial⟩⟩⟩⟩ ?_
        exact hk
set_option maxRecDepth 100000 in
noncomputable def f_GWL_look (g : Nat) (S : MS) (R : MR) (I : MI) (L : ML) (t : Nat) : Option (Int32 × MI × ML) :=
  bnd1 (f_GWL_walkFault g S R I t) fun x1 =>
  bnd1 (R t 3) fun b3 =>
  asrt ((S b3).1 = 5) <|
  bnd1 (f_Party_stance S I b3) fun x5 =>
  bnd3 (ifb (x1 = (-1))
      (bnd2 (l_GWL_look_23 S R I t x1 g x5 0 0) fun x31 x32 =>
      bnd1 (R t 1) fun b34 =>
      asrt ((S b34).1 = 4) <|
      bnd1 (f_Numbers_begin S I b34) fun I36 =>
      bnd2 (f_Numbers_add S R I36 L b34 (Int32.toInt64 x32)) fun I38 L39 =>
      bnd1 (f_GWL_cellOf x31) fun x41 =>
      bnd1 (f_GWL_fate S R I38 t x41) fun x43 =>
      bnd2 (f_Numbers_add S R I38 L39 b34 (Int32.toInt64 x43)) fun I45 L46 =>
      some (x31, I45, L46))
      (some (x5, I, L))) fun (z8 : Int32) (I9 : MI) (L10 : ML) =>
  bnd1 (R t 0) fun b48 =>
  asrt ((S b48).1 = 8) <|
  bnd1 (f_Signs_empty S I9 b48) fun I50 =>
  bnd1 (ifb (x1 = (-1))
      (bnd1 (f_GWL_cellOf z8) fun x56 =>
      some x56)
      (some ((-1) - x1))) fun (y53 : Int32) =>
  some (y53, I50, L10)
set_option maxRecDepth 100000 in
set_option maxHeartbeats 4000000 in
theorem c_GWL_look {E : Env} (hE : OKE E) {tg : Bool} {d : Nat} (hd : 2 ≤ d) {g : Nat} {S : MS} {I : MI} {L : ML} {R : MR} {n : Nat} {t : Nat} {v : Int32} {I' : MI} {L' : ML} (hS : (S t).1 = 11) (h : f_GWL_look g S R I L t = some (v, I', L')) : C E y_GWL_look b_GWL_look 5 (some .int) tg d 0 0 [.ref (e_b E + t)] S I L R n (Kq (some (.int v)) S I' L' R n) := by
  refine C.of (o := [some (.ref (e_b E + t)), none, none, none, none]) (by decide) rfl (Nat.le_of_ble_eq_true rfl) ?_
  rw [f_GWL_look] at h
  refine X.aload_0 (pc := 0) (by decide +kernel) ?_
  obtain ⟨x1, hv2, h⟩ := bnd1_some h
  refine X.callVi (pc := 1) (nc := 0) (ns := 0) (c_GWL_walkFault hE (dle hd (Nat.le_of_ble_eq_true rfl)) hS hv2) cv_GWL_225 (by decide +kernel) hS ⟨by decide, rfl⟩ (ddd hd (Nat.le_of_ble_eq_true rfl)) rfl (Nat.le_of_ble_eq_true rfl) rfl rfl ?_
  refine X.istore_1 (pc := 4) (by decide +kernel) (by decide) rfl ?_
  refine X.aload_0 (pc := 5) (by decide +kernel) ?_
  obtain ⟨b3, hb3, h⟩ := bnd1_some h
  refine X.getR (pc := 6) (k := 3) fw_GWL_87 (by decide +kernel) (fun _ => rfl) hS hb3 ?_
  obtain ⟨hc4, h⟩ := asrt_some h
  obtain ⟨x5, hv6, h⟩ := bnd1_some h
  refine X.callVi (pc := 9) (nc := 0) (ns := 0) (c_Party_stance hE (dle hd (Nat.le_of_ble_eq_true rfl)) hc4 hv6) cv_GWL_228 (by decide +kernel) hc4 ⟨by decide, rfl⟩ (ddd hd (Nat.le_of_ble_eq_true rfl)) rfl (Nat.le_of_ble_eq_true rfl) rfl rfl ?_
  refine X.istore_2 (pc := 12) (by decide +kernel) (by decide) rfl ?_
  refine X.iload_1 (pc := 13) (by decide +kernel) ?_
  refine X.iconst (pc := 14) (i := (-1)) (v := (-1)) ic_m1 (by decide +kernel) ?_
  obtain ⟨z8, I9, L10, hr11, h⟩ := bnd3_some h
  have hj12 : X E y_GWL_look b_GWL_look 5 (some .int) tg d 0 0 111 [some (.ref (e_b E + t)), some (.int x1), some (.int z8), none, none] [] S I9 L10 R n (Kq (some (.int v)) S I' L' R n) := by
    refine X.aload_0 (pc := 111) (by decide +kernel) ?_
    obtain ⟨b48, hb48, h⟩ := bnd1_some h
    refine X.getR (pc := 112) (k := 0) fw_GWL_10 (by decide +kernel) (fun _ => rfl) hS hb48 ?_
    obtain ⟨hc49, h⟩ := asrt_some h
    obtain ⟨I50, hv51, h⟩ := bnd1_some h
    refine X.callVv (pc := 115) (nc := 0) (ns := 0) (c_Signs_empty hE (dle hd (Nat.le_of_ble_eq_true rfl)) hc49 hv51) cv_GWL_156 (by decide +kernel) hc49 ⟨by decide, rfl⟩ (ddd hd (Nat.le_of_ble_eq_true rfl)) rfl (Nat.le_of_ble_eq_true rfl) rfl rfl ?_
    refine X.iload_1 (pc := 118) (by decide +kernel) ?_
    refine X.iconst (pc := 119) (i := (-1)) (v := (-1)) ic_m1 (by decide +kernel) ?_
    obtain ⟨y53, hr54, h⟩ := bnd1_some h
    have hj55 : X E y_GWL_look b_GWL_look 5 (some .int) tg d 0 0 133 [none, none, none, none, none] [.int y53] S I50 L10 R n (Kq (some (.int v)) S I' L' R n) := by
      have j0 := Option.some.inj h
      obtain ⟨i0, j1⟩ := Prod.mk.inj j0
      obtain ⟨i1, j2⟩ := Prod.mk.inj j1
      subst i0
      subst i1
      subst j2
      exact X.ireturn (pc := 133) (by decide +kernel) ⟨_, rfl, rfl⟩ ⟨rfl, rfl, rfl, rfl, rfl, rfl⟩
    have h := hr54
    rcases ifb_some h with ⟨hq52, h⟩ | ⟨hq52, h⟩
    · refine X.icmp_ne_f (pc := 120) (off := 10) (tgt := 130) hq52 rfl (by decide +kernel) ?_
      refine X.iload_2 (pc := 123) (by decide +kernel) ?_
      obtain ⟨x56, hv57, h⟩ := bnd1_some h
      refine X.callSi (pc := 124) (nc := 0) (ns := 0) (c_GWL_cellOf hE (dle hd (Nat.le_of_ble_eq_true rfl)) hv57) cv_GWL_231 (by decide +kernel) (ddd hd (Nat.le_of_ble_eq_true rfl)) rfl (Nat.le_of_ble_eq_true rfl) rfl rfl ?_
      refine X.goto (pc := 127) (off := 6) (tgt := 133) (by decide +kernel) rfl ?_
      have j0 := Option.some.inj h
      subst j0
      refine X.fgt (o' := [none, none, none, none, none]) trivial ?_
      exact hj55
    · refine X.icmp_ne_t (pc := 120) (off := 10) (tgt := 130) hq52 rfl (by decide +kernel) ?_
      refine X.iconst (pc := 130) (i := (-1)) (v := (-1)) ic_m1 (by decide +kernel) ?_
      refine X.iload_1 (pc := 131) (by decide +kernel) ?_
      refine X.isub (pc := 132) (by decide +kernel) ?_
      have j0 := Option.some.inj h
      subst j0
      refine X.fgt (o' := [none, none, none, none, none]) trivial ?_
      exact hj55
  have h := hr11
  rcases ifb_some h with ⟨hq7, h⟩ | ⟨hq7, h⟩
  · refine X.icmp_ne_f (pc := 15) (off := 96) (tgt := 111) hq7 rfl (by decide +kernel) ?_
    refine X.iconst (pc := 18) (i := 0) (v := 0) ic_0 (by decide +kernel) ?_
    refine X.istore_3 (pc := 19) (by decide +kernel) (by decide) rfl ?_
    refine X.iconst (pc := 20) (i := 0) (v := 0) ic_0 (by decide +kernel) ?_
    refine X.istore_4 (pc := 21) (by decide +kernel) (by decide) rfl ?_
    obtain ⟨x31, x32, hv33, h⟩ := bnd2_some h
    refine xl_GWL_look_23 hE hd hS hv33 ?_
    refine X.aload_0 (pc := 79) (by decide +kernel) ?_
    obtain ⟨b34, hb34, h⟩ := bnd1_some h
    refine X.getR (pc := 80) (k := 1) fw_GWL_19 (by decide +kernel) (fun _ => rfl) hS hb34 ?_
    obtain ⟨hc35, h⟩ := asrt_some h
    obtain ⟨I36, hv37, h⟩ := bnd1_some h
    refine X.callVv (pc := 83) (nc := 0) (ns := 0) (c_Numbers_begin hE (dle hd (Nat.le_of_ble_eq_true rfl)) hc35 hv37) cv_GWL_207 (by decide +kernel) hc35 ⟨by decide, rfl⟩ (ddd hd (Nat.le_of_ble_eq_true rfl)) rfl (Nat.le_of_ble_eq_true rfl) rfl rfl ?_
    refine X.aload_0 (pc := 86) (by decide +kernel) ?_
    refine X.getR (pc := 87) (k := 1) fw_GWL_19 (by decide +kernel) (fun _ => rfl) hS hb34 ?_
    refine X.iload_3 (pc := 90) (by decide +kernel) ?_
    refine X.i2l (pc := 91) (by decide +kernel) ?_
    obtain ⟨I38, L39, hv40, h⟩ := bnd2_some h
    refine X.callVv (pc := 92) (nc := 0) (ns := 0) (c_Numbers_add hE (dle hd (Nat.le_of_ble_eq_true rfl)) hc35 hv40) cv_GWL_209 (by decide +kernel) hc35 ⟨by decide, rfl⟩ (ddd hd (Nat.le_of_ble_eq_true rfl)) rfl (Nat.le_of_ble_eq_true rfl) rfl rfl ?_
    refine X.aload_0 (pc := 95) (by decide +kernel) ?_
    refine X.getR (pc := 96) (k := 1) fw_GWL_19 (by decide +kernel) (fun _ => rfl) hS hb34 ?_
    refine X.aload_0 (pc := 99) (by decide +kernel) ?_
    refine X.iload_2 (pc := 100) (by decide +kernel) ?_
    obtain ⟨x41, hv42, h⟩ := bnd1_some h
    refine X.callSi (pc := 101) (nc := 0) (ns := 0) (c_GWL_cellOf hE (dle hd (Nat.le_of_ble_eq_true rfl)) hv42) cv_GWL_231 (by decide +kernel) (ddd hd (Nat.le_of_ble_eq_true rfl)) rfl (Nat.le_of_ble_eq_true rfl) rfl rfl ?_
    obtain ⟨x43, hv44, h⟩ := bnd1_some h
    refine X.callVi (pc := 104) (nc := 0) (ns := 0) (c_GWL_fate hE (dle hd (Nat.le_of_ble_eq_true rfl)) hS hv44) cv_GWL_247 (by decide +kernel) hS ⟨by decide, rfl⟩ (ddd hd (Nat.le_of_ble_eq_true rfl)) rfl (Nat.le_of_ble_eq_true rfl) rfl rfl ?_
    refine X.i2l (pc := 107) (by decide +kernel) ?_
    obtain ⟨I45, L46, hv47, h⟩ := bnd2_some h
    refine X.callVv (pc := 108) (nc := 0) (ns := 0) (c_Numbers_add hE (dle hd (Nat.le_of_ble_eq_true rfl)) hc35 hv47) cv_GWL_209 (by decide +kernel) hc35 ⟨by decide, rfl⟩ (ddd hd (Nat.le_of_ble_eq_true rfl)) rfl (Nat.le_of_ble_eq_true rfl) rfl rfl ?_
    have j0 := Option.some.inj h
    obtain ⟨i0, j1⟩ := Prod.mk.inj j0
    obtain ⟨i1, j2⟩ := Prod.mk.inj j1
    subst i0
    subst i1
    subst j2
    refine X.fgt (o' := [some (.ref (e_b E + t)), some (.int x1), some (.int x31), none, none]) ⟨rfl, ⟨rfl, ⟨rfl, trivial⟩⟩⟩ ?_
    exact hj12
  · refine X.icmp_ne_t (pc := 15) (off := 96) (tgt := 111) hq7 rfl (by decide +kernel) ?_
    have j0 := Option.some.inj h
    obtain ⟨i0, j1⟩ := Prod.mk.inj j0
    obtain ⟨i1, j2⟩ := Prod.mk.inj j1
    subst i0
    subst i1
    subst j2
    exact hj12
set_option maxRecDepth 100000 in
noncomputable def f_Land_stepsHome (S : MS) (R : MR) (I : MI) (t : Nat) (p1 : Int32) : Option Int32 :=
  bnd1 (ifb (p1 < 0)
      (some (-1))
      (ifb (144 ≤ p1)
        (some (-1))
        (bnd1 (R t 4) fun b6 =>
        asrt ((S b6).1 = 20) <|
        asrt (vp_in p1 (S b6).2) <|
        some (I b6 (Int32.toNatClampNeg p1))))) fun (y2 : Int32) =>
  some y2
set_option maxRecDepth 100000 in
set_option maxHeartbeats 4000000 in
theorem c_Land_stepsHome {E : Env} (hE : OKE E) {tg : Bool} {d : Nat} (hd : 0 ≤ d) {S : MS} {I : MI} {L : ML} {R : MR} {n : Nat} {t : Nat} {p1 : Int32} {v : Int32} (hS : (S t).1 = 2) (h : f_Land_stepsHome S R I t p1 = some v) : C E y_Land_stepsHome b_Land_stepsHome 2 (some .int) tg d 0 0 [.ref (e_b E + t), .int p1] S I L R n (Kq (some (.int v)) S I L R n) := by
  refine C.of (o := [some (.ref (e_b E + t)), some (.int p1)]) (by decide) rfl (Nat.le_of_ble_eq_true rfl) ?_
  rw [f_Land_stepsHome] at h
  refine X.iload_1 (pc := 0) (by decide +kernel) ?_
  obtain ⟨y2, hr3, h⟩ := bnd1_some h
  have hj4 : X E y_Land_stepsHome b_Land_stepsHome 2 (some .int) tg d 0 0 21 [none, none] [.int y2] S I L R n (Kq (some (.int v)) S I L R n) := by
    have j0 := Option.some.inj h
    subst j0
    exact X.ireturn (pc := 21) (by decide +kernel) ⟨_, rfl, rfl⟩ ⟨rfl, rfl, rfl, rfl, rfl, rfl⟩
  have h := hr3
  rcases ifb_some h with ⟨hq1, h⟩ | ⟨hq1, h⟩
  · refine X.if_lt_t (pc := 1) (off := 19) (tgt := 20) hq1 rfl (by decide +kernel) ?_
    refine X.iconst (pc := 20) (i := (-1)) (v := (-1)) ic_m1 (by decide +kernel) ?_
    have j0 := Option.some.inj h
    subst j0
    refine X.fgt (o' := [none, none]) trivial ?_
    exact hj4
  · refine X.if_lt_f (pc := 1) (off := 19) (tgt := 20) hq1 rfl (by decide +kernel) ?_
    refine X.iload_1 (pc := 4) (by decide +kernel) ?_
    refine X.sipush (pc := 5) (i := 144) (v := 144) sp_144 (by decide +kernel) ?_
    rcases ifb_some h with ⟨hq5, h⟩ | ⟨hq5, h⟩
    · refine X.icmp_ge_t (pc := 8) (off := 12) (tgt := 20) hq5 rfl (by decide +kernel) ?_
      refine X.iconst (pc := 20) (i := (-1)) (v := (-1)) ic_m1 (by decide +kernel) ?_
      have j0 := Option.some.inj h
      subst j0
      refine X.fgt (o' := [none, none]) trivial ?_
      exact hj4
    · refine X.icmp_ge_f (pc := 8) (off := 12) (tgt := 20) hq5 rfl (by decide +kernel) ?_
      refine X.aload_0 (pc := 11) (by decide +kernel) ?_
      obtain ⟨b6, hb6, h⟩ := bnd1_some h
      refine X.getR (pc := 12) (k := 4) fw_Land_25 (by decide +kernel) (fun _ => rfl) hS hb6 ?_
      refine X.iload_1 (pc := 15) (by decide +kernel) ?_
      obtain ⟨hc8, h⟩ := asrt_some h
      obtain ⟨hi7, h⟩ := asrt_some h
      refine X.iaload (pc := 16) (by decide +kernel) hc8 hi7 ?_
      refine X.goto (pc := 17) (off := 4) (tgt := 21) (by decide +kernel) rfl ?_
      have j0 := Option.some.inj h
      subst j0
      refine X.fgt (o' := [none, none]) trivial ?_
      exact hj4
set_option maxRecDepth 100000 in
noncomputable def l_Land_turnTowards_2 (S : MS) (R : MR) (I : MI) (v0 : Nat) (v1 : Int32) (v2 : Int32) : Nat → Int32 → Option Int32
  | 0, _ => none
  | f + 1, v3 =>
    ifb (3 ≤ v3)
      (some (-1))
      (bnd1 (f_Land_after S R I v0 v1 v3) fun x2 =>
      bnd1 (f_Land_stepsHome S R I v0 x2) fun x4 =>
      ifb (x4 = v2)
        (some v3)
        (l_Land_turnTowards_2 S R I v0 v1 v2 f (v3 + 1)))
set_option maxRecDepth 100000 in
set_option maxHeartbeats 4000000 in
theorem xl_Land_turnTowards_2 {E : Env} (hE : OKE E) {tg : Bool} {d : Nat} (hd : 1 ≤ d) {S : MS} {I : MI} {L : ML} {R : MR} {n : Nat} {v0 : Nat} {v1 : Int32} {v2 : Int32} :
    ∀ {f : Nat}  {v3 : Int32} {v : Int32}, (S v0).1 = 2 → l_Land_turnTowards_2 S R I v0 v1 v2 f v3 = some v → X E y_Land_turnTowards b_Land_turnTowards 4 (some .int) tg d 0 0 2 [some (.ref (e_b E + v0)), some (.int v1), some (.int v2), some (.int v3)] [] S I L R n (Kq (some (.int v)) S I L R n) := by
  intro f
  induction f with
  | zero =>
    intro v3 v hS h
    rw [l_Land_turnTowards_2] at h
    cases h
  | succ f ih =>
    intro v3 v hS h
    rw [l_Land_turnTowards_2] at h
    refine X.iload_3 (pc := 2) (by decide +kernel) ?_
    refine X.iconst (pc := 3) (i := 3) (v := 3) ic_3 (by decide +kernel) ?_
    rcases ifb_some h with ⟨hq1, h⟩ | ⟨hq1, h⟩
    · refine X.icmp_ge_t (pc := 4) (off := 25) (tgt := 29) hq1 rfl (by decide +kernel) ?_
      refine X.iconst (pc := 29) (i := (-1)) (v := (-1)) ic_m1 (by decide +kernel) ?_
      have j0 := Option.some.inj h
      subst j0
      exact X.ireturn (pc := 30) (by decide +kernel) ⟨_, rfl, rfl⟩ ⟨rfl, rfl, rfl, rfl, rfl, rfl⟩
    · refine X.icmp_ge_f (pc := 4) (off := 25) (tgt := 29) hq1 rfl (by decide +kernel) ?_
      refine X.aload_0 (pc := 7) (by decide +kernel) ?_
      refine X.aload_0 (pc := 8) (by decide +kernel) ?_
      refine X.iload_1 (pc := 9) (by decide +kernel) ?_
      refine X.iload_3 (pc := 10) (by decide +kernel) ?_
      obtain ⟨x2, hv3, h⟩ := bnd1_some h
      refine X.callVi (pc := 11) (nc := 0) (ns := 0) (c_Land_after hE (dle hd (Nat.le_of_ble_eq_true rfl)) hS hv3) cv_Land_73 (by decide +kernel) hS ⟨by decide, rfl⟩ (ddd hd (Nat.le_of_ble_eq_true rfl)) rfl (Nat.le_of_ble_eq_true rfl) rfl rfl ?_
      obtain ⟨x4, hv5, h⟩ := bnd1_some h
      refine X.callVi (pc := 14) (nc := 0) (ns := 0) (c_Land_stepsHome hE (dle hd (Nat.le_of_ble_eq_true rfl)) hS hv5) cv_Land_76 (by decide +kernel) hS ⟨by decide, rfl⟩ (ddd hd (Nat.le_of_ble_eq_true rfl)) rfl (Nat.le_of_ble_eq_true rfl) rfl rfl ?_
      refine X.iload_2 (pc := 17) (by decide +kernel) ?_
      rcases ifb_some h with ⟨hq6, h⟩ | ⟨hq6, h⟩
      · refine X.icmp_ne_f (pc := 18) (off := 5) (tgt := 23) hq6 rfl (by decide +kernel) ?_
        refine X.iload_3 (pc := 21) (by decide +kernel) ?_
        have j0 := Option.some.inj h
        subst j0
        exact X.ireturn (pc := 22) (by decide +kernel) ⟨_, rfl, rfl⟩ ⟨rfl, rfl, rfl, rfl, rfl, rfl⟩
      · refine X.icmp_ne_t (pc := 18) (off := 5) (tgt := 23) hq6 rfl (by decide +kernel) ?_
        refine X.iinc_3 (pc := 23) (z := 1) (v := 1) ic_1 (by decide +kernel) (by decide) rfl ?_
        refine X.goto (pc := 26) (off := (-24)) (tgt := 2) (by decide +kernel) rfl ?_
        exact ih hS h
set_option maxRecDepth 100000 in
noncomputable def f_Land_turnTowards (g : Nat) (S : MS) (R : MR) (I : MI) (t : Nat) (p1 : Int32) (p2 : Int32) : Option Int32 :=
  l_Land_turnTowards_2 S R I t p1 p2 g 0
set_option maxRecDepth 100000 in
set_option maxHeartbeats 4000000 in
theorem c_Land_turnTowards {E : Env} (hE : OKE E) {tg : Bool} {d : Nat} (hd : 1 ≤ d) {g : Nat} {S : MS} {I : MI} {L : ML} {R : MR} {n : Nat} {t : Nat} {p1 : Int32} {p2 : Int32} {v : Int32} (hS : (S t).1 = 2) (h : f_Land_turnTowards g S R I t p1 p2 = some v) : C E y_Land_turnTowards b_Land_turnTowards 4 (some .int) tg d 0 0 [.ref (e_b E + t), .int p1, .int p2] S I L R n (Kq (some (.int v)) S I L R n) := by
  refine C.of (o := [some (.ref (e_b E + t)), some (.int p1), some (.int p2), none]) (by decide) rfl (Nat.le_of_ble_eq_true rfl) ?_
  rw [f_Land_turnTowards] at h
  refine X.iconst (pc := 0) (i := 0) (v := 0) ic_0 (by decide +kernel) ?_
  refine X.istore_3 (pc := 1) (by decide +kernel) (by decide) rfl ?_
  exact xl_Land_turnTowards_2 hE hd hS h
set_option maxRecDepth 100000 in
noncomputable def l_Land_widen_4 (g : Nat) (S : MS) (R : MR) (v0 : Nat) (v1 : Int32) : Nat → MI → Int32 → Int32 → Option (Int32 × MI)
  | 0, _, _, _ => none
  | f + 1, I, v2, v3 =>
    ifb (144 ≤ v3)
      (some (v2, I))
      (bnd1 (f_GWL_cellOf v3) fun x2 =>
      ifb (((I v0 0) * (I v0 1)) ≤ x2)
        (some (v2, I))
        (bnd1 (R v0 4) fun b5 =>
        asrt ((S b5).1 = 20) <|
        asrt (vp_in v3 (S b5).2) <|
        bnd2 (ifb ((I b5 (Int32.toNatClampNeg v3)) = (-1))
            (bnd1 (f_GWL_cellOf v3) fun x13 =>
            bnd1 (f_Land_endsAt S R I v0 x13) fun x15 =>
            ifb (x15 = 0)
              (bnd1 (f_Land_turnTowards g S R I v0 v3 (v1 - 1)) fun x18 =>
              ifb (x18 = (-1))
                (some (v2, I))
                (asrt (vp_in v3 (S b5).2) <|
                lt (wI I b5 (Int32.toNatClampNeg v3) v1) fun (I22 : MI) =>
                some (1, I22)))
              (some (v2, I)))
            (some (v2, I))) fun (z9 : Int32) (I10 : MI) =>
        l_Land_widen_4 g S R v0 v1 f I10 z9 (v3 + 1)))
set_option maxRecDepth 100000 in
set_option maxHeartbeats 4000000 in
theorem xl_Land_widen_4 {E : Env} (hE : OKE E) {tg : Bool} {d : Nat} (hd : 2 ≤ d) {g : Nat} {S : MS} {L : ML} {R : MR} {n : Nat} {v0 : Nat} {v1 : Int32} {K : KT} :
    ∀ {f : Nat} {I : MI} {v2 : Int32} {v3 : Int32} {o2 : Int32} {I' : MI}, (S v0).1 = 2 → l_Land_widen_4 g S R v0 v1 f I v2 v3 = some (o2, I') → X E y_Land_widen b_Land_widen 4 (some .boolean) tg d 0 0 75 [none, none, some (.int o2), none] [] S I' L R n K → X E y_Land_widen b_Land_widen 4 (some .boolean) tg d 0 0 4 [some (.ref (e_b E + v0)), some (.int v1), some (.int v2), some (.int v3)] [] S I L R n K := by
  intro f
  induction f with
  | zero =>
    intro I v2 v3 o2 I' hS h hk
    rw [l_Land_widen_4] at h
    cases h
  | succ f ih =>
    intro I v2 v3 o2 I' hS h hk
    rw [l_Land_widen_4] at h
    refine X.iload_3 (pc := 4) (by decide +kernel) ?_
    refine X.sipush (pc := 5) (i := 144) (v := 144) sp_144 (by decide +kernel) ?_
    rcases ifb_some h with ⟨hq1, h⟩ | ⟨hq1, h⟩
    · refine X.icmp_ge_t (pc := 8) (off := 67) (tgt := 75) hq1 rfl (by decide +kernel) ?_
      have j0 := Option.some.inj h
      obtain ⟨i0, j1⟩ := Prod.mk.inj j0
      subst i0
      subst j1
      refine X.fgt (o' := [none, none, some (.int v2), none]) ⟨rfl, trivial⟩ ?_
      exact hk
    · refine X.icmp_ge_f (pc := 8) (off := 67) (tgt := 75) hq1 rfl (by decide +kernel) ?_
      refine X.iload_3 (pc := 11) (by decide +kernel) ?_
      obtain ⟨x2, hv3, h⟩ := bnd1_some h
      refine X.callSi (pc := 12) (nc := 0) (ns := 0) (c_GWL_cellOf hE (dle hd (Nat.le_of_ble_eq_true rfl)) hv3) cv_Land_59 (by decide +kernel) (ddd hd (Nat.le_of_ble_eq_true rfl)) rfl (Nat.le_of_ble_eq_true rfl) rfl rfl ?_
      refine X.aload_0 (pc := 15) (by decide +kernel) ?_
      refine X.getI (pc := 16) (k := 0) fw_Land_9 (by decide +kernel) (fun _ => rfl) hS ?_
      refine X.aload_0 (pc := 19) (by decide +kernel) ?_
      refine X.getI (pc := 20) (k := 1) fw_Land_15 (by decide +kernel) (fun _ => rfl) hS ?_
      refine X.imul (pc := 23) (by decide +kernel) ?_
      rcases ifb_some h with ⟨hq4, h⟩ | ⟨hq4, h⟩
      · refine X.icmp_ge_t (pc := 24) (off := 51) (tgt := 75) hq4 rfl (by decide +kernel) ?_
        have j0 := Option.some.inj h
        obtain ⟨i0, j1⟩ := Prod.mk.inj j0
        subst i0
        subst j1
        refine X.fgt (o' := [none, none, some (.int v2), none]) ⟨rfl, trivial⟩ ?_
        exact hk
      · refine X.icmp_ge_f (pc := 24) (off := 51) (tgt := 75) hq4 rfl (by decide +kernel) ?_
        refine X.aload_0 (pc := 27) (by decide +kernel) ?_
        obtain ⟨b5, hb5, h⟩ := bnd1_some h
        refine X.getR (pc := 28) (k := 4) fw_Land_25 (by decide +kernel) (fun _ => rfl) hS hb5 ?_
        refine X.iload_3 (pc := 31) (by decide +kernel) ?_
        obtain ⟨hc7, h⟩ := asrt_some h
        obtain ⟨hi6, h⟩ := asrt_some h
        refine X.iaload (pc := 32) (by decide +kernel) hc7 hi6 ?_
        refine X.iconst (pc := 33) (i := (-1)) (v := (-1)) ic_m1 (by decide +kernel) ?_
        obtain ⟨z9, I10, hr11, h⟩ := bnd2_some h
        have hj12 : X E y_Land_widen b_Land_widen 4 (some .boolean) tg d 0 0 69 [some (.ref (e_b E + v0)), some (.int v1), some (.int z9), some (.int v3)] [] S I10 L R n K := by
          refine X.iinc_3 (pc := 69) (z := 1) (v := 1) ic_1 (by decide +kernel) (by decide) rfl ?_
          refine X.goto (pc := 72) (off := (-68)) (tgt := 4) (by decide +kernel) rfl ?_
          exact ih hS h hk
        have h := hr11
        rcases ifb_some h with ⟨hq8, h⟩ | ⟨hq8, h⟩
        · refine X.icmp_ne_f (pc := 34) (off := 35) (tgt := 69) hq8 rfl (by decide +kernel) ?_
          refine X.aload_0 (pc := 37) (by decide +kernel) ?_
          refine X.iload_3 (pc := 38) (by decide +kernel) ?_
          obtain ⟨x13, hv14, h⟩ := bnd1_some h
          refine X.callSi (pc := 39) (nc := 0) (ns := 0) (c_GWL_cellOf hE (dle hd (Nat.le_of_ble_eq_true rfl)) hv14) cv_Land_59 (by decide +kernel) (ddd hd (Nat.le_of_ble_eq_true rfl)) rfl (Nat.le_of_ble_eq_true rfl) rfl rfl ?_
          obtain ⟨x15, hv16, h⟩ := bnd1_some h
          refine X.callVi (pc := 42) (nc := 0) (ns := 0) (c_Land_endsAt hE (dle hd (Nat.le_of_ble_eq_true rfl)) hS hv16) cv_Land_66 (by decide +kernel) hS ⟨by decide, rfl⟩ (ddd hd (Nat.le_of_ble_eq_true rfl)) rfl (Nat.le_of_ble_eq_true rfl) rfl rfl ?_
          rcases ifb_some h with ⟨hq17, h⟩ | ⟨hq17, h⟩
          · refine X.if_ne_f (pc := 45) (off := 24) (tgt := 69) hq17 rfl (by decide +kernel) ?_
            refine X.aload_0 (pc := 48) (by decide +kernel) ?_
            refine X.iload_3 (pc := 49) (by decide +kernel) ?_
            refine X.iload_1 (pc := 50) (by decide +kernel) ?_
            refine X.iconst (pc := 51) (i := 1) (v := 1) ic_1 (by decide +kernel) ?_
            refine X.isub (pc := 52) (by decide +kernel) ?_
            obtain ⟨x18, hv19, h⟩ := bnd1_some h
            refine X.callVi (pc := 53) (nc := 0) (ns := 0) (c_Land_turnTowards hE (dle hd (Nat.le_of_ble_eq_true rfl)) hS hv19) cv_Land_69 (by decide +kernel) hS ⟨by decide, rfl⟩ (ddd hd (Nat.le_of_ble_eq_true rfl)) rfl (Nat.le_of_ble_eq_true rfl) rfl rfl ?_
            refine X.iconst (pc := 56) (i := (-1)) (v := (-1)) ic_m1 (by decide +kernel) ?_
            rcases ifb_some h with ⟨hq20, h⟩ | ⟨hq20, h⟩
            · refine X.icmp_eq_t (pc := 57) (off := 12) (tgt := 69) hq20 rfl (by decide +kernel) ?_
              have j0 := Option.some.inj h
              obtain ⟨i0, j1⟩ := Prod.mk.inj j0
              subst i0
              subst j1
              exact hj12
            · refine X.icmp_eq_f (pc := 57) (off := 12) (tgt := 69) hq20 rfl (by decide +kernel) ?_
              refine X.aload_0 (pc := 60) (by decide +kernel) ?_
              refine X.getR (pc := 61) (k := 4) fw_Land_25 (by decide +kernel) (fun _ => rfl) hS hb5 ?_
              refine X.iload_3 (pc := 64) (by decide +kernel) ?_
              refine X.iload_1 (pc := 65) (by decide +kernel) ?_
              obtain ⟨hi21, h⟩ := asrt_some h
              refine X.iastore (pc := 66) (by decide +kernel) hc7 hi21 ?_
              refine X.nameMI (fun I22 hI22 => ?_)
              have h := lt_at hI22 h
              refine X.iconst (pc := 67) (i := 1) (v := 1) ic_1 (by decide +kernel) ?_
              refine X.istore_2 (pc := 68) (by decide +kernel) (by decide) rfl ?_
              have j0 := Option.some.inj h
              obtain ⟨i0, j1⟩ := Prod.mk.inj j0
              subst i0
              subst j1
              exact hj12
          · refine X.if_ne_t (pc := 45) (off := 24) (tgt := 69) hq17 rfl (by decide +kernel) ?_
            have j0 := Option.some.inj h
            obtain ⟨i0, j1⟩ := Prod.mk.inj j0
            subst i0
            subst j1
            exact hj12
        · refine X.icmp_ne_t (pc := 34) (off := 35) (tgt := 69) hq8 rfl (by decide +kernel) ?_
          have j0 := Option.some.inj h
          obtain ⟨i0, j1⟩ := Prod.mk.inj j0
          subst i0
          subst j1
          exact hj12
set_option maxRecDepth 100000 in
noncomputable def f_Land_widen (g : Nat) (S : MS) (R : MR) (I : MI) (t : Nat) (p1 : Int32) : Option (Int32 × MI) :=
  bnd2 (l_Land_widen_4 g S R t p1 g I 0 0) fun x23 I24 =>
  asrt (x23 = 0 ∨ x23 = 1) <|
  some (x23, I24)
set_option maxRecDepth 100000 in
set_option maxHeartbeats 4000000 in
theorem c_Land_widen {E : Env} (hE : OKE E) {tg : Bool} {d : Nat} (hd : 2 ≤ d) {g : Nat} {S : MS} {I : MI} {L : ML} {R : MR} {n : Nat} {t : Nat} {p1 : Int32} {v : Int32} {I' : MI} (hS : (S t).1 = 2) (h : f_Land_widen g S R I t p1 = some (v, I')) : C E y_Land_widen b_Land_widen 4 (some .boolean) tg d 0 0 [.ref (e_b E + t), .int p1] S I L R n (Kq (some (.int v)) S I' L R n) := by
  refine C.of (o := [some (.ref (e_b E + t)), some (.int p1), none, none]) (by decide) rfl (Nat.le_of_ble_eq_true rfl) ?_
  rw [f_Land_widen] at h
  refine X.iconst (pc := 0) (i := 0) (v := 0) ic_0 (by decide +kernel) ?_
  refine X.istore_2 (pc := 1) (by decide +kernel) (by decide) rfl ?_
  refine X.iconst (pc := 2) (i := 0) (v := 0) ic_0 (by decide +kernel) ?_
  refine X.istore_3 (pc := 3) (by decide +kernel) (by decide) rfl ?_
  obtain ⟨x23, I24, hv25, h⟩ := bnd2_some h
  refine xl_Land_widen_4 hE hd hS hv25 ?_
  refine X.iload_2 (pc := 75) (by decide +kernel) ?_
  obtain ⟨hb26, h⟩ := asrt_some h
  have j0 := Option.some.inj h
  obtain ⟨i0, j1⟩ := Prod.mk.inj j0
  subst i0
  subst j1
  exact X.ireturn (pc := 76) (by decide +kernel) ⟨_, rfl, nz01 hb26⟩ ⟨rfl, rfl, rfl, rfl, rfl, rfl⟩
set_option maxRecDepth 100000 in
noncomputable def l_Land_measure_15 (S : MS) (R : MR) (v0 : Nat) (v1 : Int32) : Nat → MI → Int32 → Option MI
  | 0, _, _ => none
  | f + 1, I, v2 =>
    ifb (v1 = 0)
      (some I)
      (ifb (144 ≤ v2)
        (some I)
        (bnd1 (R v0 4) fun b7 =>
        bnd1 (f_GWL_cellOf v2) fun x8 =>
        bnd1 (f_Land_kindOf S R I v0 x8) fun x10 =>
        bnd1 (ifb (x10 = 3)
            (some 0)
            (some (-1))) fun (y13 : Int32) =>
        asrt ((S b7).1 = 20) <|
        asrt (vp_in v2 (S b7).2) <|
        lt (wI I b7 (Int32.toNatClampNeg v2) y13) fun (I18 : MI) =>
        l_Land_measure_15 S R v0 v1 f I18 (v2 + 1)))
set_option maxRecDepth 100000 in
set_option maxHeartbeats 4000000 in
theorem xl_Land_measure_15 {E : Env} (hE : OKE E) {tg : Bool} {d : Nat} (hd : 3 ≤ d) {S : MS} {L : ML} {R : MR} {n : Nat} {v0 : Nat} {v1 : Int32} {K : KT} :
    ∀ {f : Nat} {I : MI} {v2 : Int32} {I' : MI}, (S v0).1 = 2 → l_Land_measure_15 S R v0 v1 f I v2 = some I' → X E y_Land_measure b_Land_measure 3 none tg d 0 0 55 [some (.ref (e_b E + v0)), some (.int v1), none] [] S I' L R n K → X E y_Land_measure b_Land_measure 3 none tg d 0 0 15 [some (.ref (e_b E + v0)), some (.int v1), some (.int v2)] [] S I L R n K := by
  intro f
  induction f with
  | zero =>
    intro I v2 I' hS h hk
    rw [l_Land_measure_15] at h
    cases h
  | succ f ih =>
    intro I v2 I' hS h hk
    rw [l_Land_measure_15] at h
    refine X.iload_1 (pc := 15) (by decide +kernel) ?_
    rcases ifb_some h with ⟨hq5, h⟩ | ⟨hq5, h⟩
    · refine X.if_eq_t (pc := 16) (off := 39) (tgt := 55) hq5 rfl (by decide +kernel) ?_
      have j0 := Option.some.inj h
      subst j0
      refine X.fgt (o' := [some (.ref (e_b E + v0)), some (.int v1), none]) ⟨rfl, ⟨rfl, trivial⟩⟩ ?_
      exact hk
    · refine X.if_eq_f (pc := 16) (off := 39) (tgt := 55) hq5 rfl (by decide +kernel) ?_
      refine X.iload_2 (pc := 19) (by decide +kernel) ?_
      refine X.sipush (pc := 20) (i := 144) (v := 144) sp_144 (by decide +kernel) ?_
      rcases ifb_some h with ⟨hq6, h⟩ | ⟨hq6, h⟩
      · refine X.icmp_ge_t (pc := 23) (off := 32) (tgt := 55) hq6 rfl (by decide +kernel) ?_
        have j0 := Option.some.inj h
        subst j0
        refine X.fgt (o' := [some (.ref (e_b E + v0)), some (.int v1), none]) ⟨rfl, ⟨rfl, trivial⟩⟩ ?_
        exact hk
      · refine X.icmp_ge_f (pc := 23) (off := 32) (tgt := 55) hq6 rfl (by decide +kernel) ?_
        refine X.aload_0 (pc := 26) (by decide +kernel) ?_
        obtain ⟨b7, hb7, h⟩ := bnd1_some h
        refine X.getR (pc := 27) (k := 4) fw_Land_25 (by decide +kernel) (fun _ => rfl) hS hb7 ?_
        refine X.iload_2 (pc := 30) (by decide +kernel) ?_
        refine X.aload_0 (pc := 31) (by decide +kernel) ?_
        refine X.iload_2 (pc := 32) (by decide +kernel) ?_
        obtain ⟨x8, hv9, h⟩ := bnd1_some h
        refine X.callSi (pc := 33) (nc := 0) (ns := 0) (c_GWL_cellOf hE (dle hd (Nat.le_of_ble_eq_true rfl)) hv9) cv_Land_59 (by decide +kernel) (ddd hd (Nat.le_of_ble_eq_true rfl)) rfl (Nat.le_of_ble_eq_true rfl) rfl rfl ?_
        obtain ⟨x10, hv11, h⟩ := bnd1_some h
        refine X.callVi (pc := 36) (nc := 0) (ns := 0) (c_Land_kindOf hE (dle hd (Nat.le_of_ble_eq_true rfl)) hS hv11) cv_Land_28 (by decide +kernel) hS ⟨by decide, rfl⟩ (ddd hd (Nat.le_of_ble_eq_true rfl)) rfl (Nat.le_of_ble_eq_true rfl) rfl rfl ?_
        refine X.iconst (pc := 39) (i := 3) (v := 3) ic_3 (by decide +kernel) ?_
        obtain ⟨y13, hr14, h⟩ := bnd1_some h
        have hj15 : X E y_Land_measure b_Land_measure 3 none tg d 0 0 48 [some (.ref (e_b E + v0)), some (.int v1), some (.int v2)] [.int y13, .int v2, .ref (e_b E + b7)] S I L R n K := by
          obtain ⟨hc16, h⟩ := asrt_some h
          obtain ⟨hi17, h⟩ := asrt_some h
          refine X.iastore (pc := 48) (by decide +kernel) hc16 hi17 ?_
          refine X.nameMI (fun I18 hI18 => ?_)
          have h := lt_at hI18 h
          refine X.iinc_2 (pc := 49) (z := 1) (v := 1) ic_1 (by decide +kernel) (by decide) rfl ?_
          refine X.goto (pc := 52) (off := (-37)) (tgt := 15) (by decide +kernel) rfl ?_
          exact ih hS h hk
        have h := hr14
        rcases ifb_some h with ⟨hq12, h⟩ | ⟨hq12, h⟩
        · refine X.icmp_ne_f (pc := 40) (off := 7) (tgt := 47) hq12 rfl (by decide +kernel) ?_
          refine X.iconst (pc := 43) (i := 0) (v := 0) ic_0 (by decide +kernel) ?_
          refine X.goto (pc := 44) (off := 4) (tgt := 48) (by decide +kernel) rfl ?_
          have j0 := Option.some.inj h
          subst j0
          exact hj15
        · refine X.icmp_ne_t (pc := 40) (off := 7) (tgt := 47) hq12 rfl (by decide +kernel) ?_
          refine X.iconst (pc := 47) (i := (-1)) (v := (-1)) ic_m1 (by decide +kernel) ?_
          have j0 := Option.some.inj h
          subst j0
          exact hj15
set_option maxRecDepth 100000 in
noncomputable def l_Land_measure_57 (g : Nat) (S : MS) (R : MR) (v0 : Nat) : Nat → MI → Int32 → Int32 → Option MI
  | 0, _, _, _ => none
  | f + 1, I, v1, v2 =>
    ifb (v1 = 0)
      (some I)
      (ifb (144 < v2)
        (some I)
        (bnd2 (f_Land_widen g S R I v0 v2) fun x23 I24 =>
        l_Land_measure_57 g S R v0 f I24 x23 (v2 + 1)))
set_option maxRecDepth 100000 in
set_option maxHeartbeats 4000000 in
theorem xl_Land_measure_57 {E : Env} (hE : OKE E) {tg : Bool} {d : Nat} (hd : 3 ≤ d) {g : Nat} {S : MS} {L : ML} {R : MR} {n : Nat} {v0 : Nat} {K : KT} :
    ∀ {f : Nat} {I : MI} {v1 : Int32} {v2 : Int32} {I' : MI}, (S v0).1 = 2 → l_Land_measure_57 g S R v0 f I v1 v2 = some I' → X E y_Land_measure b_Land_measure 3 none tg d 0 0 80 [some (.ref (e_b E + v0)), none, none] [] S I' L R n K → X E y_Land_measure b_Land_measure 3 none tg d 0 0 57 [some (.ref (e_b E + v0)), some (.int v1), some (.int v2)] [] S I L R n K := by
  intro f
  induction f with
  | zero =>
    intro I v1 v2 I' hS h hk
    rw [l_Land_measure_57] at h
    cases h
  | succ f ih =>
    intro I v1 v2 I' hS h hk
    rw [l_Land_measure_57] at h
    refine X.iload_1 (pc := 57) (by decide +kernel) ?_
    rcases ifb_some h with ⟨hq21, h⟩ | ⟨hq21, h⟩
    · refine X.if_eq_t (pc := 58) (off := 22) (tgt := 80) hq21 rfl (by decide +kernel) ?_
      have j0 := Option.some.inj h
      subst j0
      refine X.fgt (o' := [some (.ref (e_b E + v0)), none, none]) ⟨rfl, trivial⟩ ?_
      exact hk
    · refine X.if_eq_f (pc := 58) (off := 22) (tgt := 80) hq21 rfl (by decide +kernel) ?_
      refine X.iload_2 (pc := 61) (by decide +kernel) ?_
      refine X.sipush (pc := 62) (i := 144) (v := 144) sp_144 (by decide +kernel) ?_
      rcases ifb_some h with ⟨hq22, h⟩ | ⟨hq22, h⟩
      · refine X.icmp_gt_t (pc := 65) (off := 15) (tgt := 80) hq22 rfl (by decide +kernel) ?_
        have j0 := Option.some.inj h
        subst j0
        refine X.fgt (o' := [some (.ref (e_b E + v0)), none, none]) ⟨rfl, trivial⟩ ?_
        exact hk
      · refine X.icmp_gt_f (pc := 65) (off := 15) (tgt := 80) hq22 rfl (by decide +kernel) ?_
        refine X.aload_0 (pc := 68) (by decide +kernel) ?_
        refine X.iload_2 (pc := 69) (by decide +kernel) ?_
        obtain ⟨x23, I24, hv25, h⟩ := bnd2_some h
        refine X.callVi (pc := 70) (nc := 0) (ns := 0) (c_Land_widen hE (dle hd (Nat.le_of_ble_eq_true rfl)) hS hv25) cv_Land_62 (by decide +kernel) hS ⟨by decide, rfl⟩ (ddd hd (Nat.le_of_ble_eq_true rfl)) rfl (Nat.le_of_ble_eq_true rfl) rfl rfl ?_
        refine X.istore_1 (pc := 73) (by decide +kernel) (by decide) rfl ?_
        refine X.iinc_2 (pc := 74) (z := 1) (v := 1) ic_1 (by decide +kernel) (by decide) rfl ?_
        refine X.goto (pc := 77) (off := (-20)) (tgt := 57) (by decide +kernel) rfl ?_
        exact ih hS h hk
set_option maxRecDepth 100000 in
noncomputable def f_Land_measure (g : Nat) (S : MS) (R : MR) (I : MI) (t : Nat) : Option MI :=
  bnd1 (ifb ((I t 5) = 0)
      (some 1)
      (some 0)) fun (y2 : Int32) =>
  bnd1 (l_Land_measure_15 S R t y2 g I 0) fun I19 =>
  bnd1 (l_Land_measure_57 g S R t g I19 y2 1) fun I26 =>
  lt (wI I26 t 5 1) fun (I28 : MI) =>
  some I28
set_option maxRecDepth 100000 in
set_option maxHeartbeats 4000000 in
theorem c_Land_measure {E : Env} (hE : OKE E) {tg : Bool} {d : Nat} (hd : 3 ≤ d) {g : Nat} {S : MS} {I : MI} {L : ML} {R : MR} {n : Nat} {t : Nat} {I' : MI} (hS : (S t).1 = 2) (h : f_Land_measure g S R I t = some I') : C E y_Land_measure b_Land_measure 3 none tg d 0 0 [.ref (e_b E + t)] S I L R n (Kq none S I' L R n) := by
  refine C.of (o := [some (.ref (e_b E + t)), none, none]) (by decide) rfl (Nat.le_of_ble_eq_true rfl) ?_
  rw [f_Land_measure] at h
  refine X.aload_0 (pc := 0) (by decide +kernel) ?_
  refine X.getI (pc := 1) (k := 5) fw_Land_51 (by decide +kernel) (fun _ => rfl) hS ?_
  obtain ⟨y2, hr3, h⟩ := bnd1_some h
  have hj4 : X E y_Land_measure b_Land_measure 3 none tg d 0 0 12 [some (.ref (e_b E + t)), none, none] [.int y2] S I L R n (Kq none S I' L R n) := by
    refine X.istore_1 (pc := 12) (by decide +kernel) (by decide) rfl ?_
    refine X.iconst (pc := 13) (i := 0) (v := 0) ic_0 (by decide +kernel) ?_
    refine X.istore_2 (pc := 14) (by decide +kernel) (by decide) rfl ?_
    obtain ⟨I19, hv20, h⟩ := bnd1_some h
    refine xl_Land_measure_15 hE hd hS hv20 ?_
    refine X.iconst (pc := 55) (i := 1) (v := 1) ic_1 (by decide +kernel) ?_
    refine X.istore_2 (pc := 56) (by decide +kernel) (by decide) rfl ?_
    obtain ⟨I26, hv27, h⟩ := bnd1_some h
    refine xl_Land_measure_57 hE hd hS hv27 ?_
    refine X.aload_0 (pc := 80) (by decide +kernel) ?_
    refine X.iconst (pc := 81) (i := 1) (v := 1) ic_1 (by decide +kernel) ?_
    refine X.putZ (pc := 82) (k := 5) fw_Land_51 (by decide +kernel) rfl rfl hS (Or.inr rfl) ?_
    refine X.nameMI (fun I28 hI28 => ?_)
    have h := lt_at hI28 h
    have j0 := Option.some.inj h
    subst j0
    exact X.vreturn (pc := 85) (by decide +kernel) rfl ⟨rfl, rfl, rfl, rfl, rfl, rfl⟩
  have h := hr3
  rcases ifb_some h with ⟨hq1, h⟩ | ⟨hq1, h⟩
  · refine X.if_ne_f (pc := 4) (off := 7) (tgt := 11) hq1 rfl (by decide +kernel) ?_
    refine X.iconst (pc := 7) (i := 1) (v := 1) ic_1 (by decide +kernel) ?_
    refine X.goto (pc := 8) (off := 4) (tgt := 12) (by decide +kernel) rfl ?_
    have j0 := Option.some.inj h
    subst j0
    exact hj4
  · refine X.if_ne_t (pc := 4) (off := 7) (tgt := 11) hq1 rfl (by decide +kernel) ?_
    refine X.iconst (pc := 11) (i := 0) (v := 0) ic_0 (by decide +kernel) ?_
    have j0 := Option.some.inj h
    subst j0
    exact hj4
set_option maxRecDepth 100000 in
noncomputable def l_GWL_way_41 (g : Nat) (S : MS) (R : MR) (v0 : Nat) (v2 : Int32) : Nat → MI → ML → Int32 → Int32 → Option (MI × ML)
  | 0, _, _, _, _ => none
  | f + 1, I, L, v1, v3 =>
    ifb (v3 ≤ 0)
      (some (I, L))
      (ifb (10 ≤ (v2 - v3))
        (some (I, L))
        (bnd1 (R v0 2) fun b18 =>
        asrt ((S b18).1 = 2) <|
        bnd1 (f_Land_turnTowards g S R I b18 v1 (v3 - 1)) fun x20 =>
        bnd1 (R v0 1) fun b22 =>
        asrt ((S b22).1 = 4) <|
        bnd2 (f_Numbers_add S R I L b22 (Int32.toInt64 x20)) fun I24 L25 =>
        bnd1 (f_Land_after S R I24 b18 v1 x20) fun x27 =>
        l_GWL_way_41 g S R v0 v2 f I24 L25 x27 (v3 + (-1))))
set_option maxRecDepth 100000 in
set_option maxHeartbeats 4000000 in
theorem xl_GWL_way_41 {E : Env} (hE : OKE E) {tg : Bool} {d : Nat} (hd : 4 ≤ d) {g : Nat} {S : MS} {R : MR} {n : Nat} {v0 : Nat} {v2 : Int32} {K : KT} :
    ∀ {f : Nat} {I : MI} {L : ML} {v1 : Int32} {v3 : Int32} {I' : MI} {L' : ML}, (S v0).1 = 11 → l_GWL_way_41 g S R v0 v2 f I L v1 v3 = some (I', L') → X E y_GWL_way b_GWL_way 5 (some .int) tg d 0 0 93 [none, none, some (.int v2), none, none] [] S I' L' R n K → X E y_GWL_way b_GWL_way 5 (some .int) tg d 0 0 41 [some (.ref (e_b E + v0)), some (.int v1), some (.int v2), some (.int v3), none] [] S I L R n K := by
  intro f
  induction f with
  | zero =>
    intro I L v1 v3 I' L' hS h hk
    rw [l_GWL_way_41] at h
    cases h
  | succ f ih =>
    intro I L v1 v3 I' L' hS h hk
    rw [l_GWL_way_41] at h
    refine X.iload_3 (pc := 41) (by decide +kernel) ?_
    rcases ifb_some h with ⟨hq16, h⟩ | ⟨hq16, h⟩
    · refine X.if_le_t (pc := 42) (off := 51) (tgt := 93) hq16 rfl (by decide +kernel) ?_
      have j0 := Option.some.inj h
      obtain ⟨i0, j1⟩ := Prod.mk.inj j0
      subst i0
      subst j1
      refine X.fgt (o' := [none, none, some (.int v2), none, none]) ⟨rfl, trivial⟩ ?_
      exact hk
    · refine X.if_le_f (pc := 42) (off := 51) (tgt := 93) hq16 rfl (by decide +kernel) ?_
      refine X.iload_2 (pc := 45) (by decide +kernel) ?_
      refine X.iload_3 (pc := 46) (by decide +kernel) ?_
      refine X.isub (pc := 47) (by decide +kernel) ?_
      refine X.bipush (pc := 48) (i := 10) (v := 10) bp_10 (by decide +kernel) ?_
      rcases ifb_some h with ⟨hq17, h⟩ | ⟨hq17, h⟩
      · refine X.icmp_ge_t (pc := 50) (off := 43) (tgt := 93) hq17 rfl (by decide +kernel) ?_
        have j0 := Option.some.inj h
        obtain ⟨i0, j1⟩ := Prod.mk.inj j0
        subst i0
        subst j1
        refine X.fgt (o' := [none, none, some (.int v2), none, none]) ⟨rfl, trivial⟩ ?_
        exact hk
      · refine X.icmp_ge_f (pc := 50) (off := 43) (tgt := 93) hq17 rfl (by decide +kernel) ?_
        refine X.aload_0 (pc := 53) (by decide +kernel) ?_
        obtain ⟨b18, hb18, h⟩ := bnd1_some h
        refine X.getR (pc := 54) (k := 2) fw_GWL_83 (by decide +kernel) (fun _ => rfl) hS hb18 ?_
        refine X.iload_1 (pc := 57) (by decide +kernel) ?_
        refine X.iload_3 (pc := 58) (by decide +kernel) ?_
        refine X.iconst (pc := 59) (i := 1) (v := 1) ic_1 (by decide +kernel) ?_
        refine X.isub (pc := 60) (by decide +kernel) ?_
        obtain ⟨hc19, h⟩ := asrt_some h
        obtain ⟨x20, hv21, h⟩ := bnd1_some h
        refine X.callVi (pc := 61) (nc := 0) (ns := 0) (c_Land_turnTowards hE (dle hd (Nat.le_of_ble_eq_true rfl)) hc19 hv21) cv_GWL_256 (by decide +kernel) hc19 ⟨by decide, rfl⟩ (ddd hd (Nat.le_of_ble_eq_true rfl)) rfl (Nat.le_of_ble_eq_true rfl) rfl rfl ?_
        refine X.istore_4 (pc := 64) (by decide +kernel) (by decide) rfl ?_
        refine X.aload_0 (pc := 66) (by decide +kernel) ?_
        obtain ⟨b22, hb22, h⟩ := bnd1_some h
        refine X.getR (pc := 67) (k := 1) fw_GWL_19 (by decide +kernel) (fun _ => rfl) hS hb22 ?_
        refine X.iload_4 (pc := 70) (by decide +kernel) ?_
        refine X.i2l (pc := 72) (by decide +kernel) ?_
        obtain ⟨hc23, h⟩ := asrt_some h
        obtain ⟨I24, L25, hv26, h⟩ := bnd2_some h
        refine X.callVv (pc := 73) (nc := 0) (ns := 0) (c_Numbers_add hE (dle hd (Nat.le_of_ble_eq_true rfl)) hc23 hv26) cv_GWL_209 (by decide +kernel) hc23 ⟨by decide, rfl⟩ (ddd hd (Nat.le_of_ble_eq_true rfl)) rfl (Nat.le_of_ble_eq_true rfl) rfl rfl ?_
        refine X.aload_0 (pc := 76) (by decide +kernel) ?_
        refine X.getR (pc := 77) (k := 2) fw_GWL_83 (by decide +kernel) (fun _ => rfl) hS hb18 ?_
        refine X.iload_1 (pc := 80) (by decide +kernel) ?_
        refine X.iload_4 (pc := 81) (by decide +kernel) ?_
        obtain ⟨x27, hv28, h⟩ := bnd1_some h
        refine X.callVi (pc := 83) (nc := 0) (ns := 0) (c_Land_after hE (dle hd (Nat.le_of_ble_eq_true rfl)) hc19 hv28) cv_GWL_243 (by decide +kernel) hc19 ⟨by decide, rfl⟩ (ddd hd (Nat.le_of_ble_eq_true rfl)) rfl (Nat.le_of_ble_eq_true rfl) rfl rfl ?_
        refine X.istore_1 (pc := 86) (by decide +kernel) (by decide) rfl ?_
        refine X.iinc_3 (pc := 87) (z := (-1)) (v := (-1)) ic_m1 (by decide +kernel) (by decide) rfl ?_
        refine X.goto (pc := 90) (off := (-49)) (tgt := 41) (by decide +kernel) rfl ?_
        refine X.fgt (o' := [some (.ref (e_b E + v0)), some (.int x27), some (.int v2), some (.int (v3 + (-1))), none]) ⟨rfl, ⟨rfl, ⟨rfl, ⟨rfl, trivial⟩⟩⟩⟩ ?_
        exact ih hS h hk
set_option maxRecDepth 100000 in
noncomputable def f_GWL_way (g : Nat) (S : MS) (R : MR) (I : MI) (L : ML) (t : Nat) : Option (Int32 × MI × ML) :=
  bnd1 (R t 2) fun b1 =>
  asrt ((S b1).1 = 2) <|
  bnd1 (f_Land_measure g S R I b1) fun I3 =>
  bnd1 (R t 3) fun b5 =>
  asrt ((S b5).1 = 5) <|
  bnd1 (f_Party_stance S I3 b5) fun x7 =>
  bnd1 (f_Land_stepsHome S R I3 b1 x7) fun x9 =>
  ifb (x9 = (-1))
    (some ((-2), I3, L))
    (bnd1 (R t 1) fun b12 =>
    asrt ((S b12).1 = 4) <|
    bnd1 (f_Numbers_begin S I3 b12) fun I14 =>
    bnd2 (l_GWL_way_41 g S R t x9 g I14 L x7 x9) fun I29 L30 =>
    some (x9, I29, L30))
set_option maxRecDepth 100000 in
set_option maxHeartbeats 4000000 in
theorem c_GWL_way {E : Env} (hE : OKE E) {tg : Bool} {d : Nat} (hd : 4 ≤ d) {g : Nat} {S : MS} {I : MI} {L : ML} {R : MR} {n : Nat} {t : Nat} {v : Int32} {I' : MI} {L' : ML} (hS : (S t).1 = 11) (h : f_GWL_way g S R I L t = some (v, I', L')) : C E y_GWL_way b_GWL_way 5 (some .int) tg d 0 0 [.ref (e_b E + t)] S I L R n (Kq (some (.int v)) S I' L' R n) := by
  refine C.of (o := [some (.ref (e_b E + t)), none, none, none, none]) (by decide) rfl (Nat.le_of_ble_eq_true rfl) ?_
  rw [f_GWL_way] at h
  refine X.aload_0 (pc := 0) (by decide +kernel) ?_
  obtain ⟨b1, hb1, h⟩ := bnd1_some h
  refine X.getR (pc := 1) (k := 2) fw_GWL_83 (by decide +kernel) (fun _ => rfl) hS hb1 ?_
  obtain ⟨hc2, h⟩ := asrt_some h
  obtain ⟨I3, hv4, h⟩ := bnd1_some h
  refine X.callVv (pc := 4) (nc := 0) (ns := 0) (c_Land_measure hE (dle hd (Nat.le_of_ble_eq_true rfl)) hc2 hv4) cv_GWL_250 (by decide +kernel) hc2 ⟨by decide, rfl⟩ (ddd hd (Nat.le_of_ble_eq_true rfl)) rfl (Nat.le_of_ble_eq_true rfl) rfl rfl ?_
  refine X.aload_0 (pc := 7) (by decide +kernel) ?_
  obtain ⟨b5, hb5, h⟩ := bnd1_some h
  refine X.getR (pc := 8) (k := 3) fw_GWL_87 (by decide +kernel) (fun _ => rfl) hS hb5 ?_
  obtain ⟨hc6, h⟩ := asrt_some h
  obtain ⟨x7, hv8, h⟩ := bnd1_some h
  refine X.callVi (pc := 11) (nc := 0) (ns := 0) (c_Party_stance hE (dle hd (Nat.le_of_ble_eq_true rfl)) hc6 hv8) cv_GWL_228 (by decide +kernel) hc6 ⟨by decide, rfl⟩ (ddd hd (Nat.le_of_ble_eq_true rfl)) rfl (Nat.le_of_ble_eq_true rfl) rfl rfl ?_
  refine X.istore_1 (pc := 14) (by decide +kernel) (by decide) rfl ?_
  refine X.aload_0 (pc := 15) (by decide +kernel) ?_
  refine X.getR (pc := 16) (k := 2) fw_GWL_83 (by decide +kernel) (fun _ => rfl) hS hb1 ?_
  refine X.iload_1 (pc := 19) (by decide +kernel) ?_
  obtain ⟨x9, hv10, h⟩ := bnd1_some h
  refine X.callVi (pc := 20) (nc := 0) (ns := 0) (c_Land_stepsHome hE (dle hd (Nat.le_of_ble_eq_true rfl)) hc2 hv10) cv_GWL_253 (by decide +kernel) hc2 ⟨by decide, rfl⟩ (ddd hd (Nat.le_of_ble_eq_true rfl)) rfl (Nat.le_of_ble_eq_true rfl) rfl rfl ?_
  refine X.istore_2 (pc := 23) (by decide +kernel) (by decide) rfl ?_
  refine X.iload_2 (pc := 24) (by decide +kernel) ?_
  refine X.iconst (pc := 25) (i := (-1)) (v := (-1)) ic_m1 (by decide +kernel) ?_
  rcases ifb_some h with ⟨hq11, h⟩ | ⟨hq11, h⟩
  · refine X.icmp_ne_f (pc := 26) (off := 6) (tgt := 32) hq11 rfl (by decide +kernel) ?_
    refine X.bipush (pc := 29) (i := (-2)) (v := (-2)) bp_m2 (by decide +kernel) ?_
    have j0 := Option.some.inj h
    obtain ⟨i0, j1⟩ := Prod.mk.inj j0
    obtain ⟨i1, j2⟩ := Prod.mk.inj j1
    subst i0
    subst i1
    subst j2
    exact X.ireturn (pc := 31) (by decide +kernel) ⟨_, rfl, rfl⟩ ⟨rfl, rfl, rfl, rfl, rfl, rfl⟩
  · refine X.icmp_ne_t (pc := 26) (off := 6) (tgt := 32) hq11 rfl (by decide +kernel) ?_
    refine X.aload_0 (pc := 32) (by decide +kernel) ?_
    obtain ⟨b12, hb12, h⟩ := bnd1_some h
    refine X.getR (pc := 33) (k := 1) fw_GWL_19 (by decide +kernel) (fun _ => rfl) hS hb12 ?_
    obtain ⟨hc13, h⟩ := asrt_some h
    obtain ⟨I14, hv15, h⟩ := bnd1_some h
    refine X.callVv (pc := 36) (nc := 0) (ns := 0) (c_Numbers_begin hE (dle hd (Nat.le_of_ble_eq_true rfl)) hc13 hv15) cv_GWL_207 (by decide +kernel) hc13 ⟨by decide, rfl⟩ (ddd hd (Nat.le_of_ble_eq_true rfl)) rfl (Nat.le_of_ble_eq_true rfl) rfl rfl ?_
    refine X.iload_2 (pc := 39) (by decide +kernel) ?_
    refine X.istore_3 (pc := 40) (by decide +kernel) (by decide) rfl ?_
    obtain ⟨I29, L30, hv31, h⟩ := bnd2_some h
    refine xl_GWL_way_41 hE hd hS hv31 ?_
    refine X.iload_2 (pc := 93) (by decide +kernel) ?_
    have j0 := Option.some.inj h
    obtain ⟨i0, j1⟩ := Prod.mk.inj j0
    obtain ⟨i1, j2⟩ := Prod.mk.inj j1
    subst i0
    subst i1
    subst j2
    exact X.ireturn (pc := 94) (by decide +kernel) ⟨_, rfl, rfl⟩ ⟨rfl, rfl, rfl, rfl, rfl, rfl⟩
set_option maxRecDepth 100000 in
noncomputable def f_Spread_find (S : MS) (R : MR) (I : MI) (t : Nat) (p1 : Int32) (p2 : Int32) : Option MI :=
  bnd1 (ifb (p1 < 0)
      (some I)
      (ifb (144 ≤ p1)
        (some I)
        (bnd1 (R t 1) fun b6 =>
        asrt ((S b6).1 = 20) <|
        asrt (vp_in p1 (S b6).2) <|
        ifb ((I b6 (Int32.toNatClampNeg p1)) = (-1))
          (ifb (144 ≤ (I t 2))
            (some I)
            (asrt (vp_in p1 (S b6).2) <|
            lt (wI I b6 (Int32.toNatClampNeg p1) p2) fun (I12 : MI) =>
            bnd1 (R t 0) fun b13 =>
            asrt ((S b13).1 = 20) <|
            asrt (vp_in (I12 t 2) (S b13).2) <|
            lt (wI I12 b13 (Int32.toNatClampNeg (I12 t 2)) p1) fun (I16 : MI) =>
            lt ((I16 t 2) + 1) fun (x17 : Int32) =>
            lt (wI I16 t 2 x17) fun (I18 : MI) =>
            some I18))
          (some I)))) fun (I2 : MI) =>
  some I2
set_option maxRecDepth 100000 in
set_option maxHeartbeats 4000000 in
theorem c_Spread_find {E : Env} (hE : OKE E) {tg : Bool} {d : Nat} (hd : 0 ≤ d) {S : MS} {I : MI} {L : ML} {R : MR} {n : Nat} {t : Nat} {p1 : Int32} {p2 : Int32} {I' : MI} (hS : (S t).1 = 9) (h : f_Spread_find S R I t p1 p2 = some I') : C E y_Spread_find b_Spread_find 3 none tg d 0 0 [.ref (e_b E + t), .int p1, .int p2] S I L R n (Kq none S I' L R n) := by
  refine C.of (o := [some (.ref (e_b E + t)), some (.int p1), some (.int p2)]) (by decide) rfl (Nat.le_of_ble_eq_true rfl) ?_
  rw [f_Spread_find] at h
  refine X.iload_1 (pc := 0) (by decide +kernel) ?_
  obtain ⟨I2, hr3, h⟩ := bnd1_some h
  have hj4 : X E y_Spread_find b_Spread_find 3 none tg d 0 0 58 [none, none, none] [] S I2 L R n (Kq none S I' L R n) := by
    have j0 := Option.some.inj h
    subst j0
    exact X.vreturn (pc := 58) (by decide +kernel) rfl ⟨rfl, rfl, rfl, rfl, rfl, rfl⟩
  have h := hr3
  rcases ifb_some h with ⟨hq1, h⟩ | ⟨hq1, h⟩
  · refine X.if_lt_t (pc := 1) (off := 57) (tgt := 58) hq1 rfl (by decide +kernel) ?_
    have j0 := Option.some.inj h
    subst j0
    refine X.fgt (o' := [none, none, none]) trivial ?_
    exact hj4
  · refine X.if_lt_f (pc := 1) (off := 57) (tgt := 58) hq1 rfl (by decide +kernel) ?_
    refine X.iload_1 (pc := 4) (by decide +kernel) ?_
    refine X.sipush (pc := 5) (i := 144) (v := 144) sp_144 (by decide +kernel) ?_
    rcases ifb_some h with ⟨hq5, h⟩ | ⟨hq5, h⟩
    · refine X.icmp_ge_t (pc := 8) (off := 50) (tgt := 58) hq5 rfl (by decide +kernel) ?_
      have j0 := Option.some.inj h
      subst j0
      refine X.fgt (o' := [none, none, none]) trivial ?_
      exact hj4
    · refine X.icmp_ge_f (pc := 8) (off := 50) (tgt := 58) hq5 rfl (by decide +kernel) ?_
      refine X.aload_0 (pc := 11) (by decide +kernel) ?_
      obtain ⟨b6, hb6, h⟩ := bnd1_some h
      refine X.getR (pc := 12) (k := 1) fw_Spread_15 (by decide +kernel) (fun _ => rfl) hS hb6 ?_
      refine X.iload_1 (pc := 15) (by decide +kernel) ?_
      obtain ⟨hc8, h⟩ := asrt_some h
      obtain ⟨hi7, h⟩ := asrt_some h
      refine X.iaload (pc := 16) (by decide +kernel) hc8 hi7 ?_
      refine X.iconst (pc := 17) (i := (-1)) (v := (-1)) ic_m1 (by decide +kernel) ?_
      rcases ifb_some h with ⟨hq9, h⟩ | ⟨hq9, h⟩
      · refine X.icmp_ne_f (pc := 18) (off := 40) (tgt := 58) hq9 rfl (by decide +kernel) ?_
        refine X.aload_0 (pc := 21) (by decide +kernel) ?_
        refine X.getI (pc := 22) (k := 2) fw_Spread_24 (by decide +kernel) (fun _ => rfl) hS ?_
        refine X.sipush (pc := 25) (i := 144) (v := 144) sp_144 (by decide +kernel) ?_
        rcases ifb_some h with ⟨hq10, h⟩ | ⟨hq10, h⟩
        · refine X.icmp_ge_t (pc := 28) (off := 30) (tgt := 58) hq10 rfl (by decide +kernel) ?_
          have j0 := Option.some.inj h
          subst j0
          refine X.fgt (o' := [none, none, none]) trivial ?_
          exact hj4
        · refine X.icmp_ge_f (pc := 28) (off := 30) (tgt := 58) hq10 rfl (by decide +kernel) ?_
          refine X.aload_0 (pc := 31) (by decide +kernel) ?_
          refine X.getR (pc := 32) (k := 1) fw_Spread_15 (by decide +kernel) (fun _ => rfl) hS hb6 ?_
          refine X.iload_1 (pc := 35) (by decide +kernel) ?_
          refine X.iload_2 (pc := 36) (by decide +kernel) ?_
          obtain ⟨hi11, h⟩ := asrt_some h
          refine X.iastore (pc := 37) (by decide +kernel) hc8 hi11 ?_
          refine X.nameMI (fun I12 hI12 => ?_)
          have h := lt_at hI12 h
          refine X.aload_0 (pc := 38) (by decide +kernel) ?_
          obtain ⟨b13, hb13, h⟩ := bnd1_some h
          refine X.getR (pc := 39) (k := 0) fw_Spread_9 (by decide +kernel) (fun _ => rfl) hS hb13 ?_
          refine X.aload_0 (pc := 42) (by decide +kernel) ?_
          refine X.getI (pc := 43) (k := 2) fw_Spread_24 (by decide +kernel) (fun _ => rfl) hS ?_
          refine X.iload_1 (pc := 46) (by decide +kernel) ?_
          obtain ⟨hc14, h⟩ := asrt_some h
          obtain ⟨hi15, h⟩ := asrt_some h
          refine X.iastore (pc := 47) (by decide +kernel) hc14 hi15 ?_
          refine X.nameMI (fun I16 hI16 => ?_)
          have h := lt_at hI16 h
          refine X.aload_0 (pc := 48) (by decide +kernel) ?_
          refine X.dupr (pc := 49) (by decide +kernel) ?_
          refine X.getI (pc := 50) (k := 2) fw_Spread_24 (by decide +kernel) (fun _ => rfl) hS ?_
          refine X.iconst (pc := 53) (i := 1) (v := 1) ic_1 (by decide +kernel) ?_
          refine X.iadd (pc := 54) (by decide +kernel) ?_
          refine X.nameI (fun x17 hx17 => ?_)
          have h := lt_at hx17 h
          refine X.putI (pc := 55) (k := 2) fw_Spread_24 (by decide +kernel) rfl rfl hS ?_
          refine X.nameMI (fun I18 hI18 => ?_)
          have h := lt_at hI18 h
          have j0 := Option.some.inj h
          subst j0
          refine X.fgt (o' := [none, none, none]) trivial ?_
          exact hj4
      · refine X.icmp_ne_t (pc := 18) (off := 40) (tgt := 58) hq9 rfl (by decide +kernel) ?_
        have j0 := Option.some.inj h
        subst j0
        refine X.fgt (o' := [none, none, none]) trivial ?_
        exact hj4
set_option maxRecDepth 100000 in
noncomputable def f_Spread_depthOf (S : MS) (R : MR) (I : MI) (t : Nat) (p1 : Int32) : Option Int32 :=
  bnd1 (ifb (p1 < 0)
      (some 144)
      (ifb (144 ≤ p1)
        (some 144)
        (bnd1 (R t 1) fun b6 =>
        asrt ((S b6).1 = 20) <|
        asrt (vp_in p1 (S b6).2) <|
        some (I b6 (Int32.toNatClampNeg p1))))) fun (y2 : Int32) =>
  some y2
set_option maxRecDepth 100000 in
set_option maxHeartbeats 4000000 in
theorem c_Spread_depthOf {E : Env} (hE : OKE E) {tg : Bool} {d : Nat} (hd : 0 ≤ d) {S : MS} {I : MI} {L : ML} {R : MR} {n : Nat} {t : Nat} {p1 : Int32} {v : Int32} (hS : (S t).1 = 9) (h : f_Spread_depthOf S R I t p1 = some v) : C E y_Spread_depthOf b_Spread_depthOf 2 (some .int) tg d 0 0 [.ref (e_b E + t), .int p1] S I L R n (Kq (some (.int v)) S I L R n) := by
  refine C.of (o := [some (.ref (e_b E + t)), some (.int p1)]) (by decide) rfl (Nat.le_of_ble_eq_true rfl) ?_
  rw [f_Spread_depthOf] at h
  refine X.iload_1 (pc := 0) (by decide +kernel) ?_
  obtain ⟨y2, hr3, h⟩ := bnd1_some h
  have hj4 : X E y_Spread_depthOf b_Spread_depthOf 2 (some .int) tg d 0 0 23 [none, none] [.int y2] S I L R n (Kq (some (.int v)) S I L R n) := by
    have j0 := Option.some.inj h
    subst j0
    exact X.ireturn (pc := 23) (by decide +kernel) ⟨_, rfl, rfl⟩ ⟨rfl, rfl, rfl, rfl, rfl, rfl⟩
  have h := hr3
  rcases ifb_some h with ⟨hq1, h⟩ | ⟨hq1, h⟩
  · refine X.if_lt_t (pc := 1) (off := 19) (tgt := 20) hq1 rfl (by decide +kernel) ?_
    refine X.sipush (pc := 20) (i := 144) (v := 144) sp_144 (by decide +kernel) ?_
    have j0 := Option.some.inj h
    subst j0
    refine X.fgt (o' := [none, none]) trivial ?_
    exact hj4
  · refine X.if_lt_f (pc := 1) (off := 19) (tgt := 20) hq1 rfl (by decide +kernel) ?_
    refine X.iload_1 (pc := 4) (by decide +kernel) ?_
    refine X.sipush (pc := 5) (i := 144) (v := 144) sp_144 (by decide +kernel) ?_
    rcases ifb_some h with ⟨hq5, h⟩ | ⟨hq5, h⟩
    · refine X.icmp_ge_t (pc := 8) (off := 12) (tgt := 20) hq5 rfl (by decide +kernel) ?_
      refine X.sipush (pc := 20) (i := 144) (v := 144) sp_144 (by decide +kernel) ?_
      have j0 := Option.some.inj h
      subst j0
      refine X.fgt (o' := [none, none]) trivial ?_
      exact hj4
    · refine X.icmp_ge_f (pc := 8) (off := 12) (tgt := 20) hq5 rfl (by decide +kernel) ?_
      refine X.aload_0 (pc := 11) (by decide +kernel) ?_
      obtain ⟨b6, hb6, h⟩ := bnd1_some h
      refine X.getR (pc := 12) (k := 1) fw_Spread_15 (by decide +kernel) (fun _ => rfl) hS hb6 ?_
      refine X.iload_1 (pc := 15) (by decide +kernel) ?_
      obtain ⟨hc8, h⟩ := asrt_some h
      obtain ⟨hi7, h⟩ := asrt_some h
      refine X.iaload (pc := 16) (by decide +kernel) hc8 hi7 ?_
      refine X.goto (pc := 17) (off := 6) (tgt := 23) (by decide +kernel) rfl ?_
      have j0 := Option.some.inj h
      subst j0
      refine X.fgt (o' := [none, none]) trivial ?_
      exact hj4
set_option maxRecDepth 100000 in
noncomputable def l_Spread_from_77 (S : MS) (R : MR) (v0 : Nat) (v1 : Nat) (v3 : Int32) (v4 : Int32) (v5 : Int32) (v6 : Int32) (v7 : Int32) : Nat → MI → Int32 → Option MI
  | 0, _, _ => none
  | f + 1, I, v8 =>
    ifb (3 ≤ v8)
      (some I)
      (bnd1 (ifb (((ius v4 v8) &&& 1) = 0)
          (some I)
          (asrt ((S v1).1 = 2) <|
          bnd1 (f_Land_after S R I v1 v6 v8) fun x31 =>
          bnd1 (f_Spread_find S R I v0 x31 (v7 + 1)) fun I33 =>
          some I33)) fun (I27 : MI) =>
      l_Spread_from_77 S R v0 v1 v3 v4 v5 v6 v7 f I27 (v8 + 1))
set_option maxRecDepth 100000 in
set_option maxHeartbeats 4000000 in
theorem xl_Spread_from_77 {E : Env} (hE : OKE E) {tg : Bool} {d : Nat} (hd : 2 ≤ d) {S : MS} {L : ML} {R : MR} {n : Nat} {v0 : Nat} {v1 : Nat} {v3 : Int32} {v4 : Int32} {v5 : Int32} {v6 : Int32} {v7 : Int32} {K : KT} :
    ∀ {f : Nat} {I : MI} {v8 : Int32} {I' : MI}, (S v0).1 = 9 → l_Spread_from_77 S R v0 v1 v3 v4 v5 v6 v7 f I v8 = some I' → X E y_Spread_from b_Spread_from 9 none tg d 0 0 115 [some (.ref (e_b E + v0)), some (.ref (e_b E + v1)), none, some (.int v3), some (.int v4), some (.int v5), none, none, none] [] S I' L R n K → X E y_Spread_from b_Spread_from 9 none tg d 0 0 77 [some (.ref (e_b E + v0)), some (.ref (e_b E + v1)), none, some (.int v3), some (.int v4), some (.int v5), some (.int v6), some (.int v7), some (.int v8)] [] S I L R n K := by
  intro f
  induction f with
  | zero =>
    intro I v8 I' hS h hk
    rw [l_Spread_from_77] at h
    cases h
  | succ f ih =>
    intro I v8 I' hS h hk
    rw [l_Spread_from_77] at h
    refine X.iload_8 (pc := 77) (by decide +kernel) ?_
    refine X.iconst (pc := 79) (i := 3) (v := 3) ic_3 (by decide +kernel) ?_
    rcases ifb_some h with ⟨hq25, h⟩ | ⟨hq25, h⟩
    · refine X.icmp_ge_t (pc := 80) (off := 35) (tgt := 115) hq25 rfl (by decide +kernel) ?_
      have j0 := Option.some.inj h
      subst j0
      refine X.fgt (o' := [some (.ref (e_b E + v0)), some (.ref (e_b E + v1)), none, some (.int v3), some (.int v4), some (.int v5), none, none, none]) ⟨rfl, ⟨rfl, ⟨rfl, ⟨rfl, ⟨rfl, trivial⟩⟩⟩⟩⟩ ?_
      exact hk
    · refine X.icmp_ge_f (pc := 80) (off := 35) (tgt := 115) hq25 rfl (by decide +kernel) ?_
      refine X.iload_4 (pc := 83) (by decide +kernel) ?_
      refine X.iload_8 (pc := 85) (by decide +kernel) ?_
      refine X.iushr (pc := 87) (by decide +kernel) ?_
      refine X.iconst (pc := 88) (i := 1) (v := 1) ic_1 (by decide +kernel) ?_
      refine X.iand (pc := 89) (by decide +kernel) ?_
      obtain ⟨I27, hr28, h⟩ := bnd1_some h
      have hj29 : X E y_Spread_from b_Spread_from 9 none tg d 0 0 109 [some (.ref (e_b E + v0)), some (.ref (e_b E + v1)), none, some (.int v3), some (.int v4), some (.int v5), some (.int v6), some (.int v7), some (.int v8)] [] S I27 L R n K := by
        refine X.iinc_8 (pc := 109) (z := 1) (v := 1) ic_1 (by decide +kernel) (by decide) rfl ?_
        refine X.goto (pc := 112) (off := (-35)) (tgt := 77) (by decide +kernel) rfl ?_
        exact ih hS h hk
      have h := hr28
      rcases ifb_some h with ⟨hq26, h⟩ | ⟨hq26, h⟩
      · refine X.if_eq_t (pc := 90) (off := 19) (tgt := 109) hq26 rfl (by decide +kernel) ?_
        have j0 := Option.some.inj h
        subst j0
        exact hj29
      · refine X.if_eq_f (pc := 90) (off := 19) (tgt := 109) hq26 rfl (by decide +kernel) ?_
        refine X.aload_0 (pc := 93) (by decide +kernel) ?_
        refine X.aload_1 (pc := 94) (by decide +kernel) ?_
        refine X.iload_6 (pc := 95) (by decide +kernel) ?_
        refine X.iload_8 (pc := 97) (by decide +kernel) ?_
        obtain ⟨hc30, h⟩ := asrt_some h
        obtain ⟨x31, hv32, h⟩ := bnd1_some h
        refine X.callVi (pc := 99) (nc := 0) (ns := 0) (c_Land_after hE (dle hd (Nat.le_of_ble_eq_true rfl)) hc30 hv32) cv_Spread_45 (by decide +kernel) hc30 ⟨by decide, rfl⟩ (ddd hd (Nat.le_of_ble_eq_true rfl)) rfl (Nat.le_of_ble_eq_true rfl) rfl rfl ?_
        refine X.iload_7 (pc := 102) (by decide +kernel) ?_
        refine X.iconst (pc := 104) (i := 1) (v := 1) ic_1 (by decide +kernel) ?_
        refine X.iadd (pc := 105) (by decide +kernel) ?_
        obtain ⟨I33, hv34, h⟩ := bnd1_some h
        refine X.callVv (pc := 106) (nc := 0) (ns := 0) (c_Spread_find hE (dle hd (Nat.le_of_ble_eq_true rfl)) hS hv34) cv_Spread_28 (by decide +kernel) hS ⟨by decide, rfl⟩ (ddd hd (Nat.le_of_ble_eq_true rfl)) rfl (Nat.le_of_ble_eq_true rfl) rfl rfl ?_
        have j0 := Option.some.inj h
        subst j0
        exact hj29
set_option maxRecDepth 100000 in
noncomputable def l_Spread_from_22 (g : Nat) (S : MS) (R : MR) (v0 : Nat) (v1 : Nat) (v3 : Int32) (v4 : Int32) : Nat → MI → Int32 → Option MI
  | 0, _, _ => none
  | f + 1, I, v5 =>
    ifb ((I v0 2) ≤ v5)
      (some I)
      (ifb (144 ≤ v5)
        (some I)
        (bnd1 (R v0 0) fun b9 =>
        asrt ((S b9).1 = 20) <|
        asrt (vp_in v5 (S b9).2) <|
        lt (I b9 (Int32.toNatClampNeg v5)) fun (x12 : Int32) =>
        bnd1 (f_Spread_depthOf S R I v0 x12) fun x13 =>
        bnd1 (ifb (v3 ≤ x13)
            (some I)
            (bnd1 (f_GWL_cellOf x12) fun x19 =>
            asrt ((S v1).1 = 2) <|
            bnd1 (f_Land_endsAt S R I v1 x19) fun x22 =>
            ifb (x22 = 0)
              (bnd1 (l_Spread_from_77 S R v0 v1 v3 v4 v5 x12 x13 g I 0) fun I35 =>
              some I35)
              (some I))) fun (I16 : MI) =>
        l_Spread_from_22 g S R v0 v1 v3 v4 f I16 (v5 + 1)))
set_option maxRecDepth 100000 in
set_option maxHeartbeats 4000000 in
theorem xl_Spread_from_22 {E : Env} (hE : OKE E) {tg : Bool} {d : Nat} (hd : 2 ≤ d) {g : Nat} {S : MS} {L : ML} {R : MR} {n : Nat} {v0 : Nat} {v1 : Nat} {v3 : Int32} {v4 : Int32} {K : KT} :
    ∀ {f : Nat} {I : MI} {v5 : Int32} {I' : MI}, (S v0).1 = 9 → l_Spread_from_22 g S R v0 v1 v3 v4 f I v5 = some I' → X E y_Spread_from b_Spread_from 9 none tg d 0 0 121 [none, none, none, none, none, none, none, none, none] [] S I' L R n K → X E y_Spread_from b_Spread_from 9 none tg d 0 0 22 [some (.ref (e_b E + v0)), some (.ref (e_b E + v1)), none, some (.int v3), some (.int v4), some (.int v5), none, none, none] [] S I L R n K := by
  intro f
  induction f with
  | zero =>
    intro I v5 I' hS h hk
    rw [l_Spread_from_22] at h
    cases h
  | succ f ih =>
    intro I v5 I' hS h hk
    rw [l_Spread_from_22] at h
    refine X.iload_5 (pc := 22) (by decide +kernel) ?_
    refine X.aload_0 (pc := 24) (by decide +kernel) ?_
    refine X.getI (pc := 25) (k := 2) fw_Spread_24 (by decide +kernel) (fun _ => rfl) hS ?_
    rcases ifb_some h with ⟨hq7, h⟩ | ⟨hq7, h⟩
    · refine X.icmp_ge_t (pc := 28) (off := 93) (tgt := 121) hq7 rfl (by decide +kernel) ?_
      have j0 := Option.some.inj h
      subst j0
      refine X.fgt (o' := [none, none, none, none, none, none, none, none, none]) trivial ?_
      exact hk
    · refine X.icmp_ge_f (pc := 28) (off := 93) (tgt := 121) hq7 rfl (by decide +kernel) ?_
      refine X.iload_5 (pc := 31) (by decide +kernel) ?_
      refine X.sipush (pc := 33) (i := 144) (v := 144) sp_144 (by decide +kernel) ?_
      rcases ifb_some h with ⟨hq8, h⟩ | ⟨hq8, h⟩
      · refine X.icmp_ge_t (pc := 36) (off := 85) (tgt := 121) hq8 rfl (by decide +kernel) ?_
        have j0 := Option.some.inj h
        subst j0
        refine X.fgt (o' := [none, none, none, none, none, none, none, none, none]) trivial ?_
        exact hk
      · refine X.icmp_ge_f (pc := 36) (off := 85) (tgt := 121) hq8 rfl (by decide +kernel) ?_
        refine X.aload_0 (pc := 39) (by decide +kernel) ?_
        obtain ⟨b9, hb9, h⟩ := bnd1_some h
        refine X.getR (pc := 40) (k := 0) fw_Spread_9 (by decide +kernel) (fun _ => rfl) hS hb9 ?_
        refine X.iload_5 (pc := 43) (by decide +kernel) ?_
        obtain ⟨hc11, h⟩ := asrt_some h
        obtain ⟨hi10, h⟩ := asrt_some h
        refine X.iaload (pc := 45) (by decide +kernel) hc11 hi10 ?_
        refine X.nameI (fun x12 hx12 => ?_)
        have h := lt_at hx12 h
        refine X.istore_6 (pc := 46) (by decide +kernel) (by decide) rfl ?_
        refine X.aload_0 (pc := 48) (by decide +kernel) ?_
        refine X.iload_6 (pc := 49) (by decide +kernel) ?_
        obtain ⟨x13, hv14, h⟩ := bnd1_some h
        refine X.callVi (pc := 51) (nc := 0) (ns := 0) (c_Spread_depthOf hE (dle hd (Nat.le_of_ble_eq_true rfl)) hS hv14) cv_Spread_32 (by decide +kernel) hS ⟨by decide, rfl⟩ (ddd hd (Nat.le_of_ble_eq_true rfl)) rfl (Nat.le_of_ble_eq_true rfl) rfl rfl ?_
        refine X.istore_7 (pc := 54) (by decide +kernel) (by decide) rfl ?_
        refine X.iload_7 (pc := 56) (by decide +kernel) ?_
        refine X.iload_3 (pc := 58) (by decide +kernel) ?_
        obtain ⟨I16, hr17, h⟩ := bnd1_some h
        have hj18 : X E y_Spread_from b_Spread_from 9 none tg d 0 0 115 [some (.ref (e_b E + v0)), some (.ref (e_b E + v1)), none, some (.int v3), some (.int v4), some (.int v5), none, none, none] [] S I16 L R n K := by
          refine X.iinc_5 (pc := 115) (z := 1) (v := 1) ic_1 (by decide +kernel) (by decide) rfl ?_
          refine X.goto (pc := 118) (off := (-96)) (tgt := 22) (by decide +kernel) rfl ?_
          exact ih hS h hk
        have h := hr17
        rcases ifb_some h with ⟨hq15, h⟩ | ⟨hq15, h⟩
        · refine X.icmp_ge_t (pc := 59) (off := 56) (tgt := 115) hq15 rfl (by decide +kernel) ?_
          have j0 := Option.some.inj h
          subst j0
          refine X.fgt (o' := [some (.ref (e_b E + v0)), some (.ref (e_b E + v1)), none, some (.int v3), some (.int v4), some (.int v5), none, none, none]) ⟨rfl, ⟨rfl, ⟨rfl, ⟨rfl, ⟨rfl, trivial⟩⟩⟩⟩⟩ ?_
          exact hj18
        · refine X.icmp_ge_f (pc := 59) (off := 56) (tgt := 115) hq15 rfl (by decide +kernel) ?_
          refine X.aload_1 (pc := 62) (by decide +kernel) ?_
          refine X.iload_6 (pc := 63) (by decide +kernel) ?_
          obtain ⟨x19, hv20, h⟩ := bnd1_some h
          refine X.callSi (pc := 65) (nc := 0) (ns := 0) (c_GWL_cellOf hE (dle hd (Nat.le_of_ble_eq_true rfl)) hv20) cv_Spread_36 (by decide +kernel) (ddd hd (Nat.le_of_ble_eq_true rfl)) rfl (Nat.le_of_ble_eq_true rfl) rfl rfl ?_
          obtain ⟨hc21, h⟩ := asrt_some h
          obtain ⟨x22, hv23, h⟩ := bnd1_some h
          refine X.callVi (pc := 68) (nc := 0) (ns := 0) (c_Land_endsAt hE (dle hd (Nat.le_of_ble_eq_true rfl)) hc21 hv23) cv_Spread_39 (by decide +kernel) hc21 ⟨by decide, rfl⟩ (ddd hd (Nat.le_of_ble_eq_true rfl)) rfl (Nat.le_of_ble_eq_true rfl) rfl rfl ?_
          rcases ifb_some h with ⟨hq24, h⟩ | ⟨hq24, h⟩
          · refine X.if_ne_f (pc := 71) (off := 44) (tgt := 115) hq24 rfl (by decide +kernel) ?_
            refine X.iconst (pc := 74) (i := 0) (v := 0) ic_0 (by decide +kernel) ?_
            refine X.istore_8 (pc := 75) (by decide +kernel) (by decide) rfl ?_
            obtain ⟨I35, hv36, h⟩ := bnd1_some h
            refine xl_Spread_from_77 hE hd hS hv36 ?_
            have j0 := Option.some.inj h
            subst j0
            exact hj18
          · refine X.if_ne_t (pc := 71) (off := 44) (tgt := 115) hq24 rfl (by decide +kernel) ?_
            have j0 := Option.some.inj h
            subst j0
            refine X.fgt (o' := [some (.ref (e_b E + v0)), some (.ref (e_b E + v1)), none, some (.int v3), some (.int v4), some (.int v5), none, none, none]) ⟨rfl, ⟨rfl, ⟨rfl, ⟨rfl, ⟨rfl, trivial⟩⟩⟩⟩⟩ ?_
            exact hj18
set_option maxRecDepth 100000 in
noncomputable def f_Spread_from (g : Nat) (S : MS) (R : MR) (I : MI) (t : Nat) (p1 : Nat) (p2 : Int32) (p3 : Int32) (p4 : Int32) : Option MI :=
  bnd1 (R t 1) fun b1 =>
  bnd1 (f_JArr_fill g S I b1 (-1)) fun I2 =>
  lt (wI I2 t 2 0) fun (I4 : MI) =>
  bnd1 (f_Spread_find S R I4 t p2 0) fun I5 =>
  bnd1 (l_Spread_from_22 g S R t p1 p3 p4 g I5 0) fun I37 =>
  some I37
set_option maxRecDepth 100000 in
set_option maxHeartbeats 4000000 in
theorem c_Spread_from {E : Env} (hE : OKE E) {tg : Bool} {d : Nat} (hd : 2 ≤ d) {g : Nat} {S : MS} {I : MI} {L : ML} {R : MR} {n : Nat} {t : Nat} {p1 : Nat} {p2 : Int32} {p3 : Int32} {p4 : Int32} {I' : MI} (hS : (S t).1 = 9) (h : f_Spread_from g S R I t p1 p2 p3 p4 = some I') : C E y_Spread_from b_Spread_from 9 none tg d 0 0 [.ref (e_b E + t), .ref (e_b E + p1), .int p2, .int p3, .int p4] S I L R n (Kq none S I' L R n) := by
  refine C.of (o := [some (.ref (e_b E + t)), some (.ref (e_b E + p1)), some (.int p2), some (.int p3), some (.int p4), none, none, none, none]) (by decide) rfl (Nat.le_of_ble_eq_true rfl) ?_
  rw [f_Spread_from] at h
  refine X.aload_0 (pc := 0) (by decide +kernel) ?_
  obtain ⟨b1, hb1, h⟩ := bnd1_some h
  refine X.getR (pc := 1) (k := 1) fw_Spread_15 (by decide +kernel) (fun _ => rfl) hS hb1 ?_
  refine X.iconst (pc := 4) (i := (-1)) (v := (-1)) ic_m1 (by decide +kernel) ?_
  obtain ⟨I2, hv3, h⟩ := bnd1_some h
  refine X.callSv (pc := 5) (nc := 0) (ns := 0) (c_JArr_fill hE (dle hd (Nat.le_of_ble_eq_true rfl)) hv3) cv_Spread_18 (by decide +kernel) (ddd hd (Nat.le_of_ble_eq_true rfl)) rfl (Nat.le_of_ble_eq_true rfl) rfl rfl ?_
  refine X.aload_0 (pc := 8) (by decide +kernel) ?_
  refine X.iconst (pc := 9) (i := 0) (v := 0) ic_0 (by decide +kernel) ?_
  refine X.putI (pc := 10) (k := 2) fw_Spread_24 (by decide +kernel) rfl rfl hS ?_
  refine X.nameMI (fun I4 hI4 => ?_)
  have h := lt_at hI4 h
  refine X.aload_0 (pc := 13) (by decide +kernel) ?_
  refine X.iload_2 (pc := 14) (by decide +kernel) ?_
  refine X.iconst (pc := 15) (i := 0) (v := 0) ic_0 (by decide +kernel) ?_
  obtain ⟨I5, hv6, h⟩ := bnd1_some h
  refine X.callVv (pc := 16) (nc := 0) (ns := 0) (c_Spread_find hE (dle hd (Nat.le_of_ble_eq_true rfl)) hS hv6) cv_Spread_28 (by decide +kernel) hS ⟨by decide, rfl⟩ (ddd hd (Nat.le_of_ble_eq_true rfl)) rfl (Nat.le_of_ble_eq_true rfl) rfl rfl ?_
  refine X.iconst (pc := 19) (i := 0) (v := 0) ic_0 (by decide +kernel) ?_
  refine X.istore_5 (pc := 20) (by decide +kernel) (by decide) rfl ?_
  obtain ⟨I37, hv38, h⟩ := bnd1_some h
  refine X.fgt (o' := [some (.ref (e_b E + t)), some (.ref (e_b E + p1)), none, some (.int p3), some (.int p4), some (.int 0), none, none, none]) ⟨rfl, ⟨rfl, ⟨rfl, ⟨rfl, ⟨rfl, trivial⟩⟩⟩⟩⟩ ?_
  refine xl_Spread_from_22 hE hd hS hv38 ?_
  have j0 := Option.some.inj h
  subst j0
  exact X.vreturn (pc := 121) (by decide +kernel) rfl ⟨rfl, rfl, rfl, rfl, rfl, rfl⟩
set_option maxRecDepth 100000 in
noncomputable def l_Spread_cells_4 (S : MS) (R : MR) (I : MI) (v0 : Nat) : Nat → Int64 → Int32 → Option Int64
  | 0, _, _ => none
  | f + 1, v1, v3 =>
    ifb ((I v0 2) ≤ v3)
      (some v1)
      (ifb (144 ≤ v3)
        (some v1)
        (bnd1 (R v0 0) fun b3 =>
        asrt ((S b3).1 = 20) <|
        asrt (vp_in v3 (S b3).2) <|
        bnd1 (f_GWL_cellOf (I b3 (Int32.toNatClampNeg v3))) fun x6 =>
        lt (v1 ||| (lsl 1 x6)) fun (x8 : Int64) =>
        l_Spread_cells_4 S R I v0 f x8 (v3 + 1)))
set_option maxRecDepth 100000 in
set_option maxHeartbeats 4000000 in
theorem xl_Spread_cells_4 {E : Env} (hE : OKE E) {tg : Bool} {d : Nat} (hd : 1 ≤ d) {S : MS} {I : MI} {L : ML} {R : MR} {n : Nat} {v0 : Nat} {K : KT} :
    ∀ {f : Nat}  {v1 : Int64} {v3 : Int32} {o1 : Int64}, (S v0).1 = 9 → l_Spread_cells_4 S R I v0 f v1 v3 = some o1 → X E y_Spread_cells b_Spread_cells 4 (some .long) tg d 0 0 39 [none, some (.long o1), none, none] [] S I L R n K → X E y_Spread_cells b_Spread_cells 4 (some .long) tg d 0 0 4 [some (.ref (e_b E + v0)), some (.long v1), none, some (.int v3)] [] S I L R n K := by
  intro f
  induction f with
  | zero =>
    intro v1 v3 o1 hS h hk
    rw [l_Spread_cells_4] at h
    cases h
  | succ f ih =>
    intro v1 v3 o1 hS h hk
    rw [l_Spread_cells_4] at h
    refine X.iload_3 (pc := 4) (by decide +kernel) ?_
    refine X.aload_0 (pc := 5) (by decide +kernel) ?_
    refine X.getI (pc := 6) (k := 2) fw_Spread_24 (by decide +kernel) (fun _ => rfl) hS ?_
    rcases ifb_some h with ⟨hq1, h⟩ | ⟨hq1, h⟩
    · refine X.icmp_ge_t (pc := 9) (off := 30) (tgt := 39) hq1 rfl (by decide +kernel) ?_
      have j0 := Option.some.inj h
      subst j0
      refine X.fgt (o' := [none, some (.long v1), none, none]) ⟨rfl, trivial⟩ ?_
      exact hk
    · refine X.icmp_ge_f (pc := 9) (off := 30) (tgt := 39) hq1 rfl (by decide +kernel) ?_
      refine X.iload_3 (pc := 12) (by decide +kernel) ?_
      refine X.sipush (pc := 13) (i := 144) (v := 144) sp_144 (by decide +kernel) ?_
      rcases ifb_some h with ⟨hq2, h⟩ | ⟨hq2, h⟩
      · refine X.icmp_ge_t (pc := 16) (off := 23) (tgt := 39) hq2 rfl (by decide +kernel) ?_
        have j0 := Option.some.inj h
        subst j0
        refine X.fgt (o' := [none, some (.long v1), none, none]) ⟨rfl, trivial⟩ ?_
        exact hk
      · refine X.icmp_ge_f (pc := 16) (off := 23) (tgt := 39) hq2 rfl (by decide +kernel) ?_
        refine X.lload_1 (pc := 19) (by decide +kernel) ?_
        refine X.lconst (pc := 20) (i := 1) (v := 1) rfl (by decide +kernel) ?_
        refine X.aload_0 (pc := 21) (by decide +kernel) ?_
        obtain ⟨b3, hb3, h⟩ := bnd1_some h
        refine X.getR (pc := 22) (k := 0) fw_Spread_9 (by decide +kernel) (fun _ => rfl) hS hb3 ?_
        refine X.iload_3 (pc := 25) (by decide +kernel) ?_
        obtain ⟨hc5, h⟩ := asrt_some h
        obtain ⟨hi4, h⟩ := asrt_some h
        refine X.iaload (pc := 26) (by decide +kernel) hc5 hi4 ?_
        obtain ⟨x6, hv7, h⟩ := bnd1_some h
        refine X.callSi (pc := 27) (nc := 0) (ns := 0) (c_GWL_cellOf hE (dle hd (Nat.le_of_ble_eq_true rfl)) hv7) cv_Spread_36 (by decide +kernel) (ddd hd (Nat.le_of_ble_eq_true rfl)) rfl (Nat.le_of_ble_eq_true rfl) rfl rfl ?_
        refine X.lshl (pc := 30) (by decide +kernel) ?_
        refine X.lor (pc := 31) (by decide +kernel) ?_
        refine X.nameL (fun x8 hx8 => ?_)
        have h := lt_at hx8 h
        refine X.lstore_1 (pc := 32) (by decide +kernel) (by decide) rfl ?_
        refine X.iinc_3 (pc := 33) (z := 1) (v := 1) ic_1 (by decide +kernel) (by decide) rfl ?_
        refine X.goto (pc := 36) (off := (-32)) (tgt := 4) (by decide +kernel) rfl ?_
        exact ih hS h hk
set_option maxRecDepth 100000 in
noncomputable def f_Spread_cells (g : Nat) (S : MS) (R : MR) (I : MI) (t : Nat) : Option Int64 :=
  bnd1 (l_Spread_cells_4 S R I t g 0 0) fun x9 =>
  some x9
set_option maxRecDepth 100000 in
set_option maxHeartbeats 4000000 in
theorem c_Spread_cells {E : Env} (hE : OKE E) {tg : Bool} {d : Nat} (hd : 1 ≤ d) {g : Nat} {S : MS} {I : MI} {L : ML} {R : MR} {n : Nat} {t : Nat} {v : Int64} (hS : (S t).1 = 9) (h : f_Spread_cells g S R I t = some v) : C E y_Spread_cells b_Spread_cells 4 (some .long) tg d 0 0 [.ref (e_b E + t)] S I L R n (Kq (some (.long v)) S I L R n) := by
  refine C.of (o := [some (.ref (e_b E + t)), none, none, none]) (by decide) rfl (Nat.le_of_ble_eq_true rfl) ?_
  rw [f_Spread_cells] at h
  refine X.lconst (pc := 0) (i := 0) (v := 0) rfl (by decide +kernel) ?_
  refine X.lstore_1 (pc := 1) (by decide +kernel) (by decide) rfl ?_
  refine X.iconst (pc := 2) (i := 0) (v := 0) ic_0 (by decide +kernel) ?_
  refine X.istore_3 (pc := 3) (by decide +kernel) (by decide) rfl ?_
  obtain ⟨x9, hv10, h⟩ := bnd1_some h
  refine xl_Spread_cells_4 hE hd hS hv10 ?_
  refine X.lload_1 (pc := 39) (by decide +kernel) ?_
  have j0 := Option.some.inj h
  subst j0
  exact X.lreturn (pc := 40) (by decide +kernel) rfl ⟨rfl, rfl, rfl, rfl, rfl, rfl⟩
set_option maxRecDepth 100000 in
noncomputable def f_JLong_bitCount (p1 : Int64) : Option Int32 :=
  lt (p1 - ((lus p1 1) &&& 6148914691236517205)) fun (x1 : Int64) =>
  lt ((x1 &&& 3689348814741910323) + ((lus x1 2) &&& 3689348814741910323)) fun (x2 : Int64) =>
  lt ((x2 + (lus x2 4)) &&& 1085102592571150095) fun (x3 : Int64) =>
  lt (x3 + (lus x3 8)) fun (x4 : Int64) =>
  lt (x4 + (lus x4 16)) fun (x5 : Int64) =>
  lt (x5 + (lus x5 32)) fun (x6 : Int64) =>
  lt ((Int64.toInt32 x6) &&& 127) fun (x7 : Int32) =>
  some x7
set_option maxRecDepth 100000 in
set_option maxHeartbeats 4000000 in
theorem c_JLong_bitCount {E : Env} (hE : OKE E) {tg : Bool} {d : Nat} (hd : 0 ≤ d) {S : MS} {I : MI} {L : ML} {R : MR} {n : Nat} {p1 : Int64} {v : Int32} (h : f_JLong_bitCount p1 = some v) : C E y_JLong_bitCount b_JLong_bitCount 2 (some .int) tg d 0 0 [.long p1] S I L R n (Kq (some (.int v)) S I L R n) := by
  refine C.of (o := [some (.long p1), none]) (by decide) rfl (Nat.le_of_ble_eq_true rfl) ?_
  rw [f_JLong_bitCount] at h
  refine X.lload_0 (pc := 0) (by decide +kernel) ?_
  refine X.lload_0 (pc := 1) (by decide +kernel) ?_
  refine X.iconst (pc := 2) (i := 1) (v := 1) ic_1 (by decide +kernel) ?_
  refine X.lushr (pc := 3) (by decide +kernel) ?_
  refine X.ldc2 (pc := 4) (x := 314) (v := 6148914691236517205) ld_JLong_314 (by decide +kernel) ?_
  refine X.land (pc := 7) (by decide +kernel) ?_
  refine X.lsub (pc := 8) (by decide +kernel) ?_
  refine X.nameL (fun x1 hx1 => ?_)
  have h := lt_at hx1 h
  refine X.lstore_0 (pc := 9) (by decide +kernel) (by decide) ?_
  refine X.lload_0 (pc := 10) (by decide +kernel) ?_
  refine X.ldc2 (pc := 11) (x := 316) (v := 3689348814741910323) ld_JLong_316 (by decide +kernel) ?_
  refine X.land (pc := 14) (by decide +kernel) ?_
  refine X.lload_0 (pc := 15) (by decide +kernel) ?_
  refine X.iconst (pc := 16) (i := 2) (v := 2) ic_2 (by decide +kernel) ?_
  refine X.lushr (pc := 17) (by decide +kernel) ?_
  refine X.ldc2 (pc := 18) (x := 316) (v := 3689348814741910323) ld_JLong_316 (by decide +kernel) ?_
  refine X.land (pc := 21) (by decide +kernel) ?_
  refine X.ladd (pc := 22) (by decide +kernel) ?_
  refine X.nameL (fun x2 hx2 => ?_)
  have h := lt_at hx2 h
  refine X.lstore_0 (pc := 23) (by decide +kernel) (by decide) ?_
  refine X.lload_0 (pc := 24) (by decide +kernel) ?_
  refine X.lload_0 (pc := 25) (by decide +kernel) ?_
  refine X.iconst (pc := 26) (i := 4) (v := 4) ic_4 (by decide +kernel) ?_
  refine X.lushr (pc := 27) (by decide +kernel) ?_
  refine X.ladd (pc := 28) (by decide +kernel) ?_
  refine X.ldc2 (pc := 29) (x := 318) (v := 1085102592571150095) ld_JLong_318 (by decide +kernel) ?_
  refine X.land (pc := 32) (by decide +kernel) ?_
  refine X.nameL (fun x3 hx3 => ?_)
  have h := lt_at hx3 h
  refine X.lstore_0 (pc := 33) (by decide +kernel) (by decide) ?_
  refine X.lload_0 (pc := 34) (by decide +kernel) ?_
  refine X.lload_0 (pc := 35) (by decide +kernel) ?_
  refine X.bipush (pc := 36) (i := 8) (v := 8) bp_8 (by decide +kernel) ?_
  refine X.lushr (pc := 38) (by decide +kernel) ?_
  refine X.ladd (pc := 39) (by decide +kernel) ?_
  refine X.nameL (fun x4 hx4 => ?_)
  have h := lt_at hx4 h
  refine X.lstore_0 (pc := 40) (by decide +kernel) (by decide) ?_
  refine X.lload_0 (pc := 41) (by decide +kernel) ?_
  refine X.lload_0 (pc := 42) (by decide +kernel) ?_
  refine X.bipush (pc := 43) (i := 16) (v := 16) bp_16 (by decide +kernel) ?_
  refine X.lushr (pc := 45) (by decide +kernel) ?_
  refine X.ladd (pc := 46) (by decide +kernel) ?_
  refine X.nameL (fun x5 hx5 => ?_)
  have h := lt_at hx5 h
  refine X.lstore_0 (pc := 47) (by decide +kernel) (by decide) ?_
  refine X.lload_0 (pc := 48) (by decide +kernel) ?_
  refine X.lload_0 (pc := 49) (by decide +kernel) ?_
  refine X.bipush (pc := 50) (i := 32) (v := 32) bp_32 (by decide +kernel) ?_
  refine X.lushr (pc := 52) (by decide +kernel) ?_
  refine X.ladd (pc := 53) (by decide +kernel) ?_
  refine X.nameL (fun x6 hx6 => ?_)
  have h := lt_at hx6 h
  refine X.lstore_0 (pc := 54) (by decide +kernel) (by decide) ?_
  refine X.lload_0 (pc := 55) (by decide +kernel) ?_
  refine X.l2i (pc := 56) (by decide +kernel) ?_
  refine X.bipush (pc := 57) (i := 127) (v := 127) bp_127 (by decide +kernel) ?_
  refine X.iand (pc := 59) (by decide +kernel) ?_
  refine X.nameI (fun x7 hx7 => ?_)
  have h := lt_at hx7 h
  have j0 := Option.some.inj h
  subst j0
  exact X.ireturn (pc := 60) (by decide +kernel) ⟨_, rfl, rfl⟩ ⟨rfl, rfl, rfl, rfl, rfl, rfl⟩
set_option maxRecDepth 100000 in
noncomputable def f_GWL_tellCells (S : MS) (R : MR) (I : MI) (L : ML) (t : Nat) (p1 : Int64) : Option (Int32 × MI × ML) :=
  bnd1 (R t 1) fun b1 =>
  asrt ((S b1).1 = 4) <|
  bnd1 (f_Numbers_begin S I b1) fun I3 =>
  bnd2 (f_Numbers_add S R I3 L b1 (p1 &&& 262143)) fun I5 L6 =>
  bnd2 (f_Numbers_add S R I5 L6 b1 (lus p1 18)) fun I8 L9 =>
  bnd1 (f_JLong_bitCount p1) fun x11 =>
  some (x11, I8, L9)
set_option maxRecDepth 100000 in
set_option maxHeartbeats 4000000 in
theorem c_GWL_tellCells {E : Env} (hE : OKE E) {tg : Bool} {d : Nat} (hd : 1 ≤ d) {S : MS} {I : MI} {L : ML} {R : MR} {n : Nat} {t : Nat} {p1 : Int64} {v : Int32} {I' : MI} {L' : ML} (hS : (S t).1 = 11) (h : f_GWL_tellCells S R I L t p1 = some (v, I', L')) : C E y_GWL_tellCells b_GWL_tellCells 5 (some .int) tg d 0 0 [.ref (e_b E + t), .long p1] S I L R n (Kq (some (.int v)) S I' L' R n) := by
  refine C.of (o := [some (.ref (e_b E + t)), some (.long p1), none, none, none]) (by decide) rfl (Nat.le_of_ble_eq_true rfl) ?_
  rw [f_GWL_tellCells] at h
  refine X.ldc2 (pc := 0) (x := 418) (v := 262143) ld_GWL_418 (by decide +kernel) ?_
  refine X.lstore_3 (pc := 3) (by decide +kernel) (by decide) rfl ?_
  refine X.aload_0 (pc := 4) (by decide +kernel) ?_
  obtain ⟨b1, hb1, h⟩ := bnd1_some h
  refine X.getR (pc := 5) (k := 1) fw_GWL_19 (by decide +kernel) (fun _ => rfl) hS hb1 ?_
  obtain ⟨hc2, h⟩ := asrt_some h
  obtain ⟨I3, hv4, h⟩ := bnd1_some h
  refine X.callVv (pc := 8) (nc := 0) (ns := 0) (c_Numbers_begin hE (dle hd (Nat.le_of_ble_eq_true rfl)) hc2 hv4) cv_GWL_207 (by decide +kernel) hc2 ⟨by decide, rfl⟩ (ddd hd (Nat.le_of_ble_eq_true rfl)) rfl (Nat.le_of_ble_eq_true rfl) rfl rfl ?_
  refine X.aload_0 (pc := 11) (by decide +kernel) ?_
  refine X.getR (pc := 12) (k := 1) fw_GWL_19 (by decide +kernel) (fun _ => rfl) hS hb1 ?_
  refine X.lload_1 (pc := 15) (by decide +kernel) ?_
  refine X.lload_3 (pc := 16) (by decide +kernel) ?_
  refine X.land (pc := 17) (by decide +kernel) ?_
  obtain ⟨I5, L6, hv7, h⟩ := bnd2_some h
  refine X.callVv (pc := 18) (nc := 0) (ns := 0) (c_Numbers_add hE (dle hd (Nat.le_of_ble_eq_true rfl)) hc2 hv7) cv_GWL_209 (by decide +kernel) hc2 ⟨by decide, rfl⟩ (ddd hd (Nat.le_of_ble_eq_true rfl)) rfl (Nat.le_of_ble_eq_true rfl) rfl rfl ?_
  refine X.aload_0 (pc := 21) (by decide +kernel) ?_
  refine X.getR (pc := 22) (k := 1) fw_GWL_19 (by decide +kernel) (fun _ => rfl) hS hb1 ?_
  refine X.lload_1 (pc := 25) (by decide +kernel) ?_
  refine X.bipush (pc := 26) (i := 18) (v := 18) bp_18 (by decide +kernel) ?_
  refine X.lushr (pc := 28) (by decide +kernel) ?_
  obtain ⟨I8, L9, hv10, h⟩ := bnd2_some h
  refine X.callVv (pc := 29) (nc := 0) (ns := 0) (c_Numbers_add hE (dle hd (Nat.le_of_ble_eq_true rfl)) hc2 hv10) cv_GWL_209 (by decide +kernel) hc2 ⟨by decide, rfl⟩ (ddd hd (Nat.le_of_ble_eq_true rfl)) rfl (Nat.le_of_ble_eq_true rfl) rfl rfl ?_
  refine X.lload_1 (pc := 32) (by decide +kernel) ?_
  obtain ⟨x11, hv12, h⟩ := bnd1_some h
  refine X.callSi (pc := 33) (nc := 0) (ns := 0) (c_JLong_bitCount hE (dle hd (Nat.le_of_ble_eq_true rfl)) hv12) cv_GWL_420 (by decide +kernel) (ddd hd (Nat.le_of_ble_eq_true rfl)) rfl (Nat.le_of_ble_eq_true rfl) rfl rfl ?_
  have j0 := Option.some.inj h
  obtain ⟨i0, j1⟩ := Prod.mk.inj j0
  obtain ⟨i1, j2⟩ := Prod.mk.inj j1
  subst i0
  subst i1
  subst j2
  exact X.ireturn (pc := 36) (by decide +kernel) ⟨_, rfl, rfl⟩ ⟨rfl, rfl, rfl, rfl, rfl, rfl⟩
set_option maxRecDepth 100000 in
noncomputable def f_GWL_reach (g : Nat) (S : MS) (R : MR) (I : MI) (L : ML) (t : Nat) : Option (Int32 × MI × ML) :=
  bnd1 (R t 15) fun b1 =>
  bnd1 (R t 2) fun b2 =>
  bnd1 (R t 3) fun b3 =>
  asrt ((S b3).1 = 5) <|
  bnd1 (f_Party_stance S I b3) fun x5 =>
  asrt ((S b1).1 = 9) <|
  bnd1 (f_Spread_from g S R I b1 b2 x5 144 7) fun I8 =>
  bnd1 (f_Spread_cells g S R I8 b1) fun x10 =>
  bnd3 (f_GWL_tellCells S R I8 L t x10) fun x12 I13 L14 =>
  some (x12, I13, L14)
set_option maxRecDepth 100000 in
set_option maxHeartbeats 4000000 in
theorem c_GWL_reach {E : Env} (hE : OKE E) {tg : Bool} {d : Nat} (hd : 3 ≤ d) {g : Nat} {S : MS} {I : MI} {L : ML} {R : MR} {n : Nat} {t : Nat} {v : Int32} {I' : MI} {L' : ML} (hS : (S t).1 = 11) (h : f_GWL_reach g S R I L t = some (v, I', L')) : C E y_GWL_reach b_GWL_reach 1 (some .int) tg d 0 0 [.ref (e_b E + t)] S I L R n (Kq (some (.int v)) S I' L' R n) := by
  refine C.of (o := [some (.ref (e_b E + t))]) (by decide) rfl (Nat.le_of_ble_eq_true rfl) ?_
  rw [f_GWL_reach] at h
  refine X.aload_0 (pc := 0) (by decide +kernel) ?_
  obtain ⟨b1, hb1, h⟩ := bnd1_some h
  refine X.getR (pc := 1) (k := 15) fw_GWL_68 (by decide +kernel) (fun _ => rfl) hS hb1 ?_
  refine X.aload_0 (pc := 4) (by decide +kernel) ?_
  obtain ⟨b2, hb2, h⟩ := bnd1_some h
  refine X.getR (pc := 5) (k := 2) fw_GWL_83 (by decide +kernel) (fun _ => rfl) hS hb2 ?_
  refine X.aload_0 (pc := 8) (by decide +kernel) ?_
  obtain ⟨b3, hb3, h⟩ := bnd1_some h
  refine X.getR (pc := 9) (k := 3) fw_GWL_87 (by decide +kernel) (fun _ => rfl) hS hb3 ?_
  obtain ⟨hc4, h⟩ := asrt_some h
  obtain ⟨x5, hv6, h⟩ := bnd1_some h
  refine X.callVi (pc := 12) (nc := 0) (ns := 0) (c_Party_stance hE (dle hd (Nat.le_of_ble_eq_true rfl)) hc4 hv6) cv_GWL_228 (by decide +kernel) hc4 ⟨by decide, rfl⟩ (ddd hd (Nat.le_of_ble_eq_true rfl)) rfl (Nat.le_of_ble_eq_true rfl) rfl rfl ?_
  refine X.sipush (pc := 15) (i := 144) (v := 144) sp_144 (by decide +kernel) ?_
  refine X.bipush (pc := 18) (i := 7) (v := 7) bp_7 (by decide +kernel) ?_
  obtain ⟨hc7, h⟩ := asrt_some h
  obtain ⟨I8, hv9, h⟩ := bnd1_some h
  refine X.callVv (pc := 20) (nc := 0) (ns := 0) (c_Spread_from hE (dle hd (Nat.le_of_ble_eq_true rfl)) hc7 hv9) cv_GWL_259 (by decide +kernel) hc7 ⟨by decide, rfl⟩ (ddd hd (Nat.le_of_ble_eq_true rfl)) rfl (Nat.le_of_ble_eq_true rfl) rfl rfl ?_
  refine X.aload_0 (pc := 23) (by decide +kernel) ?_
  refine X.aload_0 (pc := 24) (by decide +kernel) ?_
  refine X.getR (pc := 25) (k := 15) fw_GWL_68 (by decide +kernel) (fun _ => rfl) hS hb1 ?_
  obtain ⟨x10, hv11, h⟩ := bnd1_some h
  refine X.callVl (pc := 28) (nc := 0) (ns := 0) (c_Spread_cells hE (dle hd (Nat.le_of_ble_eq_true rfl)) hc7 hv11) cv_GWL_263 (by decide +kernel) hc7 ⟨by decide, rfl⟩ (ddd hd (Nat.le_of_ble_eq_true rfl)) rfl (Nat.le_of_ble_eq_true rfl) rfl rfl ?_
  obtain ⟨x12, I13, L14, hv15, h⟩ := bnd3_some h
  refine X.callVi (pc := 31) (nc := 0) (ns := 0) (c_GWL_tellCells hE (dle hd (Nat.le_of_ble_eq_true rfl)) hS hv15) cv_GWL_267 (by decide +kernel) hS ⟨by decide, rfl⟩ (ddd hd (Nat.le_of_ble_eq_true rfl)) rfl (Nat.le_of_ble_eq_true rfl) rfl rfl ?_
  have j0 := Option.some.inj h
  obtain ⟨i0, j1⟩ := Prod.mk.inj j0
  obtain ⟨i1, j2⟩ := Prod.mk.inj j1
  subst i0
  subst i1
  subst j2
  exact X.ireturn (pc := 34) (by decide +kernel) ⟨_, rfl, rfl⟩ ⟨rfl, rfl, rfl, rfl, rfl, rfl⟩
set_option maxRecDepth 100000 in
noncomputable def f_GWL_isLength (p1 : Int32) (p2 : Int32) : Option Int32 :=
  bnd1 (ifb (p1 < 0)
      (some 0)
      (ifb (p2 < p1)
        (some 0)
        (some 1))) fun (y2 : Int32) =>
  asrt (y2 = 0 ∨ y2 = 1) <|
  some y2
set_option maxRecDepth 100000 in
set_option maxHeartbeats 4000000 in
theorem c_GWL_isLength {E : Env} (hE : OKE E) {tg : Bool} {d : Nat} (hd : 0 ≤ d) {S : MS} {I : MI} {L : ML} {R : MR} {n : Nat} {p1 : Int32} {p2 : Int32} {v : Int32} (h : f_GWL_isLength p1 p2 = some v) : C E y_GWL_isLength b_GWL_isLength 2 (some .boolean) tg d 0 0 [.int p1, .int p2] S I L R n (Kq (some (.int v)) S I L R n) := by
  refine C.of (o := [some (.int p1), some (.int p2)]) (by decide) rfl (Nat.le_of_ble_eq_true rfl) ?_
  rw [f_GWL_isLength] at h
  refine X.iload_0 (pc := 0) (by decide +kernel) ?_
  obtain ⟨y2, hr3, h⟩ := bnd1_some h
  have hj4 : X E y_GWL_isLength b_GWL_isLength 2 (some .boolean) tg d 0 0 14 [none, none] [.int y2] S I L R n (Kq (some (.int v)) S I L R n) := by
    obtain ⟨hb6, h⟩ := asrt_some h
    have j0 := Option.some.inj h
    subst j0
    exact X.ireturn (pc := 14) (by decide +kernel) ⟨_, rfl, nz01 hb6⟩ ⟨rfl, rfl, rfl, rfl, rfl, rfl⟩
  have h := hr3
  rcases ifb_some h with ⟨hq1, h⟩ | ⟨hq1, h⟩
  · refine X.if_lt_t (pc := 1) (off := 12) (tgt := 13) hq1 rfl (by decide +kernel) ?_
    refine X.iconst (pc := 13) (i := 0) (v := 0) ic_0 (by decide +kernel) ?_
    have j0 := Option.some.inj h
    subst j0
    refine X.fgt (o' := [none, none]) trivial ?_
    exact hj4
  · refine X.if_lt_f (pc := 1) (off := 12) (tgt := 13) hq1 rfl (by decide +kernel) ?_
    refine X.iload_0 (pc := 4) (by decide +kernel) ?_
    refine X.iload_1 (pc := 5) (by decide +kernel) ?_
    rcases ifb_some h with ⟨hq5, h⟩ | ⟨hq5, h⟩
    · refine X.icmp_gt_t (pc := 6) (off := 7) (tgt := 13) hq5 rfl (by decide +kernel) ?_
      refine X.iconst (pc := 13) (i := 0) (v := 0) ic_0 (by decide +kernel) ?_
      have j0 := Option.some.inj h
      subst j0
      refine X.fgt (o' := [none, none]) trivial ?_
      exact hj4
    · refine X.icmp_gt_f (pc := 6) (off := 7) (tgt := 13) hq5 rfl (by decide +kernel) ?_
      refine X.iconst (pc := 9) (i := 1) (v := 1) ic_1 (by decide +kernel) ?_
      refine X.goto (pc := 10) (off := 4) (tgt := 14) (by decide +kernel) rfl ?_
      have j0 := Option.some.inj h
      subst j0
      refine X.fgt (o' := [none, none]) trivial ?_
      exact hj4
set_option maxRecDepth 100000 in
noncomputable def f_Guide_swapLayers (S : MS) (R : MR) (t : Nat) : Option MR :=
  bnd1 (R t 3) fun b1 =>
  bnd1 (R t 4) fun b2 =>
  lt (wR R t 3 (some b2)) fun (R3 : MR) =>
  lt (wR R3 t 4 (some b1)) fun (R4 : MR) =>
  bnd1 (R4 t 5) fun b5 =>
  bnd1 (R4 t 6) fun b6 =>
  lt (wR R4 t 5 (some b6)) fun (R7 : MR) =>
  lt (wR R7 t 6 (some b5)) fun (R8 : MR) =>
  some R8
set_option maxRecDepth 100000 in
set_option maxHeartbeats 4000000 in
theorem c_Guide_swapLayers {E : Env} (hE : OKE E) {tg : Bool} {d : Nat} (hd : 0 ≤ d) {S : MS} {I : MI} {L : ML} {R : MR} {n : Nat} {t : Nat} {R' : MR} (hS : (S t).1 = 1) (h : f_Guide_swapLayers S R t = some R') : C E y_Guide_swapLayers b_Guide_swapLayers 2 none tg d 0 0 [.ref (e_b E + t)] S I L R n (Kq none S I L R' n) := by
  refine C.of (o := [some (.ref (e_b E + t)), none]) (by decide) rfl (Nat.le_of_ble_eq_true rfl) ?_
  rw [f_Guide_swapLayers] at h
  refine X.aload_0 (pc := 0) (by decide +kernel) ?_
  obtain ⟨b1, hb1, h⟩ := bnd1_some h
  refine X.getR (pc := 1) (k := 3) fw_Guide_18 (by decide +kernel) (fun _ => rfl) hS hb1 ?_
  refine X.astore_1 (pc := 4) (by decide +kernel) (by decide) rfl ?_
  refine X.aload_0 (pc := 5) (by decide +kernel) ?_
  refine X.aload_0 (pc := 6) (by decide +kernel) ?_
  obtain ⟨b2, hb2, h⟩ := bnd1_some h
  refine X.getR (pc := 7) (k := 4) fw_Guide_22 (by decide +kernel) (fun _ => rfl) hS hb2 ?_
  refine X.putR (pc := 10) (k := 3) fw_Guide_18 (by decide +kernel) (Or.inr ⟨_, rfl⟩) hS (Or.inl rfl) ?_
  refine X.nameMR (fun R3 hR3 => ?_)
  have h := lt_at hR3 h
  refine X.aload_0 (pc := 13) (by decide +kernel) ?_
  refine X.aload_1 (pc := 14) (by decide +kernel) ?_
  refine X.putR (pc := 15) (k := 4) fw_Guide_22 (by decide +kernel) (Or.inr ⟨_, rfl⟩) hS (Or.inl rfl) ?_
  refine X.nameMR (fun R4 hR4 => ?_)
  have h := lt_at hR4 h
  refine X.aload_0 (pc := 18) (by decide +kernel) ?_
  obtain ⟨b5, hb5, h⟩ := bnd1_some h
  refine X.getR (pc := 19) (k := 5) fw_Guide_25 (by decide +kernel) (fun _ => rfl) hS hb5 ?_
  refine X.astore_1 (pc := 22) (by decide +kernel) (by decide) rfl ?_
  refine X.aload_0 (pc := 23) (by decide +kernel) ?_
  refine X.aload_0 (pc := 24) (by decide +kernel) ?_
  obtain ⟨b6, hb6, h⟩ := bnd1_some h
  refine X.getR (pc := 25) (k := 6) fw_Guide_28 (by decide +kernel) (fun _ => rfl) hS hb6 ?_
  refine X.putR (pc := 28) (k := 5) fw_Guide_25 (by decide +kernel) (Or.inr ⟨_, rfl⟩) hS (Or.inl rfl) ?_
  refine X.nameMR (fun R7 hR7 => ?_)
  have h := lt_at hR7 h
  refine X.aload_0 (pc := 31) (by decide +kernel) ?_
  refine X.aload_1 (pc := 32) (by decide +kernel) ?_
  refine X.putR (pc := 33) (k := 6) fw_Guide_28 (by decide +kernel) (Or.inr ⟨_, rfl⟩) hS (Or.inl rfl) ?_
  refine X.nameMR (fun R8 hR8 => ?_)
  have h := lt_at hR8 h
  have j0 := Option.some.inj h
  subst j0
  exact X.vreturn (pc := 36) (by decide +kernel) rfl ⟨rfl, rfl, rfl, rfl, rfl, rfl⟩
set_option maxRecDepth 100000 in
noncomputable def f_JMath_min (p1 : Int32) (p2 : Int32) : Option Int32 :=
  bnd1 (ifb (p2 < p1)
      (some p2)
      (some p1)) fun (y2 : Int32) =>
  some y2
set_option maxRecDepth 100000 in
set_option maxHeartbeats 4000000 in
theorem c_JMath_min {E : Env} (hE : OKE E) {tg : Bool} {d : Nat} (hd : 0 ≤ d) {S : MS} {I : MI} {L : ML} {R : MR} {n : Nat} {p1 : Int32} {p2 : Int32} {v : Int32} (h : f_JMath_min p1 p2 = some v) : C E y_JMath_min b_JMath_min 2 (some .int) tg d 0 0 [.int p1, .int p2] S I L R n (Kq (some (.int v)) S I L R n) := by
  refine C.ofF (o := [some (.int p1), some (.int p2)]) (by decide +kernel) rfl (Nat.le_of_ble_eq_true rfl) ?_
  rw [f_JMath_min] at h
  refine X.iload_0 (pc := 0) (by decide +kernel) ?_
  refine X.iload_1 (pc := 1) (by decide +kernel) ?_
  obtain ⟨y2, hr3, h⟩ := bnd1_some h
  have hj4 : X E y_JMath_min b_JMath_min 2 (some .int) tg d 0 0 10 [none, none] [.int y2] S I L R n (Kq (some (.int v)) S I L R n) := by
    have j0 := Option.some.inj h
    subst j0
    exact X.ireturn (pc := 10) (by decide +kernel) ⟨_, rfl, rfl⟩ ⟨rfl, rfl, rfl, rfl, rfl, rfl⟩
  have h := hr3
  rcases ifb_some h with ⟨hq1, h⟩ | ⟨hq1, h⟩
  · refine X.icmp_gt_t (pc := 2) (off := 7) (tgt := 9) hq1 rfl (by decide +kernel) ?_
    refine X.iload_1 (pc := 9) (by decide +kernel) ?_
    have j0 := Option.some.inj h
    subst j0
    refine X.fgt (o' := [none, none]) trivial ?_
    exact hj4
  · refine X.icmp_gt_f (pc := 2) (off := 7) (tgt := 9) hq1 rfl (by decide +kernel) ?_
    refine X.iload_0 (pc := 5) (by decide +kernel) ?_
    refine X.goto (pc := 6) (off := 4) (tgt := 10) (by decide +kernel) rfl ?_
    have j0 := Option.some.inj h
    subst j0
    refine X.fgt (o' := [none, none]) trivial ?_
    exact hj4
set_option maxRecDepth 100000 in
noncomputable def l_Spread_within_4 (S : MS) (R : MR) (I : MI) (v0 : Nat) (v1 : Int32) : Nat → Int32 → Int32 → Option Int32
  | 0, _, _ => none
  | f + 1, v2, v3 =>
    ifb ((I v0 2) ≤ v3)
      (some v2)
      (ifb (144 ≤ v3)
        (some v2)
        (bnd1 (R v0 0) fun b3 =>
        asrt ((S b3).1 = 20) <|
        asrt (vp_in v3 (S b3).2) <|
        bnd1 (f_Spread_depthOf S R I v0 (I b3 (Int32.toNatClampNeg v3))) fun x6 =>
        bnd1 (ifb (v1 < x6)
            (some 0)
            (some 1)) fun (y9 : Int32) =>
        lt (v2 + y9) fun (x12 : Int32) =>
        l_Spread_within_4 S R I v0 v1 f x12 (v3 + 1)))
set_option maxRecDepth 100000 in
set_option maxHeartbeats 4000000 in
theorem xl_Spread_within_4 {E : Env} (hE : OKE E) {tg : Bool} {d : Nat} (hd : 1 ≤ d) {S : MS} {I : MI} {L : ML} {R : MR} {n : Nat} {v0 : Nat} {v1 : Int32} {K : KT} :
    ∀ {f : Nat}  {v2 : Int32} {v3 : Int32} {o2 : Int32}, (S v0).1 = 9 → l_Spread_within_4 S R I v0 v1 f v2 v3 = some o2 → X E y_Spread_within b_Spread_within 4 (some .int) tg d 0 0 47 [none, none, some (.int o2), none] [] S I L R n K → X E y_Spread_within b_Spread_within 4 (some .int) tg d 0 0 4 [some (.ref (e_b E + v0)), some (.int v1), some (.int v2), some (.int v3)] [] S I L R n K := by
  intro f
  induction f with
  | zero =>
    intro v2 v3 o2 hS h hk
    rw [l_Spread_within_4] at h
    cases h
  | succ f ih =>
    intro v2 v3 o2 hS h hk
    rw [l_Spread_within_4] at h
    refine X.iload_3 (pc := 4) (by decide +kernel) ?_
    refine X.aload_0 (pc := 5) (by decide +kernel) ?_
    refine X.getI (pc := 6) (k := 2) fw_Spread_24 (by decide +kernel) (fun _ => rfl) hS ?_
    rcases ifb_some h with ⟨hq1, h⟩ | ⟨hq1, h⟩
    · refine X.icmp_ge_t (pc := 9) (off := 38) (tgt := 47) hq1 rfl (by decide +kernel) ?_
      have j0 := Option.some.inj h
      subst j0
      refine X.fgt (o' := [none, none, some (.int v2), none]) ⟨rfl, trivial⟩ ?_
      exact hk
    · refine X.icmp_ge_f (pc := 9) (off := 38) (tgt := 47) hq1 rfl (by decide +kernel) ?_
      refine X.iload_3 (pc := 12) (by decide +kernel) ?_
      refine X.sipush (pc := 13) (i := 144) (v := 144) sp_144 (by decide +kernel) ?_
      rcases ifb_some h with ⟨hq2, h⟩ | ⟨hq2, h⟩
      · refine X.icmp_ge_t (pc := 16) (off := 31) (tgt := 47) hq2 rfl (by decide +kernel) ?_
        have j0 := Option.some.inj h
        subst j0
        refine X.fgt (o' := [none, none, some (.int v2), none]) ⟨rfl, trivial⟩ ?_
        exact hk
      · refine X.icmp_ge_f (pc := 16) (off := 31) (tgt := 47) hq2 rfl (by decide +kernel) ?_
        refine X.iload_2 (pc := 19) (by decide +kernel) ?_
        refine X.aload_0 (pc := 20) (by decide +kernel) ?_
        refine X.aload_0 (pc := 21) (by decide +kernel) ?_
        obtain ⟨b3, hb3, h⟩ := bnd1_some h
        refine X.getR (pc := 22) (k := 0) fw_Spread_9 (by decide +kernel) (fun _ => rfl) hS hb3 ?_
        refine X.iload_3 (pc := 25) (by decide +kernel) ?_
        obtain ⟨hc5, h⟩ := asrt_some h
        obtain ⟨hi4, h⟩ := asrt_some h
        refine X.iaload (pc := 26) (by decide +kernel) hc5 hi4 ?_
        obtain ⟨x6, hv7, h⟩ := bnd1_some h
        refine X.callVi (pc := 27) (nc := 0) (ns := 0) (c_Spread_depthOf hE (dle hd (Nat.le_of_ble_eq_true rfl)) hS hv7) cv_Spread_32 (by decide +kernel) hS ⟨by decide, rfl⟩ (ddd hd (Nat.le_of_ble_eq_true rfl)) rfl (Nat.le_of_ble_eq_true rfl) rfl rfl ?_
        refine X.iload_1 (pc := 30) (by decide +kernel) ?_
        obtain ⟨y9, hr10, h⟩ := bnd1_some h
        have hj11 : X E y_Spread_within b_Spread_within 4 (some .int) tg d 0 0 39 [some (.ref (e_b E + v0)), some (.int v1), none, some (.int v3)] [.int y9, .int v2] S I L R n K := by
          refine X.iadd (pc := 39) (by decide +kernel) ?_
          refine X.nameI (fun x12 hx12 => ?_)
          have h := lt_at hx12 h
          refine X.istore_2 (pc := 40) (by decide +kernel) (by decide) rfl ?_
          refine X.iinc_3 (pc := 41) (z := 1) (v := 1) ic_1 (by decide +kernel) (by decide) rfl ?_
          refine X.goto (pc := 44) (off := (-40)) (tgt := 4) (by decide +kernel) rfl ?_
          exact ih hS h hk
        have h := hr10
        rcases ifb_some h with ⟨hq8, h⟩ | ⟨hq8, h⟩
        · refine X.icmp_gt_t (pc := 31) (off := 7) (tgt := 38) hq8 rfl (by decide +kernel) ?_
          refine X.iconst (pc := 38) (i := 0) (v := 0) ic_0 (by decide +kernel) ?_
          have j0 := Option.some.inj h
          subst j0
          refine X.fgt (o' := [some (.ref (e_b E + v0)), some (.int v1), none, some (.int v3)]) ⟨rfl, ⟨rfl, ⟨rfl, trivial⟩⟩⟩ ?_
          exact hj11
        · refine X.icmp_gt_f (pc := 31) (off := 7) (tgt := 38) hq8 rfl (by decide +kernel) ?_
          refine X.iconst (pc := 34) (i := 1) (v := 1) ic_1 (by decide +kernel) ?_
          refine X.goto (pc := 35) (off := 4) (tgt := 39) (by decide +kernel) rfl ?_
          have j0 := Option.some.inj h
          subst j0
          refine X.fgt (o' := [some (.ref (e_b E + v0)), some (.int v1), none, some (.int v3)]) ⟨rfl, ⟨rfl, ⟨rfl, trivial⟩⟩⟩ ?_
          exact hj11
set_option maxRecDepth 100000 in
noncomputable def f_Spread_within (g : Nat) (S : MS) (R : MR) (I : MI) (t : Nat) (p1 : Int32) : Option Int32 :=
  bnd1 (l_Spread_within_4 S R I t p1 g 0 0) fun x13 =>
  some x13
set_option maxRecDepth 100000 in
set_option maxHeartbeats 4000000 in
theorem c_Spread_within {E : Env} (hE : OKE E) {tg : Bool} {d : Nat} (hd : 1 ≤ d) {g : Nat} {S : MS} {I : MI} {L : ML} {R : MR} {n : Nat} {t : Nat} {p1 : Int32} {v : Int32} (hS : (S t).1 = 9) (h : f_Spread_within g S R I t p1 = some v) : C E y_Spread_within b_Spread_within 4 (some .int) tg d 0 0 [.ref (e_b E + t), .int p1] S I L R n (Kq (some (.int v)) S I L R n) := by
  refine C.of (o := [some (.ref (e_b E + t)), some (.int p1), none, none]) (by decide) rfl (Nat.le_of_ble_eq_true rfl) ?_
  rw [f_Spread_within] at h
  refine X.iconst (pc := 0) (i := 0) (v := 0) ic_0 (by decide +kernel) ?_
  refine X.istore_2 (pc := 1) (by decide +kernel) (by decide) rfl ?_
  refine X.iconst (pc := 2) (i := 0) (v := 0) ic_0 (by decide +kernel) ?_
  refine X.istore_3 (pc := 3) (by decide +kernel) (by decide) rfl ?_
  obtain ⟨x13, hv14, h⟩ := bnd1_some h
  refine xl_Spread_within_4 hE hd hS hv14 ?_
  refine X.iload_2 (pc := 47) (by decide +kernel) ?_
  have j0 := Option.some.inj h
  subst j0
  exact X.ireturn (pc := 48) (by decide +kernel) ⟨_, rfl, rfl⟩ ⟨rfl, rfl, rfl, rfl, rfl, rfl⟩
set_option maxRecDepth 100000 in
noncomputable def f_Spread_stanceAt (S : MS) (R : MR) (I : MI) (t : Nat) (p1 : Int32) : Option Int32 :=
  bnd1 (ifb (p1 < 0)
      (some 0)
      (ifb (144 ≤ p1)
        (some 0)
        (bnd1 (R t 0) fun b6 =>
        asrt ((S b6).1 = 20) <|
        asrt (vp_in p1 (S b6).2) <|
        some (I b6 (Int32.toNatClampNeg p1))))) fun (y2 : Int32) =>
  some y2
set_option maxRecDepth 100000 in
set_option maxHeartbeats 4000000 in
theorem c_Spread_stanceAt {E : Env} (hE : OKE E) {tg : Bool} {d : Nat} (hd : 0 ≤ d) {S : MS} {I : MI} {L : ML} {R : MR} {n : Nat} {t : Nat} {p1 : Int32} {v : Int32} (hS : (S t).1 = 9) (h : f_Spread_stanceAt S R I t p1 = some v) : C E y_Spread_stanceAt b_Spread_stanceAt 2 (some .int) tg d 0 0 [.ref (e_b E + t), .int p1] S I L R n (Kq (some (.int v)) S I L R n) := by
  refine C.of (o := [some (.ref (e_b E + t)), some (.int p1)]) (by decide) rfl (Nat.le_of_ble_eq_true rfl) ?_
  rw [f_Spread_stanceAt] at h
  refine X.iload_1 (pc := 0) (by decide +kernel) ?_
  obtain ⟨y2, hr3, h⟩ := bnd1_some h
  have hj4 : X E y_Spread_stanceAt b_Spread_stanceAt 2 (some .int) tg d 0 0 21 [none, none] [.int y2] S I L R n (Kq (some (.int v)) S I L R n) := by
    have j0 := Option.some.inj h
    subst j0
    exact X.ireturn (pc := 21) (by decide +kernel) ⟨_, rfl, rfl⟩ ⟨rfl, rfl, rfl, rfl, rfl, rfl⟩
  have h := hr3
  rcases ifb_some h with ⟨hq1, h⟩ | ⟨hq1, h⟩
  · refine X.if_lt_t (pc := 1) (off := 19) (tgt := 20) hq1 rfl (by decide +kernel) ?_
    refine X.iconst (pc := 20) (i := 0) (v := 0) ic_0 (by decide +kernel) ?_
    have j0 := Option.some.inj h
    subst j0
    refine X.fgt (o' := [none, none]) trivial ?_
    exact hj4
  · refine X.if_lt_f (pc := 1) (off := 19) (tgt := 20) hq1 rfl (by decide +kernel) ?_
    refine X.iload_1 (pc := 4) (by decide +kernel) ?_
    refine X.sipush (pc := 5) (i := 144) (v := 144) sp_144 (by decide +kernel) ?_
    rcases ifb_some h with ⟨hq5, h⟩ | ⟨hq5, h⟩
    · refine X.icmp_ge_t (pc := 8) (off := 12) (tgt := 20) hq5 rfl (by decide +kernel) ?_
      refine X.iconst (pc := 20) (i := 0) (v := 0) ic_0 (by decide +kernel) ?_
      have j0 := Option.some.inj h
      subst j0
      refine X.fgt (o' := [none, none]) trivial ?_
      exact hj4
    · refine X.icmp_ge_f (pc := 8) (off := 12) (tgt := 20) hq5 rfl (by decide +kernel) ?_
      refine X.aload_0 (pc := 11) (by decide +kernel) ?_
      obtain ⟨b6, hb6, h⟩ := bnd1_some h
      refine X.getR (pc := 12) (k := 0) fw_Spread_9 (by decide +kernel) (fun _ => rfl) hS hb6 ?_
      refine X.iload_1 (pc := 15) (by decide +kernel) ?_
      obtain ⟨hc8, h⟩ := asrt_some h
      obtain ⟨hi7, h⟩ := asrt_some h
      refine X.iaload (pc := 16) (by decide +kernel) hc8 hi7 ?_
      refine X.goto (pc := 17) (off := 4) (tgt := 21) (by decide +kernel) rfl ?_
      have j0 := Option.some.inj h
      subst j0
      refine X.fgt (o' := [none, none]) trivial ?_
      exact hj4
set_option maxRecDepth 100000 in
noncomputable def f_GWL_hundreds (p1 : Int32) : Option Int64 :=
  bnd1 (ifb (p1 < 0)
      (some 1)
      (ifb (9 ≤ p1)
        (some 1)
        (asrt (vp_in p1 9) <|
        some (hund (Int32.toNatClampNeg p1))))) fun (y2 : Int64) =>
  some y2
set_option maxRecDepth 100000 in
set_option maxHeartbeats 4000000 in
theorem c_GWL_hundreds {E : Env} (hE : OKE E) {tg : Bool} {d : Nat} (hd : 0 ≤ d) {S : MS} {I : MI} {L : ML} {R : MR} {n : Nat} {p1 : Int32} {v : Int64} (h : f_GWL_hundreds p1 = some v) : C E y_GWL_hundreds b_GWL_hundreds 1 (some .long) tg d 0 0 [.int p1] S I L R n (Kq (some (.long v)) S I L R n) := by
  refine C.of (o := [some (.int p1)]) (by decide) rfl (Nat.le_of_ble_eq_true rfl) ?_
  rw [f_GWL_hundreds] at h
  refine X.iload_0 (pc := 0) (by decide +kernel) ?_
  obtain ⟨y2, hr3, h⟩ := bnd1_some h
  have hj4 : X E y_GWL_hundreds b_GWL_hundreds 1 (some .long) tg d 0 0 21 [none] [.long y2] S I L R n (Kq (some (.long v)) S I L R n) := by
    have j0 := Option.some.inj h
    subst j0
    exact X.lreturn (pc := 21) (by decide +kernel) rfl ⟨rfl, rfl, rfl, rfl, rfl, rfl⟩
  have h := hr3
  rcases ifb_some h with ⟨hq1, h⟩ | ⟨hq1, h⟩
  · refine X.if_lt_t (pc := 1) (off := 19) (tgt := 20) hq1 rfl (by decide +kernel) ?_
    refine X.lconst (pc := 20) (i := 1) (v := 1) rfl (by decide +kernel) ?_
    have j0 := Option.some.inj h
    subst j0
    refine X.fgt (o' := [none]) trivial ?_
    exact hj4
  · refine X.if_lt_f (pc := 1) (off := 19) (tgt := 20) hq1 rfl (by decide +kernel) ?_
    refine X.iload_0 (pc := 4) (by decide +kernel) ?_
    refine X.getsH (pc := 5) hE (by decide +kernel) gh_GWL_409 ?_
    refine X.alenH (pc := 8) hE (by decide +kernel) ?_
    rcases ifb_some h with ⟨hq5, h⟩ | ⟨hq5, h⟩
    · refine X.icmp_ge_t (pc := 9) (off := 11) (tgt := 20) hq5 rfl (by decide +kernel) ?_
      refine X.lconst (pc := 20) (i := 1) (v := 1) rfl (by decide +kernel) ?_
      have j0 := Option.some.inj h
      subst j0
      refine X.fgt (o' := [none]) trivial ?_
      exact hj4
    · refine X.icmp_ge_f (pc := 9) (off := 11) (tgt := 20) hq5 rfl (by decide +kernel) ?_
      refine X.getsH (pc := 12) hE (by decide +kernel) gh_GWL_409 ?_
      refine X.iload_0 (pc := 15) (by decide +kernel) ?_
      obtain ⟨hi6, h⟩ := asrt_some h
      refine X.laldH (pc := 16) hE (by decide +kernel) hi6 ?_
      refine X.goto (pc := 17) (off := 4) (tgt := 21) (by decide +kernel) rfl ?_
      have j0 := Option.some.inj h
      subst j0
      refine X.fgt (o' := [none]) trivial ?_
      exact hj4
set_option maxRecDepth 100000 in
noncomputable def f_Fee_endsWith (S : MS) (I : MI) (t : Nat) (p1 : Int32) (p2 : Int32) : Option Int32 :=
  bnd1 (ifb (p1 = 3)
      (some (I t 1))
      (some 0)) fun (y2 : Int32) =>
  bnd1 (ifb (p1 = 1)
      (some (I t 2))
      (some 0)) fun (y6 : Int32) =>
  bnd1 (ifb (p2 = (I t 5))
      (some 1)
      (some 0)) fun (y10 : Int32) =>
  lt ((((I t 0) + y2) + y6) + y10) fun (x13 : Int32) =>
  some x13
set_option maxRecDepth 100000 in
set_option maxHeartbeats 4000000 in
theorem c_Fee_endsWith {E : Env} (hE : OKE E) {tg : Bool} {d : Nat} (hd : 0 ≤ d) {S : MS} {I : MI} {L : ML} {R : MR} {n : Nat} {t : Nat} {p1 : Int32} {p2 : Int32} {v : Int32} (hS : (S t).1 = 0) (h : f_Fee_endsWith S I t p1 p2 = some v) : C E y_Fee_endsWith b_Fee_endsWith 3 (some .int) tg d 0 0 [.ref (e_b E + t), .int p1, .int p2] S I L R n (Kq (some (.int v)) S I L R n) := by
  refine C.of (o := [some (.ref (e_b E + t)), some (.int p1), some (.int p2)]) (by decide) rfl (Nat.le_of_ble_eq_true rfl) ?_
  rw [f_Fee_endsWith] at h
  refine X.aload_0 (pc := 0) (by decide +kernel) ?_
  refine X.getI (pc := 1) (k := 0) fw_Fee_15 (by decide +kernel) (fun _ => rfl) hS ?_
  refine X.iload_1 (pc := 4) (by decide +kernel) ?_
  refine X.iconst (pc := 5) (i := 3) (v := 3) ic_3 (by decide +kernel) ?_
  obtain ⟨y2, hr3, h⟩ := bnd1_some h
  have hj4 : X E y_Fee_endsWith b_Fee_endsWith 3 (some .int) tg d 0 0 17 [some (.ref (e_b E + t)), some (.int p1), some (.int p2)] [.int y2, .int (I t 0)] S I L R n (Kq (some (.int v)) S I L R n) := by
    refine X.iadd (pc := 17) (by decide +kernel) ?_
    refine X.iload_1 (pc := 18) (by decide +kernel) ?_
    refine X.iconst (pc := 19) (i := 1) (v := 1) ic_1 (by decide +kernel) ?_
    obtain ⟨y6, hr7, h⟩ := bnd1_some h
    have hj8 : X E y_Fee_endsWith b_Fee_endsWith 3 (some .int) tg d 0 0 31 [some (.ref (e_b E + t)), none, some (.int p2)] [.int y6, .int ((I t 0) + y2)] S I L R n (Kq (some (.int v)) S I L R n) := by
      refine X.iadd (pc := 31) (by decide +kernel) ?_
      refine X.iload_2 (pc := 32) (by decide +kernel) ?_
      refine X.aload_0 (pc := 33) (by decide +kernel) ?_
      refine X.getI (pc := 34) (k := 5) fw_Fee_9 (by decide +kernel) (fun _ => rfl) hS ?_
      obtain ⟨y10, hr11, h⟩ := bnd1_some h
      have hj12 : X E y_Fee_endsWith b_Fee_endsWith 3 (some .int) tg d 0 0 45 [none, none, none] [.int y10, .int (((I t 0) + y2) + y6)] S I L R n (Kq (some (.int v)) S I L R n) := by
        refine X.iadd (pc := 45) (by decide +kernel) ?_
        refine X.nameI (fun x13 hx13 => ?_)
        have h := lt_at hx13 h
        have j0 := Option.some.inj h
        subst j0
        exact X.ireturn (pc := 46) (by decide +kernel) ⟨_, rfl, rfl⟩ ⟨rfl, rfl, rfl, rfl, rfl, rfl⟩
      have h := hr11
      rcases ifb_some h with ⟨hq9, h⟩ | ⟨hq9, h⟩
      · refine X.icmp_ne_f (pc := 37) (off := 7) (tgt := 44) hq9 rfl (by decide +kernel) ?_
        refine X.iconst (pc := 40) (i := 1) (v := 1) ic_1 (by decide +kernel) ?_
        refine X.goto (pc := 41) (off := 4) (tgt := 45) (by decide +kernel) rfl ?_
        have j0 := Option.some.inj h
        subst j0
        refine X.fgt (o' := [none, none, none]) trivial ?_
        exact hj12
      · refine X.icmp_ne_t (pc := 37) (off := 7) (tgt := 44) hq9 rfl (by decide +kernel) ?_
        refine X.iconst (pc := 44) (i := 0) (v := 0) ic_0 (by decide +kernel) ?_
        have j0 := Option.some.inj h
        subst j0
        refine X.fgt (o' := [none, none, none]) trivial ?_
        exact hj12
    have h := hr7
    rcases ifb_some h with ⟨hq5, h⟩ | ⟨hq5, h⟩
    · refine X.icmp_ne_f (pc := 20) (off := 10) (tgt := 30) hq5 rfl (by decide +kernel) ?_
      refine X.aload_0 (pc := 23) (by decide +kernel) ?_
      refine X.getI (pc := 24) (k := 2) fw_Fee_21 (by decide +kernel) (fun _ => rfl) hS ?_
      refine X.goto (pc := 27) (off := 4) (tgt := 31) (by decide +kernel) rfl ?_
      have j0 := Option.some.inj h
      subst j0
      refine X.fgt (o' := [some (.ref (e_b E + t)), none, some (.int p2)]) ⟨rfl, ⟨rfl, trivial⟩⟩ ?_
      exact hj8
    · refine X.icmp_ne_t (pc := 20) (off := 10) (tgt := 30) hq5 rfl (by decide +kernel) ?_
      refine X.iconst (pc := 30) (i := 0) (v := 0) ic_0 (by decide +kernel) ?_
      have j0 := Option.some.inj h
      subst j0
      refine X.fgt (o' := [some (.ref (e_b E + t)), none, some (.int p2)]) ⟨rfl, ⟨rfl, trivial⟩⟩ ?_
      exact hj8
  have h := hr3
  rcases ifb_some h with ⟨hq1, h⟩ | ⟨hq1, h⟩
  · refine X.icmp_ne_f (pc := 6) (off := 10) (tgt := 16) hq1 rfl (by decide +kernel) ?_
    refine X.aload_0 (pc := 9) (by decide +kernel) ?_
    refine X.getI (pc := 10) (k := 1) fw_Fee_18 (by decide +kernel) (fun _ => rfl) hS ?_
    refine X.goto (pc := 13) (off := 4) (tgt := 17) (by decide +kernel) rfl ?_
    have j0 := Option.some.inj h
    subst j0
    exact hj4
  · refine X.icmp_ne_t (pc := 6) (off := 10) (tgt := 16) hq1 rfl (by decide +kernel) ?_
    refine X.iconst (pc := 16) (i := 0) (v := 0) ic_0 (by decide +kernel) ?_
    have j0 := Option.some.inj h
    subst j0
    exact hj4
