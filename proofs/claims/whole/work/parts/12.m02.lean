set_option maxRecDepth 100000 in
noncomputable def f_Guide_lay (S : MS) (R : MR) (L : ML) (t : Nat) (p1 : Int32) (p2 : Int32) (p3 : Int64) (p4 : Int64) : Option ML :=
  lt ((p2 * 144) + p1) fun (x1 : Int32) =>
  bnd1 (ifb (x1 < 0)
      (some L)
      (ifb (1296 ≤ x1)
        (some L)
        (bnd1 (R t 3) fun b7 =>
        asrt ((S b7).1 = 21) <|
        asrt (vp_in x1 (S b7).2) <|
        lt (wL L b7 (Int32.toNatClampNeg x1) p3) fun (L10 : ML) =>
        bnd1 (R t 5) fun b11 =>
        asrt ((S b11).1 = 21) <|
        asrt (vp_in x1 (S b11).2) <|
        lt (wL L10 b11 (Int32.toNatClampNeg x1) p4) fun (L14 : ML) =>
        some L14))) fun (L3 : ML) =>
  some L3
set_option maxRecDepth 100000 in
set_option maxHeartbeats 4000000 in
theorem c_Guide_lay {E : Env} (hE : OKE E) {tg : Bool} {d : Nat} (hd : 0 ≤ d) {S : MS} {I : MI} {L : ML} {R : MR} {n : Nat} {t : Nat} {p1 : Int32} {p2 : Int32} {p3 : Int64} {p4 : Int64} {L' : ML} (hS : (S t).1 = 1) (h : f_Guide_lay S R L t p1 p2 p3 p4 = some L') : C E y_Guide_lay b_Guide_lay 8 none tg d 0 0 [.ref (e_b E + t), .int p1, .int p2, .long p3, .long p4] S I L R n (Kq none S I L' R n) := by
  refine C.of (o := [some (.ref (e_b E + t)), some (.int p1), some (.int p2), some (.long p3), none, some (.long p4), none, none]) (by decide) rfl (Nat.le_of_ble_eq_true rfl) ?_
  rw [f_Guide_lay] at h
  refine X.iload_2 (pc := 0) (by decide +kernel) ?_
  refine X.sipush (pc := 1) (i := 144) (v := 144) sp_144 (by decide +kernel) ?_
  refine X.imul (pc := 4) (by decide +kernel) ?_
  refine X.iload_1 (pc := 5) (by decide +kernel) ?_
  refine X.iadd (pc := 6) (by decide +kernel) ?_
  refine X.nameI (fun x1 hx1 => ?_)
  have h := lt_at hx1 h
  refine X.istore_7 (pc := 7) (by decide +kernel) (by decide) rfl ?_
  refine X.iload_7 (pc := 9) (by decide +kernel) ?_
  obtain ⟨L3, hr4, h⟩ := bnd1_some h
  have hj5 : X E y_Guide_lay b_Guide_lay 8 none tg d 0 0 39 [none, none, none, none, none, none, none, none] [] S I L3 R n (Kq none S I L' R n) := by
    have j0 := Option.some.inj h
    subst j0
    exact X.vreturn (pc := 39) (by decide +kernel) rfl ⟨rfl, rfl, rfl, rfl, rfl, rfl⟩
  have h := hr4
  rcases ifb_some h with ⟨hq2, h⟩ | ⟨hq2, h⟩
  · refine X.if_lt_t (pc := 11) (off := 28) (tgt := 39) hq2 rfl (by decide +kernel) ?_
    have j0 := Option.some.inj h
    subst j0
    refine X.fgt (o' := [none, none, none, none, none, none, none, none]) trivial ?_
    exact hj5
  · refine X.if_lt_f (pc := 11) (off := 28) (tgt := 39) hq2 rfl (by decide +kernel) ?_
    refine X.iload_7 (pc := 14) (by decide +kernel) ?_
    refine X.sipush (pc := 16) (i := 1296) (v := 1296) sp_1296 (by decide +kernel) ?_
    rcases ifb_some h with ⟨hq6, h⟩ | ⟨hq6, h⟩
    · refine X.icmp_ge_t (pc := 19) (off := 20) (tgt := 39) hq6 rfl (by decide +kernel) ?_
      have j0 := Option.some.inj h
      subst j0
      refine X.fgt (o' := [none, none, none, none, none, none, none, none]) trivial ?_
      exact hj5
    · refine X.icmp_ge_f (pc := 19) (off := 20) (tgt := 39) hq6 rfl (by decide +kernel) ?_
      refine X.aload_0 (pc := 22) (by decide +kernel) ?_
      obtain ⟨b7, hb7, h⟩ := bnd1_some h
      refine X.getR (pc := 23) (k := 3) fw_Guide_18 (by decide +kernel) (fun _ => rfl) hS hb7 ?_
      refine X.iload_7 (pc := 26) (by decide +kernel) ?_
      refine X.lload_3 (pc := 28) (by decide +kernel) ?_
      obtain ⟨hc8, h⟩ := asrt_some h
      obtain ⟨hi9, h⟩ := asrt_some h
      refine X.lastore (pc := 29) (by decide +kernel) hc8 hi9 ?_
      refine X.nameML (fun L10 hL10 => ?_)
      have h := lt_at hL10 h
      refine X.aload_0 (pc := 30) (by decide +kernel) ?_
      obtain ⟨b11, hb11, h⟩ := bnd1_some h
      refine X.getR (pc := 31) (k := 5) fw_Guide_25 (by decide +kernel) (fun _ => rfl) hS hb11 ?_
      refine X.iload_7 (pc := 34) (by decide +kernel) ?_
      refine X.lload_5 (pc := 36) (by decide +kernel) ?_
      obtain ⟨hc12, h⟩ := asrt_some h
      obtain ⟨hi13, h⟩ := asrt_some h
      refine X.lastore (pc := 38) (by decide +kernel) hc12 hi13 ?_
      refine X.nameML (fun L14 hL14 => ?_)
      have h := lt_at hL14 h
      have j0 := Option.some.inj h
      subst j0
      refine X.fgt (o' := [none, none, none, none, none, none, none, none]) trivial ?_
      exact hj5
set_option maxRecDepth 100000 in
noncomputable def f_Guide_laidAt (S : MS) (L : ML) (p1 : Nat) (p2 : Int32) (p3 : Int32) : Option Int64 :=
  lt ((p3 * 144) + p2) fun (x1 : Int32) =>
  bnd1 (ifb (x1 < 0)
      (some 0)
      (asrt ((S p1).1 = 21) <|
      ifb ((Int32.ofNat (S p1).2) ≤ x1)
        (some 0)
        (asrt (vp_in x1 (S p1).2) <|
        some (L p1 (Int32.toNatClampNeg x1))))) fun (y3 : Int64) =>
  some y3
set_option maxRecDepth 100000 in
set_option maxHeartbeats 4000000 in
theorem c_Guide_laidAt {E : Env} (hE : OKE E) {tg : Bool} {d : Nat} (hd : 0 ≤ d) {S : MS} {I : MI} {L : ML} {R : MR} {n : Nat} {p1 : Nat} {p2 : Int32} {p3 : Int32} {v : Int64} (h : f_Guide_laidAt S L p1 p2 p3 = some v) : C E y_Guide_laidAt b_Guide_laidAt 4 (some .long) tg d 0 0 [.ref (e_b E + p1), .int p2, .int p3] S I L R n (Kq (some (.long v)) S I L R n) := by
  refine C.of (o := [some (.ref (e_b E + p1)), some (.int p2), some (.int p3), none]) (by decide) rfl (Nat.le_of_ble_eq_true rfl) ?_
  rw [f_Guide_laidAt] at h
  refine X.iload_2 (pc := 0) (by decide +kernel) ?_
  refine X.sipush (pc := 1) (i := 144) (v := 144) sp_144 (by decide +kernel) ?_
  refine X.imul (pc := 4) (by decide +kernel) ?_
  refine X.iload_1 (pc := 5) (by decide +kernel) ?_
  refine X.iadd (pc := 6) (by decide +kernel) ?_
  refine X.nameI (fun x1 hx1 => ?_)
  have h := lt_at hx1 h
  refine X.istore_3 (pc := 7) (by decide +kernel) (by decide) rfl ?_
  refine X.iload_3 (pc := 8) (by decide +kernel) ?_
  obtain ⟨y3, hr4, h⟩ := bnd1_some h
  have hj5 : X E y_Guide_laidAt b_Guide_laidAt 4 (some .long) tg d 0 0 25 [none, none, none, none] [.long y3] S I L R n (Kq (some (.long v)) S I L R n) := by
    have j0 := Option.some.inj h
    subst j0
    exact X.lreturn (pc := 25) (by decide +kernel) rfl ⟨rfl, rfl, rfl, rfl, rfl, rfl⟩
  have h := hr4
  rcases ifb_some h with ⟨hq2, h⟩ | ⟨hq2, h⟩
  · refine X.if_lt_t (pc := 9) (off := 15) (tgt := 24) hq2 rfl (by decide +kernel) ?_
    refine X.lconst (pc := 24) (i := 0) (v := 0) rfl (by decide +kernel) ?_
    have j0 := Option.some.inj h
    subst j0
    refine X.fgt (o' := [none, none, none, none]) trivial ?_
    exact hj5
  · refine X.if_lt_f (pc := 9) (off := 15) (tgt := 24) hq2 rfl (by decide +kernel) ?_
    refine X.iload_3 (pc := 12) (by decide +kernel) ?_
    refine X.aload_0 (pc := 13) (by decide +kernel) ?_
    obtain ⟨hc6, h⟩ := asrt_some h
    refine X.alen (pc := 14) (by decide +kernel) (by rw [hc6]; decide) ?_
    rcases ifb_some h with ⟨hq7, h⟩ | ⟨hq7, h⟩
    · refine X.icmp_ge_t (pc := 15) (off := 9) (tgt := 24) hq7 rfl (by decide +kernel) ?_
      refine X.lconst (pc := 24) (i := 0) (v := 0) rfl (by decide +kernel) ?_
      have j0 := Option.some.inj h
      subst j0
      refine X.fgt (o' := [none, none, none, none]) trivial ?_
      exact hj5
    · refine X.icmp_ge_f (pc := 15) (off := 9) (tgt := 24) hq7 rfl (by decide +kernel) ?_
      refine X.aload_0 (pc := 18) (by decide +kernel) ?_
      refine X.iload_3 (pc := 19) (by decide +kernel) ?_
      obtain ⟨hi8, h⟩ := asrt_some h
      refine X.laload (pc := 20) (by decide +kernel) hc6 hi8 ?_
      refine X.goto (pc := 21) (off := 4) (tgt := 25) (by decide +kernel) rfl ?_
      have j0 := Option.some.inj h
      subst j0
      refine X.fgt (o' := [none, none, none, none]) trivial ?_
      exact hj5
set_option maxRecDepth 100000 in
noncomputable def l_Guide_byItself_6 (S : MS) (R : MR) (I : MI) (L : ML) (v0 : Nat) (v1 : Nat) (v2 : Int32) (v3 : Int32) : Nat → Int64 → Int32 → Option Int64
  | 0, _, _ => none
  | f + 1, v4, v6 =>
    ifb (3 ≤ v6)
      (some v4)
      (bnd1 (R v0 1) fun b2 =>
      bnd1 (f_GWL_tenthsOf S I b2 v6) fun x3 =>
      bnd1 (R v0 0) fun b5 =>
      asrt ((S b5).1 = 2) <|
      bnd1 (f_Land_after S R I b5 v2 v6) fun x7 =>
      bnd1 (f_Guide_laidAt S L v1 x7 v3) fun x9 =>
      lt (v4 + ((Int32.toInt64 x3) * x9)) fun (x11 : Int64) =>
      l_Guide_byItself_6 S R I L v0 v1 v2 v3 f x11 (v6 + 1))
set_option maxRecDepth 100000 in
set_option maxHeartbeats 4000000 in
theorem xl_Guide_byItself_6 {E : Env} (hE : OKE E) {tg : Bool} {d : Nat} (hd : 1 ≤ d) {S : MS} {I : MI} {L : ML} {R : MR} {n : Nat} {v0 : Nat} {v1 : Nat} {v2 : Int32} {v3 : Int32} {K : KT} :
    ∀ {f : Nat}  {v4 : Int64} {v6 : Int32} {o4 : Int64}, (S v0).1 = 1 → l_Guide_byItself_6 S R I L v0 v1 v2 v3 f v4 v6 = some o4 → X E y_Guide_byItself b_Guide_byItself 7 (some .long) tg d 0 0 49 [none, none, none, none, some (.long o4), none, none] [] S I L R n K → X E y_Guide_byItself b_Guide_byItself 7 (some .long) tg d 0 0 6 [some (.ref (e_b E + v0)), some (.ref (e_b E + v1)), some (.int v2), some (.int v3), some (.long v4), none, some (.int v6)] [] S I L R n K := by
  intro f
  induction f with
  | zero =>
    intro v4 v6 o4 hS h hk
    rw [l_Guide_byItself_6] at h
    cases h
  | succ f ih =>
    intro v4 v6 o4 hS h hk
    rw [l_Guide_byItself_6] at h
    refine X.iload_6 (pc := 6) (by decide +kernel) ?_
    refine X.iconst (pc := 8) (i := 3) (v := 3) ic_3 (by decide +kernel) ?_
    rcases ifb_some h with ⟨hq1, h⟩ | ⟨hq1, h⟩
    · refine X.icmp_ge_t (pc := 9) (off := 40) (tgt := 49) hq1 rfl (by decide +kernel) ?_
      have j0 := Option.some.inj h
      subst j0
      refine X.fgt (o' := [none, none, none, none, some (.long v4), none, none]) ⟨rfl, trivial⟩ ?_
      exact hk
    · refine X.icmp_ge_f (pc := 9) (off := 40) (tgt := 49) hq1 rfl (by decide +kernel) ?_
      refine X.lload_4 (pc := 12) (by decide +kernel) ?_
      refine X.aload_0 (pc := 14) (by decide +kernel) ?_
      obtain ⟨b2, hb2, h⟩ := bnd1_some h
      refine X.getR (pc := 15) (k := 1) fw_Guide_46 (by decide +kernel) (fun _ => rfl) hS hb2 ?_
      refine X.iload_6 (pc := 18) (by decide +kernel) ?_
      obtain ⟨x3, hv4, h⟩ := bnd1_some h
      refine X.callSi (pc := 20) (nc := 0) (ns := 0) (c_GWL_tenthsOf hE (dle hd (Nat.le_of_ble_eq_true rfl)) hv4) cv_Guide_124 (by decide +kernel) (ddd hd (Nat.le_of_ble_eq_true rfl)) rfl (Nat.le_of_ble_eq_true rfl) rfl rfl ?_
      refine X.i2l (pc := 23) (by decide +kernel) ?_
      refine X.aload_1 (pc := 24) (by decide +kernel) ?_
      refine X.aload_0 (pc := 25) (by decide +kernel) ?_
      obtain ⟨b5, hb5, h⟩ := bnd1_some h
      refine X.getR (pc := 26) (k := 0) fw_Guide_42 (by decide +kernel) (fun _ => rfl) hS hb5 ?_
      refine X.iload_2 (pc := 29) (by decide +kernel) ?_
      refine X.iload_6 (pc := 30) (by decide +kernel) ?_
      obtain ⟨hc6, h⟩ := asrt_some h
      obtain ⟨x7, hv8, h⟩ := bnd1_some h
      refine X.callVi (pc := 32) (nc := 0) (ns := 0) (c_Land_after hE (dle hd (Nat.le_of_ble_eq_true rfl)) hc6 hv8) cv_Guide_118 (by decide +kernel) hc6 ⟨by decide, rfl⟩ (ddd hd (Nat.le_of_ble_eq_true rfl)) rfl (Nat.le_of_ble_eq_true rfl) rfl rfl ?_
      refine X.iload_3 (pc := 35) (by decide +kernel) ?_
      obtain ⟨x9, hv10, h⟩ := bnd1_some h
      refine X.callSl (pc := 36) (nc := 0) (ns := 0) (c_Guide_laidAt hE (dle hd (Nat.le_of_ble_eq_true rfl)) hv10) cv_Guide_121 (by decide +kernel) (ddd hd (Nat.le_of_ble_eq_true rfl)) rfl (Nat.le_of_ble_eq_true rfl) rfl rfl ?_
      refine X.lmul (pc := 39) (by decide +kernel) ?_
      refine X.ladd (pc := 40) (by decide +kernel) ?_
      refine X.nameL (fun x11 hx11 => ?_)
      have h := lt_at hx11 h
      refine X.lstore_4 (pc := 41) (by decide +kernel) (by decide) rfl ?_
      refine X.iinc_6 (pc := 43) (z := 1) (v := 1) ic_1 (by decide +kernel) (by decide) rfl ?_
      refine X.goto (pc := 46) (off := (-40)) (tgt := 6) (by decide +kernel) rfl ?_
      exact ih hS h hk
set_option maxRecDepth 100000 in
noncomputable def f_Guide_byItself (g : Nat) (S : MS) (R : MR) (I : MI) (L : ML) (t : Nat) (p1 : Nat) (p2 : Int32) (p3 : Int32) : Option Int64 :=
  bnd1 (l_Guide_byItself_6 S R I L t p1 p2 p3 g 0 0) fun x12 =>
  some x12
set_option maxRecDepth 100000 in
set_option maxHeartbeats 4000000 in
theorem c_Guide_byItself {E : Env} (hE : OKE E) {tg : Bool} {d : Nat} (hd : 1 ≤ d) {g : Nat} {S : MS} {I : MI} {L : ML} {R : MR} {n : Nat} {t : Nat} {p1 : Nat} {p2 : Int32} {p3 : Int32} {v : Int64} (hS : (S t).1 = 1) (h : f_Guide_byItself g S R I L t p1 p2 p3 = some v) : C E y_Guide_byItself b_Guide_byItself 7 (some .long) tg d 0 0 [.ref (e_b E + t), .ref (e_b E + p1), .int p2, .int p3] S I L R n (Kq (some (.long v)) S I L R n) := by
  refine C.of (o := [some (.ref (e_b E + t)), some (.ref (e_b E + p1)), some (.int p2), some (.int p3), none, none, none]) (by decide) rfl (Nat.le_of_ble_eq_true rfl) ?_
  rw [f_Guide_byItself] at h
  refine X.lconst (pc := 0) (i := 0) (v := 0) rfl (by decide +kernel) ?_
  refine X.lstore_4 (pc := 1) (by decide +kernel) (by decide) rfl ?_
  refine X.iconst (pc := 3) (i := 0) (v := 0) ic_0 (by decide +kernel) ?_
  refine X.istore_6 (pc := 4) (by decide +kernel) (by decide) rfl ?_
  obtain ⟨x12, hv13, h⟩ := bnd1_some h
  refine xl_Guide_byItself_6 hE hd hS hv13 ?_
  refine X.lload_4 (pc := 49) (by decide +kernel) ?_
  have j0 := Option.some.inj h
  subst j0
  exact X.lreturn (pc := 51) (by decide +kernel) rfl ⟨rfl, rfl, rfl, rfl, rfl, rfl⟩
set_option maxRecDepth 100000 in
noncomputable def l_Guide_decide_207 (S : MS) (R : MR) (L : ML) (v0 : Nat) (v1 : Int32) (v2 : Int32) (v12 : Int64) (v14 : Int64) (v16 : Int64) : Nat → MI → Int64 → Int64 → Int32 → Option (Int64 × Int64 × MI)
  | 0, _, _, _, _ => none
  | f + 1, I, v8, v10, v18 =>
    ifb (3 ≤ v18)
      (some (v8, v10, I))
      (bnd1 (R v0 0) fun b52 =>
      asrt ((S b52).1 = 2) <|
      bnd1 (f_Land_after S R I b52 v1 v18) fun x54 =>
      bnd1 (R v0 4) fun b56 =>
      bnd1 (f_Guide_laidAt S L b56 x54 (v2 - 1)) fun x57 =>
      lt ((v12 + ((Int32.toInt64 (10 * (I v0 8))) * x57)) + v16) fun (x59 : Int64) =>
      bnd1 (R v0 6) fun b60 =>
      bnd1 (f_Guide_laidAt S L b60 x54 (v2 - 1)) fun x61 =>
      lt (v14 + ((Int32.toInt64 (10 * (I v0 8))) * x61)) fun (x63 : Int64) =>
      bnd3 (ifb (0 < (lg_cmp x59 v8))
          (lt (wI I v0 11 v18) fun (I70 : MI) =>
          some (x59, x63, I70))
          (ifb ((lg_cmp x59 v8) = 0)
            (ifb ((lg_cmp x63 v10) ≤ 0)
              (some (v8, v10, I))
              (lt (wI I v0 11 v18) fun (I73 : MI) =>
              some (x59, x63, I73)))
            (some (v8, v10, I)))) fun (z65 : Int64) (z66 : Int64) (I67 : MI) =>
      l_Guide_decide_207 S R L v0 v1 v2 v12 v14 v16 f I67 z65 z66 (v18 + 1))
set_option maxRecDepth 100000 in
set_option maxHeartbeats 4000000 in
theorem xl_Guide_decide_207 {E : Env} (hE : OKE E) {tg : Bool} {d : Nat} (hd : 2 ≤ d) {S : MS} {L : ML} {R : MR} {n : Nat} {v0 : Nat} {v1 : Int32} {v2 : Int32} {v12 : Int64} {v14 : Int64} {v16 : Int64} {K : KT} :
    ∀ {f : Nat} {I : MI} {v8 : Int64} {v10 : Int64} {v18 : Int32} {o8 : Int64} {o10 : Int64} {I' : MI}, (S v0).1 = 1 → l_Guide_decide_207 S R L v0 v1 v2 v12 v14 v16 f I v8 v10 v18 = some (o8, o10, I') → X E y_Guide_decide b_Guide_decide 24 none tg d 0 0 324 [some (.ref (e_b E + v0)), some (.int v1), some (.int v2), none, none, none, none, none, some (.long o8), none, some (.long o10), none, none, none, none, none, none, none, none, none, none, none, none, none] [] S I' L R n K → X E y_Guide_decide b_Guide_decide 24 none tg d 0 0 207 [some (.ref (e_b E + v0)), some (.int v1), some (.int v2), none, none, none, none, none, some (.long v8), none, some (.long v10), none, some (.long v12), none, some (.long v14), none, some (.long v16), none, some (.int v18), none, none, none, none, none] [] S I L R n K := by
  intro f
  induction f with
  | zero =>
    intro I v8 v10 v18 o8 o10 I' hS h hk
    rw [l_Guide_decide_207] at h
    cases h
  | succ f ih =>
    intro I v8 v10 v18 o8 o10 I' hS h hk
    rw [l_Guide_decide_207] at h
    refine X.iload_18 (pc := 207) (by decide +kernel) ?_
    refine X.iconst (pc := 209) (i := 3) (v := 3) ic_3 (by decide +kernel) ?_
    rcases ifb_some h with ⟨hq51, h⟩ | ⟨hq51, h⟩
    · refine X.icmp_ge_t (pc := 210) (off := 114) (tgt := 324) hq51 rfl (by decide +kernel) ?_
      have j0 := Option.some.inj h
      obtain ⟨i0, j1⟩ := Prod.mk.inj j0
      obtain ⟨i1, j2⟩ := Prod.mk.inj j1
      subst i0
      subst i1
      subst j2
      refine X.fgt (o' := [some (.ref (e_b E + v0)), some (.int v1), some (.int v2), none, none, none, none, none, some (.long v8), none, some (.long v10), none, none, none, none, none, none, none, none, none, none, none, none, none]) ⟨rfl, ⟨rfl, ⟨rfl, ⟨rfl, ⟨rfl, trivial⟩⟩⟩⟩⟩ ?_
      exact hk
    · refine X.icmp_ge_f (pc := 210) (off := 114) (tgt := 324) hq51 rfl (by decide +kernel) ?_
      refine X.aload_0 (pc := 213) (by decide +kernel) ?_
      obtain ⟨b52, hb52, h⟩ := bnd1_some h
      refine X.getR (pc := 214) (k := 0) fw_Guide_42 (by decide +kernel) (fun _ => rfl) hS hb52 ?_
      refine X.iload_1 (pc := 217) (by decide +kernel) ?_
      refine X.iload_18 (pc := 218) (by decide +kernel) ?_
      obtain ⟨hc53, h⟩ := asrt_some h
      obtain ⟨x54, hv55, h⟩ := bnd1_some h
      refine X.callVi (pc := 220) (nc := 0) (ns := 0) (c_Land_after hE (dle hd (Nat.le_of_ble_eq_true rfl)) hc53 hv55) cv_Guide_118 (by decide +kernel) hc53 ⟨by decide, rfl⟩ (ddd hd (Nat.le_of_ble_eq_true rfl)) rfl (Nat.le_of_ble_eq_true rfl) rfl rfl ?_
      refine X.istore_19 (pc := 223) (by decide +kernel) (by decide) rfl ?_
      refine X.lload_12 (pc := 225) (by decide +kernel) ?_
      refine X.bipush (pc := 227) (i := 10) (v := 10) bp_10 (by decide +kernel) ?_
      refine X.aload_0 (pc := 229) (by decide +kernel) ?_
      refine X.getI (pc := 230) (k := 8) fw_Guide_53 (by decide +kernel) (fun _ => rfl) hS ?_
      refine X.imul (pc := 233) (by decide +kernel) ?_
      refine X.i2l (pc := 234) (by decide +kernel) ?_
      refine X.aload_0 (pc := 235) (by decide +kernel) ?_
      obtain ⟨b56, hb56, h⟩ := bnd1_some h
      refine X.getR (pc := 236) (k := 4) fw_Guide_22 (by decide +kernel) (fun _ => rfl) hS hb56 ?_
      refine X.iload_19 (pc := 239) (by decide +kernel) ?_
      refine X.iload_2 (pc := 241) (by decide +kernel) ?_
      refine X.iconst (pc := 242) (i := 1) (v := 1) ic_1 (by decide +kernel) ?_
      refine X.isub (pc := 243) (by decide +kernel) ?_
      obtain ⟨x57, hv58, h⟩ := bnd1_some h
      refine X.callSl (pc := 244) (nc := 0) (ns := 0) (c_Guide_laidAt hE (dle hd (Nat.le_of_ble_eq_true rfl)) hv58) cv_Guide_121 (by decide +kernel) (ddd hd (Nat.le_of_ble_eq_true rfl)) rfl (Nat.le_of_ble_eq_true rfl) rfl rfl ?_
      refine X.lmul (pc := 247) (by decide +kernel) ?_
      refine X.ladd (pc := 248) (by decide +kernel) ?_
      refine X.lload_16 (pc := 249) (by decide +kernel) ?_
      refine X.ladd (pc := 251) (by decide +kernel) ?_
      refine X.nameL (fun x59 hx59 => ?_)
      have h := lt_at hx59 h
      refine X.lstore_20 (pc := 252) (by decide +kernel) (by decide) rfl ?_
      refine X.lload_14 (pc := 254) (by decide +kernel) ?_
      refine X.bipush (pc := 256) (i := 10) (v := 10) bp_10 (by decide +kernel) ?_
      refine X.aload_0 (pc := 258) (by decide +kernel) ?_
      refine X.getI (pc := 259) (k := 8) fw_Guide_53 (by decide +kernel) (fun _ => rfl) hS ?_
      refine X.imul (pc := 262) (by decide +kernel) ?_
      refine X.i2l (pc := 263) (by decide +kernel) ?_
      refine X.aload_0 (pc := 264) (by decide +kernel) ?_
      obtain ⟨b60, hb60, h⟩ := bnd1_some h
      refine X.getR (pc := 265) (k := 6) fw_Guide_28 (by decide +kernel) (fun _ => rfl) hS hb60 ?_
      refine X.iload_19 (pc := 268) (by decide +kernel) ?_
      refine X.iload_2 (pc := 270) (by decide +kernel) ?_
      refine X.iconst (pc := 271) (i := 1) (v := 1) ic_1 (by decide +kernel) ?_
      refine X.isub (pc := 272) (by decide +kernel) ?_
      obtain ⟨x61, hv62, h⟩ := bnd1_some h
      refine X.callSl (pc := 273) (nc := 0) (ns := 0) (c_Guide_laidAt hE (dle hd (Nat.le_of_ble_eq_true rfl)) hv62) cv_Guide_121 (by decide +kernel) (ddd hd (Nat.le_of_ble_eq_true rfl)) rfl (Nat.le_of_ble_eq_true rfl) rfl rfl ?_
      refine X.lmul (pc := 276) (by decide +kernel) ?_
      refine X.ladd (pc := 277) (by decide +kernel) ?_
      refine X.nameL (fun x63 hx63 => ?_)
      have h := lt_at hx63 h
      refine X.lstore_22 (pc := 278) (by decide +kernel) (by decide) rfl ?_
      refine X.lload_20 (pc := 280) (by decide +kernel) ?_
      refine X.lload_8 (pc := 282) (by decide +kernel) ?_
      refine X.lcmp (pc := 284) (by decide +kernel) ?_
      obtain ⟨z65, z66, I67, hr68, h⟩ := bnd3_some h
      have hj69 : X E y_Guide_decide b_Guide_decide 24 none tg d 0 0 318 [some (.ref (e_b E + v0)), some (.int v1), some (.int v2), none, none, none, none, none, some (.long z65), none, some (.long z66), none, some (.long v12), none, some (.long v14), none, some (.long v16), none, some (.int v18), none, none, none, none, none] [] S I67 L R n K := by
        refine X.iinc_18 (pc := 318) (z := 1) (v := 1) ic_1 (by decide +kernel) (by decide) rfl ?_
        refine X.goto (pc := 321) (off := (-114)) (tgt := 207) (by decide +kernel) rfl ?_
        exact ih hS h hk
      have h := hr68
      rcases ifb_some h with ⟨hq64, h⟩ | ⟨hq64, h⟩
      · refine X.if_gt_t (pc := 285) (off := 19) (tgt := 304) hq64 rfl (by decide +kernel) ?_
        refine X.lload_20 (pc := 304) (by decide +kernel) ?_
        refine X.lstore_8 (pc := 306) (by decide +kernel) (by decide) rfl ?_
        refine X.lload_22 (pc := 308) (by decide +kernel) ?_
        refine X.lstore_10 (pc := 310) (by decide +kernel) (by decide) rfl ?_
        refine X.aload_0 (pc := 312) (by decide +kernel) ?_
        refine X.iload_18 (pc := 313) (by decide +kernel) ?_
        refine X.putI (pc := 315) (k := 11) fw_Guide_38 (by decide +kernel) rfl rfl hS ?_
        refine X.nameMI (fun I70 hI70 => ?_)
        have h := lt_at hI70 h
        have j0 := Option.some.inj h
        obtain ⟨i0, j1⟩ := Prod.mk.inj j0
        obtain ⟨i1, j2⟩ := Prod.mk.inj j1
        subst i0
        subst i1
        subst j2
        refine X.fgt (o' := [some (.ref (e_b E + v0)), some (.int v1), some (.int v2), none, none, none, none, none, some (.long x59), none, some (.long x63), none, some (.long v12), none, some (.long v14), none, some (.long v16), none, some (.int v18), none, none, none, none, none]) ⟨rfl, ⟨rfl, ⟨rfl, ⟨rfl, ⟨rfl, ⟨rfl, ⟨rfl, ⟨rfl, ⟨rfl, trivial⟩⟩⟩⟩⟩⟩⟩⟩⟩ ?_
        exact hj69
      · refine X.if_gt_f (pc := 285) (off := 19) (tgt := 304) hq64 rfl (by decide +kernel) ?_
        refine X.lload_20 (pc := 288) (by decide +kernel) ?_
        refine X.lload_8 (pc := 290) (by decide +kernel) ?_
        refine X.lcmp (pc := 292) (by decide +kernel) ?_
        rcases ifb_some h with ⟨hq71, h⟩ | ⟨hq71, h⟩
        · refine X.if_ne_f (pc := 293) (off := 25) (tgt := 318) hq71 rfl (by decide +kernel) ?_
          refine X.lload_22 (pc := 296) (by decide +kernel) ?_
          refine X.lload_10 (pc := 298) (by decide +kernel) ?_
          refine X.lcmp (pc := 300) (by decide +kernel) ?_
          rcases ifb_some h with ⟨hq72, h⟩ | ⟨hq72, h⟩
          · refine X.if_le_t (pc := 301) (off := 17) (tgt := 318) hq72 rfl (by decide +kernel) ?_
            have j0 := Option.some.inj h
            obtain ⟨i0, j1⟩ := Prod.mk.inj j0
            obtain ⟨i1, j2⟩ := Prod.mk.inj j1
            subst i0
            subst i1
            subst j2
            refine X.fgt (o' := [some (.ref (e_b E + v0)), some (.int v1), some (.int v2), none, none, none, none, none, some (.long v8), none, some (.long v10), none, some (.long v12), none, some (.long v14), none, some (.long v16), none, some (.int v18), none, none, none, none, none]) ⟨rfl, ⟨rfl, ⟨rfl, ⟨rfl, ⟨rfl, ⟨rfl, ⟨rfl, ⟨rfl, ⟨rfl, trivial⟩⟩⟩⟩⟩⟩⟩⟩⟩ ?_
            exact hj69
          · refine X.if_le_f (pc := 301) (off := 17) (tgt := 318) hq72 rfl (by decide +kernel) ?_
            refine X.lload_20 (pc := 304) (by decide +kernel) ?_
            refine X.lstore_8 (pc := 306) (by decide +kernel) (by decide) rfl ?_
            refine X.lload_22 (pc := 308) (by decide +kernel) ?_
            refine X.lstore_10 (pc := 310) (by decide +kernel) (by decide) rfl ?_
            refine X.aload_0 (pc := 312) (by decide +kernel) ?_
            refine X.iload_18 (pc := 313) (by decide +kernel) ?_
            refine X.putI (pc := 315) (k := 11) fw_Guide_38 (by decide +kernel) rfl rfl hS ?_
            refine X.nameMI (fun I73 hI73 => ?_)
            have h := lt_at hI73 h
            have j0 := Option.some.inj h
            obtain ⟨i0, j1⟩ := Prod.mk.inj j0
            obtain ⟨i1, j2⟩ := Prod.mk.inj j1
            subst i0
            subst i1
            subst j2
            refine X.fgt (o' := [some (.ref (e_b E + v0)), some (.int v1), some (.int v2), none, none, none, none, none, some (.long x59), none, some (.long x63), none, some (.long v12), none, some (.long v14), none, some (.long v16), none, some (.int v18), none, none, none, none, none]) ⟨rfl, ⟨rfl, ⟨rfl, ⟨rfl, ⟨rfl, ⟨rfl, ⟨rfl, ⟨rfl, ⟨rfl, trivial⟩⟩⟩⟩⟩⟩⟩⟩⟩ ?_
            exact hj69
        · refine X.if_ne_t (pc := 293) (off := 25) (tgt := 318) hq71 rfl (by decide +kernel) ?_
          have j0 := Option.some.inj h
          obtain ⟨i0, j1⟩ := Prod.mk.inj j0
          obtain ⟨i1, j2⟩ := Prod.mk.inj j1
          subst i0
          subst i1
          subst j2
          refine X.fgt (o' := [some (.ref (e_b E + v0)), some (.int v1), some (.int v2), none, none, none, none, none, some (.long v8), none, some (.long v10), none, some (.long v12), none, some (.long v14), none, some (.long v16), none, some (.int v18), none, none, none, none, none]) ⟨rfl, ⟨rfl, ⟨rfl, ⟨rfl, ⟨rfl, ⟨rfl, ⟨rfl, ⟨rfl, ⟨rfl, trivial⟩⟩⟩⟩⟩⟩⟩⟩⟩ ?_
          exact hj69
set_option maxRecDepth 100000 in
noncomputable def f_Guide_decide (g : Nat) (S : MS) (R : MR) (I : MI) (L : ML) (t : Nat) (p1 : Int32) (p2 : Int32) (p3 : Int32) : Option (MI × ML) :=
  bnd1 (f_GWL_cellOf p1) fun x1 =>
  bnd1 (f_GWL_hundreds p3) fun x3 =>
  ifb (p3 = 0)
    (bnd1 (R t 0) fun b6 =>
    asrt ((S b6).1 = 2) <|
    bnd1 (f_Land_kindOf S R I b6 x1) fun x8 =>
    bnd1 (R t 7) fun b10 =>
    asrt ((S b10).1 = 0) <|
    bnd1 (f_Fee_endsWith S I b10 x8 x1) fun x12 =>
    bnd1 (ifb (x8 = 3)
        (some x3)
        (some 0)) fun (y15 : Int64) =>
    bnd1 (f_Guide_lay S R L t p1 p2 ((Int32.toInt64 x12) * x3) y15) fun L18 =>
    some (I, L18))
    (bnd1 (R t 0) fun b20 =>
    asrt ((S b20).1 = 2) <|
    bnd1 (f_Land_endsAt S R I b20 x1) fun x22 =>
    ifb (x22 = 0)
      (bnd1 (f_JMath_min p2 (p3 - 1)) fun x25 =>
      bnd1 (R t 4) fun b27 =>
      bnd1 (f_Guide_byItself g S R I L t b27 p1 x25) fun x28 =>
      bnd1 (R t 7) fun b30 =>
      asrt ((S b30).1 = 0) <|
      lt ((10 * x28) + ((Int32.toInt64 (I b30 3)) * x3)) fun (x32 : Int64) =>
      bnd1 (R t 6) fun b33 =>
      bnd1 (f_Guide_byItself g S R I L t b33 p1 x25) fun x34 =>
      lt (10 * x34) fun (x36 : Int64) =>
      lt (wI I t 11 3) fun (I37 : MI) =>
      bnd3 (ifb (p2 ≤ 0)
          (some (x32, x36, I37))
          (bnd1 (f_Guide_byItself g S R I37 L t b27 p1 (p2 - 1)) fun x44 =>
          lt ((Int32.toInt64 (10 - (I37 t 8))) * x44) fun (x46 : Int64) =>
          bnd1 (f_Guide_byItself g S R I37 L t b33 p1 (p2 - 1)) fun x47 =>
          lt ((Int32.toInt64 (10 - (I37 t 8))) * x47) fun (x49 : Int64) =>
          lt ((Int32.toInt64 ((I37 b30 3) + (I37 b30 4))) * x3) fun (x50 : Int64) =>
          bnd3 (l_Guide_decide_207 S R L t p1 p2 x46 x49 x50 g I37 x32 x36 0) fun x74 x75 I76 =>
          some (x74, x75, I76))) fun (z39 : Int64) (z40 : Int64) (I41 : MI) =>
      bnd1 (f_Guide_lay S R L t p1 p2 z39 z40) fun L78 =>
      some (I41, L78))
      (bnd1 (f_Land_kindOf S R I b20 x1) fun x80 =>
      bnd1 (R t 7) fun b82 =>
      asrt ((S b82).1 = 0) <|
      bnd1 (f_Fee_endsWith S I b82 x80 x1) fun x84 =>
      bnd1 (ifb (x80 = 3)
          (some x3)
          (some 0)) fun (y87 : Int64) =>
      bnd1 (f_Guide_lay S R L t p1 p2 ((Int32.toInt64 x84) * x3) y87) fun L90 =>
      some (I, L90)))
set_option maxRecDepth 100000 in
set_option maxHeartbeats 4000000 in
theorem c_Guide_decide {E : Env} (hE : OKE E) {tg : Bool} {d : Nat} (hd : 2 ≤ d) {g : Nat} {S : MS} {I : MI} {L : ML} {R : MR} {n : Nat} {t : Nat} {p1 : Int32} {p2 : Int32} {p3 : Int32} {I' : MI} {L' : ML} (hS : (S t).1 = 1) (h : f_Guide_decide g S R I L t p1 p2 p3 = some (I', L')) : C E y_Guide_decide b_Guide_decide 24 none tg d 0 0 [.ref (e_b E + t), .int p1, .int p2, .int p3] S I L R n (Kq none S I' L' R n) := by
  refine C.of (o := [some (.ref (e_b E + t)), some (.int p1), some (.int p2), some (.int p3), none, none, none, none, none, none, none, none, none, none, none, none, none, none, none, none, none, none, none, none]) (by decide) rfl (Nat.le_of_ble_eq_true rfl) ?_
  rw [f_Guide_decide] at h
  refine X.iload_1 (pc := 0) (by decide +kernel) ?_
  obtain ⟨x1, hv2, h⟩ := bnd1_some h
  refine X.callSi (pc := 1) (nc := 0) (ns := 0) (c_GWL_cellOf hE (dle hd (Nat.le_of_ble_eq_true rfl)) hv2) cv_Guide_83 (by decide +kernel) (ddd hd (Nat.le_of_ble_eq_true rfl)) rfl (Nat.le_of_ble_eq_true rfl) rfl rfl ?_
  refine X.istore_4 (pc := 4) (by decide +kernel) (by decide) rfl ?_
  refine X.iload_3 (pc := 6) (by decide +kernel) ?_
  obtain ⟨x3, hv4, h⟩ := bnd1_some h
  refine X.callSl (pc := 7) (nc := 0) (ns := 0) (c_GWL_hundreds hE (dle hd (Nat.le_of_ble_eq_true rfl)) hv4) cv_Guide_86 (by decide +kernel) (ddd hd (Nat.le_of_ble_eq_true rfl)) rfl (Nat.le_of_ble_eq_true rfl) rfl rfl ?_
  refine X.lstore_5 (pc := 10) (by decide +kernel) (by decide) rfl ?_
  refine X.iload_3 (pc := 12) (by decide +kernel) ?_
  rcases ifb_some h with ⟨hq5, h⟩ | ⟨hq5, h⟩
  · refine X.if_eq_t (pc := 13) (off := 15) (tgt := 28) hq5 rfl (by decide +kernel) ?_
    refine X.aload_0 (pc := 28) (by decide +kernel) ?_
    obtain ⟨b6, hb6, h⟩ := bnd1_some h
    refine X.getR (pc := 29) (k := 0) fw_Guide_42 (by decide +kernel) (fun _ => rfl) hS hb6 ?_
    refine X.iload_4 (pc := 32) (by decide +kernel) ?_
    obtain ⟨hc7, h⟩ := asrt_some h
    obtain ⟨x8, hv9, h⟩ := bnd1_some h
    refine X.callVi (pc := 34) (nc := 0) (ns := 0) (c_Land_kindOf hE (dle hd (Nat.le_of_ble_eq_true rfl)) hc7 hv9) cv_Guide_96 (by decide +kernel) hc7 ⟨by decide, rfl⟩ (ddd hd (Nat.le_of_ble_eq_true rfl)) rfl (Nat.le_of_ble_eq_true rfl) rfl rfl ?_
    refine X.istore_7 (pc := 37) (by decide +kernel) (by decide) rfl ?_
    refine X.aload_0 (pc := 39) (by decide +kernel) ?_
    refine X.iload_1 (pc := 40) (by decide +kernel) ?_
    refine X.iload_2 (pc := 41) (by decide +kernel) ?_
    refine X.aload_0 (pc := 42) (by decide +kernel) ?_
    obtain ⟨b10, hb10, h⟩ := bnd1_some h
    refine X.getR (pc := 43) (k := 7) fw_Guide_34 (by decide +kernel) (fun _ => rfl) hS hb10 ?_
    refine X.iload_7 (pc := 46) (by decide +kernel) ?_
    refine X.iload_4 (pc := 48) (by decide +kernel) ?_
    obtain ⟨hc11, h⟩ := asrt_some h
    obtain ⟨x12, hv13, h⟩ := bnd1_some h
    refine X.callVi (pc := 50) (nc := 0) (ns := 0) (c_Fee_endsWith hE (dle hd (Nat.le_of_ble_eq_true rfl)) hc11 hv13) cv_Guide_99 (by decide +kernel) hc11 ⟨by decide, rfl⟩ (ddd hd (Nat.le_of_ble_eq_true rfl)) rfl (Nat.le_of_ble_eq_true rfl) rfl rfl ?_
    refine X.i2l (pc := 53) (by decide +kernel) ?_
    refine X.lload_5 (pc := 54) (by decide +kernel) ?_
    refine X.lmul (pc := 56) (by decide +kernel) ?_
    refine X.iload_7 (pc := 57) (by decide +kernel) ?_
    refine X.iconst (pc := 59) (i := 3) (v := 3) ic_3 (by decide +kernel) ?_
    obtain ⟨y15, hr16, h⟩ := bnd1_some h
    have hj17 : X E y_Guide_decide b_Guide_decide 24 none tg d 0 0 69 [none, none, none, none, none, none, none, none, none, none, none, none, none, none, none, none, none, none, none, none, none, none, none, none] [.long y15, .long ((Int32.toInt64 x12) * x3), .int p2, .int p1, .ref (e_b E + t)] S I L R n (Kq none S I' L' R n) := by
      obtain ⟨L18, hv19, h⟩ := bnd1_some h
      refine X.callVv (pc := 69) (nc := 0) (ns := 0) (c_Guide_lay hE (dle hd (Nat.le_of_ble_eq_true rfl)) hS hv19) cv_Guide_102 (by decide +kernel) hS ⟨by decide, rfl⟩ (ddd hd (Nat.le_of_ble_eq_true rfl)) rfl (Nat.le_of_ble_eq_true rfl) rfl rfl ?_
      have j0 := Option.some.inj h
      obtain ⟨i0, j1⟩ := Prod.mk.inj j0
      subst i0
      subst j1
      exact X.vreturn (pc := 72) (by decide +kernel) rfl ⟨rfl, rfl, rfl, rfl, rfl, rfl⟩
    have h := hr16
    rcases ifb_some h with ⟨hq14, h⟩ | ⟨hq14, h⟩
    · refine X.icmp_ne_f (pc := 60) (off := 8) (tgt := 68) hq14 rfl (by decide +kernel) ?_
      refine X.lload_5 (pc := 63) (by decide +kernel) ?_
      refine X.goto (pc := 65) (off := 4) (tgt := 69) (by decide +kernel) rfl ?_
      have j0 := Option.some.inj h
      subst j0
      refine X.fgt (o' := [none, none, none, none, none, none, none, none, none, none, none, none, none, none, none, none, none, none, none, none, none, none, none, none]) trivial ?_
      exact hj17
    · refine X.icmp_ne_t (pc := 60) (off := 8) (tgt := 68) hq14 rfl (by decide +kernel) ?_
      refine X.lconst (pc := 68) (i := 0) (v := 0) rfl (by decide +kernel) ?_
      have j0 := Option.some.inj h
      subst j0
      refine X.fgt (o' := [none, none, none, none, none, none, none, none, none, none, none, none, none, none, none, none, none, none, none, none, none, none, none, none]) trivial ?_
      exact hj17
  · refine X.if_eq_f (pc := 13) (off := 15) (tgt := 28) hq5 rfl (by decide +kernel) ?_
    refine X.aload_0 (pc := 16) (by decide +kernel) ?_
    obtain ⟨b20, hb20, h⟩ := bnd1_some h
    refine X.getR (pc := 17) (k := 0) fw_Guide_42 (by decide +kernel) (fun _ => rfl) hS hb20 ?_
    refine X.iload_4 (pc := 20) (by decide +kernel) ?_
    obtain ⟨hc21, h⟩ := asrt_some h
    obtain ⟨x22, hv23, h⟩ := bnd1_some h
    refine X.callVi (pc := 22) (nc := 0) (ns := 0) (c_Land_endsAt hE (dle hd (Nat.le_of_ble_eq_true rfl)) hc21 hv23) cv_Guide_90 (by decide +kernel) hc21 ⟨by decide, rfl⟩ (ddd hd (Nat.le_of_ble_eq_true rfl)) rfl (Nat.le_of_ble_eq_true rfl) rfl rfl ?_
    rcases ifb_some h with ⟨hq24, h⟩ | ⟨hq24, h⟩
    · refine X.if_eq_t (pc := 25) (off := 48) (tgt := 73) hq24 rfl (by decide +kernel) ?_
      refine X.iload_2 (pc := 73) (by decide +kernel) ?_
      refine X.iload_3 (pc := 74) (by decide +kernel) ?_
      refine X.iconst (pc := 75) (i := 1) (v := 1) ic_1 (by decide +kernel) ?_
      refine X.isub (pc := 76) (by decide +kernel) ?_
      obtain ⟨x25, hv26, h⟩ := bnd1_some h
      refine X.callSi (pc := 77) (nc := 0) (ns := 0) (c_JMath_min hE (dle hd (Nat.le_of_ble_eq_true rfl)) hv26) cv_Guide_66 (by decide +kernel) (ddd hd (Nat.le_of_ble_eq_true rfl)) rfl (Nat.le_of_ble_eq_true rfl) rfl rfl ?_
      refine X.istore_7 (pc := 80) (by decide +kernel) (by decide) rfl ?_
      refine X.ldc2 (pc := 82) (x := 106) (v := 10) ld_Guide_106 (by decide +kernel) ?_
      refine X.aload_0 (pc := 85) (by decide +kernel) ?_
      refine X.aload_0 (pc := 86) (by decide +kernel) ?_
      obtain ⟨b27, hb27, h⟩ := bnd1_some h
      refine X.getR (pc := 87) (k := 4) fw_Guide_22 (by decide +kernel) (fun _ => rfl) hS hb27 ?_
      refine X.iload_1 (pc := 90) (by decide +kernel) ?_
      refine X.iload_7 (pc := 91) (by decide +kernel) ?_
      obtain ⟨x28, hv29, h⟩ := bnd1_some h
      refine X.callVl (pc := 93) (nc := 0) (ns := 0) (c_Guide_byItself hE (dle hd (Nat.le_of_ble_eq_true rfl)) hS hv29) cv_Guide_108 (by decide +kernel) hS ⟨by decide, rfl⟩ (ddd hd (Nat.le_of_ble_eq_true rfl)) rfl (Nat.le_of_ble_eq_true rfl) rfl rfl ?_
      refine X.lmul (pc := 96) (by decide +kernel) ?_
      refine X.aload_0 (pc := 97) (by decide +kernel) ?_
      obtain ⟨b30, hb30, h⟩ := bnd1_some h
      refine X.getR (pc := 98) (k := 7) fw_Guide_34 (by decide +kernel) (fun _ => rfl) hS hb30 ?_
      obtain ⟨hc31, h⟩ := asrt_some h
      refine X.getI (pc := 101) (k := 3) fw_Guide_112 (by decide +kernel) (fun _ => rfl) hc31 ?_
      refine X.i2l (pc := 104) (by decide +kernel) ?_
      refine X.lload_5 (pc := 105) (by decide +kernel) ?_
      refine X.lmul (pc := 107) (by decide +kernel) ?_
      refine X.ladd (pc := 108) (by decide +kernel) ?_
      refine X.nameL (fun x32 hx32 => ?_)
      have h := lt_at hx32 h
      refine X.lstore_8 (pc := 109) (by decide +kernel) (by decide) rfl ?_
      refine X.ldc2 (pc := 111) (x := 106) (v := 10) ld_Guide_106 (by decide +kernel) ?_
      refine X.aload_0 (pc := 114) (by decide +kernel) ?_
      refine X.aload_0 (pc := 115) (by decide +kernel) ?_
      obtain ⟨b33, hb33, h⟩ := bnd1_some h
      refine X.getR (pc := 116) (k := 6) fw_Guide_28 (by decide +kernel) (fun _ => rfl) hS hb33 ?_
      refine X.iload_1 (pc := 119) (by decide +kernel) ?_
      refine X.iload_7 (pc := 120) (by decide +kernel) ?_
      obtain ⟨x34, hv35, h⟩ := bnd1_some h
      refine X.callVl (pc := 122) (nc := 0) (ns := 0) (c_Guide_byItself hE (dle hd (Nat.le_of_ble_eq_true rfl)) hS hv35) cv_Guide_108 (by decide +kernel) hS ⟨by decide, rfl⟩ (ddd hd (Nat.le_of_ble_eq_true rfl)) rfl (Nat.le_of_ble_eq_true rfl) rfl rfl ?_
      refine X.lmul (pc := 125) (by decide +kernel) ?_
      refine X.nameL (fun x36 hx36 => ?_)
      have h := lt_at hx36 h
      refine X.lstore_10 (pc := 126) (by decide +kernel) (by decide) rfl ?_
      refine X.aload_0 (pc := 128) (by decide +kernel) ?_
      refine X.iconst (pc := 129) (i := 3) (v := 3) ic_3 (by decide +kernel) ?_
      refine X.putI (pc := 130) (k := 11) fw_Guide_38 (by decide +kernel) rfl rfl hS ?_
      refine X.nameMI (fun I37 hI37 => ?_)
      have h := lt_at hI37 h
      refine X.iload_2 (pc := 133) (by decide +kernel) ?_
      obtain ⟨z39, z40, I41, hr42, h⟩ := bnd3_some h
      have hj43 : X E y_Guide_decide b_Guide_decide 24 none tg d 0 0 324 [some (.ref (e_b E + t)), some (.int p1), some (.int p2), none, none, none, none, none, some (.long z39), none, some (.long z40), none, none, none, none, none, none, none, none, none, none, none, none, none] [] S I41 L R n (Kq none S I' L' R n) := by
        refine X.aload_0 (pc := 324) (by decide +kernel) ?_
        refine X.iload_1 (pc := 325) (by decide +kernel) ?_
        refine X.iload_2 (pc := 326) (by decide +kernel) ?_
        refine X.lload_8 (pc := 327) (by decide +kernel) ?_
        refine X.lload_10 (pc := 329) (by decide +kernel) ?_
        obtain ⟨L78, hv79, h⟩ := bnd1_some h
        refine X.callVv (pc := 331) (nc := 0) (ns := 0) (c_Guide_lay hE (dle hd (Nat.le_of_ble_eq_true rfl)) hS hv79) cv_Guide_102 (by decide +kernel) hS ⟨by decide, rfl⟩ (ddd hd (Nat.le_of_ble_eq_true rfl)) rfl (Nat.le_of_ble_eq_true rfl) rfl rfl ?_
        have j0 := Option.some.inj h
        obtain ⟨i0, j1⟩ := Prod.mk.inj j0
        subst i0
        subst j1
        exact X.vreturn (pc := 334) (by decide +kernel) rfl ⟨rfl, rfl, rfl, rfl, rfl, rfl⟩
      have h := hr42
      rcases ifb_some h with ⟨hq38, h⟩ | ⟨hq38, h⟩
      · refine X.if_le_t (pc := 134) (off := 190) (tgt := 324) hq38 rfl (by decide +kernel) ?_
        have j0 := Option.some.inj h
        obtain ⟨i0, j1⟩ := Prod.mk.inj j0
        obtain ⟨i1, j2⟩ := Prod.mk.inj j1
        subst i0
        subst i1
        subst j2
        refine X.fgt (o' := [some (.ref (e_b E + t)), some (.int p1), some (.int p2), none, none, none, none, none, some (.long x32), none, some (.long x36), none, none, none, none, none, none, none, none, none, none, none, none, none]) ⟨rfl, ⟨rfl, ⟨rfl, ⟨rfl, ⟨rfl, trivial⟩⟩⟩⟩⟩ ?_
        exact hj43
      · refine X.if_le_f (pc := 134) (off := 190) (tgt := 324) hq38 rfl (by decide +kernel) ?_
        refine X.bipush (pc := 137) (i := 10) (v := 10) bp_10 (by decide +kernel) ?_
        refine X.aload_0 (pc := 139) (by decide +kernel) ?_
        refine X.getI (pc := 140) (k := 8) fw_Guide_53 (by decide +kernel) (fun _ => rfl) hS ?_
        refine X.isub (pc := 143) (by decide +kernel) ?_
        refine X.i2l (pc := 144) (by decide +kernel) ?_
        refine X.aload_0 (pc := 145) (by decide +kernel) ?_
        refine X.aload_0 (pc := 146) (by decide +kernel) ?_
        refine X.getR (pc := 147) (k := 4) fw_Guide_22 (by decide +kernel) (fun _ => rfl) hS hb27 ?_
        refine X.iload_1 (pc := 150) (by decide +kernel) ?_
        refine X.iload_2 (pc := 151) (by decide +kernel) ?_
        refine X.iconst (pc := 152) (i := 1) (v := 1) ic_1 (by decide +kernel) ?_
        refine X.isub (pc := 153) (by decide +kernel) ?_
        obtain ⟨x44, hv45, h⟩ := bnd1_some h
        refine X.callVl (pc := 154) (nc := 0) (ns := 0) (c_Guide_byItself hE (dle hd (Nat.le_of_ble_eq_true rfl)) hS hv45) cv_Guide_108 (by decide +kernel) hS ⟨by decide, rfl⟩ (ddd hd (Nat.le_of_ble_eq_true rfl)) rfl (Nat.le_of_ble_eq_true rfl) rfl rfl ?_
        refine X.lmul (pc := 157) (by decide +kernel) ?_
        refine X.nameL (fun x46 hx46 => ?_)
        have h := lt_at hx46 h
        refine X.lstore_12 (pc := 158) (by decide +kernel) (by decide) rfl ?_
        refine X.bipush (pc := 160) (i := 10) (v := 10) bp_10 (by decide +kernel) ?_
        refine X.aload_0 (pc := 162) (by decide +kernel) ?_
        refine X.getI (pc := 163) (k := 8) fw_Guide_53 (by decide +kernel) (fun _ => rfl) hS ?_
        refine X.isub (pc := 166) (by decide +kernel) ?_
        refine X.i2l (pc := 167) (by decide +kernel) ?_
        refine X.aload_0 (pc := 168) (by decide +kernel) ?_
        refine X.aload_0 (pc := 169) (by decide +kernel) ?_
        refine X.getR (pc := 170) (k := 6) fw_Guide_28 (by decide +kernel) (fun _ => rfl) hS hb33 ?_
        refine X.iload_1 (pc := 173) (by decide +kernel) ?_
        refine X.iload_2 (pc := 174) (by decide +kernel) ?_
        refine X.iconst (pc := 175) (i := 1) (v := 1) ic_1 (by decide +kernel) ?_
        refine X.isub (pc := 176) (by decide +kernel) ?_
        obtain ⟨x47, hv48, h⟩ := bnd1_some h
        refine X.callVl (pc := 177) (nc := 0) (ns := 0) (c_Guide_byItself hE (dle hd (Nat.le_of_ble_eq_true rfl)) hS hv48) cv_Guide_108 (by decide +kernel) hS ⟨by decide, rfl⟩ (ddd hd (Nat.le_of_ble_eq_true rfl)) rfl (Nat.le_of_ble_eq_true rfl) rfl rfl ?_
        refine X.lmul (pc := 180) (by decide +kernel) ?_
        refine X.nameL (fun x49 hx49 => ?_)
        have h := lt_at hx49 h
        refine X.lstore_14 (pc := 181) (by decide +kernel) (by decide) rfl ?_
        refine X.aload_0 (pc := 183) (by decide +kernel) ?_
        refine X.getR (pc := 184) (k := 7) fw_Guide_34 (by decide +kernel) (fun _ => rfl) hS hb30 ?_
        refine X.getI (pc := 187) (k := 3) fw_Guide_112 (by decide +kernel) (fun _ => rfl) hc31 ?_
        refine X.aload_0 (pc := 190) (by decide +kernel) ?_
        refine X.getR (pc := 191) (k := 7) fw_Guide_34 (by decide +kernel) (fun _ => rfl) hS hb30 ?_
        refine X.getI (pc := 194) (k := 4) fw_Guide_115 (by decide +kernel) (fun _ => rfl) hc31 ?_
        refine X.iadd (pc := 197) (by decide +kernel) ?_
        refine X.i2l (pc := 198) (by decide +kernel) ?_
        refine X.lload_5 (pc := 199) (by decide +kernel) ?_
        refine X.lmul (pc := 201) (by decide +kernel) ?_
        refine X.nameL (fun x50 hx50 => ?_)
        have h := lt_at hx50 h
        refine X.lstore_16 (pc := 202) (by decide +kernel) (by decide) rfl ?_
        refine X.iconst (pc := 204) (i := 0) (v := 0) ic_0 (by decide +kernel) ?_
        refine X.istore_18 (pc := 205) (by decide +kernel) (by decide) rfl ?_
        obtain ⟨x74, x75, I76, hv77, h⟩ := bnd3_some h
        refine X.fgt (o' := [some (.ref (e_b E + t)), some (.int p1), some (.int p2), none, none, none, none, none, some (.long x32), none, some (.long x36), none, some (.long x46), none, some (.long x49), none, some (.long x50), none, some (.int 0), none, none, none, none, none]) ⟨rfl, ⟨rfl, ⟨rfl, ⟨rfl, ⟨rfl, ⟨rfl, ⟨rfl, ⟨rfl, ⟨rfl, trivial⟩⟩⟩⟩⟩⟩⟩⟩⟩ ?_
        refine xl_Guide_decide_207 hE hd hS hv77 ?_
        have j0 := Option.some.inj h
        obtain ⟨i0, j1⟩ := Prod.mk.inj j0
        obtain ⟨i1, j2⟩ := Prod.mk.inj j1
        subst i0
        subst i1
        subst j2
        exact hj43
    · refine X.if_eq_f (pc := 25) (off := 48) (tgt := 73) hq24 rfl (by decide +kernel) ?_
      refine X.aload_0 (pc := 28) (by decide +kernel) ?_
      refine X.getR (pc := 29) (k := 0) fw_Guide_42 (by decide +kernel) (fun _ => rfl) hS hb20 ?_
      refine X.iload_4 (pc := 32) (by decide +kernel) ?_
      obtain ⟨x80, hv81, h⟩ := bnd1_some h
      refine X.callVi (pc := 34) (nc := 0) (ns := 0) (c_Land_kindOf hE (dle hd (Nat.le_of_ble_eq_true rfl)) hc21 hv81) cv_Guide_96 (by decide +kernel) hc21 ⟨by decide, rfl⟩ (ddd hd (Nat.le_of_ble_eq_true rfl)) rfl (Nat.le_of_ble_eq_true rfl) rfl rfl ?_
      refine X.istore_7 (pc := 37) (by decide +kernel) (by decide) rfl ?_
      refine X.aload_0 (pc := 39) (by decide +kernel) ?_
      refine X.iload_1 (pc := 40) (by decide +kernel) ?_
      refine X.iload_2 (pc := 41) (by decide +kernel) ?_
      refine X.aload_0 (pc := 42) (by decide +kernel) ?_
      obtain ⟨b82, hb82, h⟩ := bnd1_some h
      refine X.getR (pc := 43) (k := 7) fw_Guide_34 (by decide +kernel) (fun _ => rfl) hS hb82 ?_
      refine X.iload_7 (pc := 46) (by decide +kernel) ?_
      refine X.iload_4 (pc := 48) (by decide +kernel) ?_
      obtain ⟨hc83, h⟩ := asrt_some h
      obtain ⟨x84, hv85, h⟩ := bnd1_some h
      refine X.callVi (pc := 50) (nc := 0) (ns := 0) (c_Fee_endsWith hE (dle hd (Nat.le_of_ble_eq_true rfl)) hc83 hv85) cv_Guide_99 (by decide +kernel) hc83 ⟨by decide, rfl⟩ (ddd hd (Nat.le_of_ble_eq_true rfl)) rfl (Nat.le_of_ble_eq_true rfl) rfl rfl ?_
      refine X.i2l (pc := 53) (by decide +kernel) ?_
      refine X.lload_5 (pc := 54) (by decide +kernel) ?_
      refine X.lmul (pc := 56) (by decide +kernel) ?_
      refine X.iload_7 (pc := 57) (by decide +kernel) ?_
      refine X.iconst (pc := 59) (i := 3) (v := 3) ic_3 (by decide +kernel) ?_
      obtain ⟨y87, hr88, h⟩ := bnd1_some h
      have hj89 : X E y_Guide_decide b_Guide_decide 24 none tg d 0 0 69 [none, none, none, none, none, none, none, none, none, none, none, none, none, none, none, none, none, none, none, none, none, none, none, none] [.long y87, .long ((Int32.toInt64 x84) * x3), .int p2, .int p1, .ref (e_b E + t)] S I L R n (Kq none S I' L' R n) := by
        obtain ⟨L90, hv91, h⟩ := bnd1_some h
        refine X.callVv (pc := 69) (nc := 0) (ns := 0) (c_Guide_lay hE (dle hd (Nat.le_of_ble_eq_true rfl)) hS hv91) cv_Guide_102 (by decide +kernel) hS ⟨by decide, rfl⟩ (ddd hd (Nat.le_of_ble_eq_true rfl)) rfl (Nat.le_of_ble_eq_true rfl) rfl rfl ?_
        have j0 := Option.some.inj h
        obtain ⟨i0, j1⟩ := Prod.mk.inj j0
        subst i0
        subst j1
        exact X.vreturn (pc := 72) (by decide +kernel) rfl ⟨rfl, rfl, rfl, rfl, rfl, rfl⟩
      have h := hr88
      rcases ifb_some h with ⟨hq86, h⟩ | ⟨hq86, h⟩
      · refine X.icmp_ne_f (pc := 60) (off := 8) (tgt := 68) hq86 rfl (by decide +kernel) ?_
        refine X.lload_5 (pc := 63) (by decide +kernel) ?_
        refine X.goto (pc := 65) (off := 4) (tgt := 69) (by decide +kernel) rfl ?_
        have j0 := Option.some.inj h
        subst j0
        refine X.fgt (o' := [none, none, none, none, none, none, none, none, none, none, none, none, none, none, none, none, none, none, none, none, none, none, none, none]) trivial ?_
        exact hj89
      · refine X.icmp_ne_t (pc := 60) (off := 8) (tgt := 68) hq86 rfl (by decide +kernel) ?_
        refine X.lconst (pc := 68) (i := 0) (v := 0) rfl (by decide +kernel) ?_
        have j0 := Option.some.inj h
        subst j0
        refine X.fgt (o' := [none, none, none, none, none, none, none, none, none, none, none, none, none, none, none, none, none, none, none, none, none, none, none, none]) trivial ?_
        exact hj89
set_option maxRecDepth 100000 in
noncomputable def l_Guide_lead_96 (g : Nat) (S : MS) (R : MR) (v0 : Nat) (v2 : Int32) (v3 : Int32) (v6 : Int32) (v7 : Int32) (v8 : Int32) (v9 : Int32) (v10 : Int32) : Nat → MI → ML → Int32 → Option (MI × ML)
  | 0, _, _, _ => none
  | f + 1, I, L, v11 =>
    ifb (v7 < v11)
      (some (I, L))
      (bnd2 (f_Guide_decide g S R I L v0 v10 v11 v6) fun I25 L26 =>
      l_Guide_lead_96 g S R v0 v2 v3 v6 v7 v8 v9 v10 f I25 L26 (v11 + 1))
set_option maxRecDepth 100000 in
set_option maxHeartbeats 4000000 in
theorem xl_Guide_lead_96 {E : Env} (hE : OKE E) {tg : Bool} {d : Nat} (hd : 3 ≤ d) {g : Nat} {S : MS} {R : MR} {n : Nat} {v0 : Nat} {v2 : Int32} {v3 : Int32} {v6 : Int32} {v7 : Int32} {v8 : Int32} {v9 : Int32} {v10 : Int32} {K : KT} :
    ∀ {f : Nat} {I : MI} {L : ML} {v11 : Int32} {I' : MI} {L' : ML}, (S v0).1 = 1 → l_Guide_lead_96 g S R v0 v2 v3 v6 v7 v8 v9 v10 f I L v11 = some (I', L') → X E y_Guide_lead b_Guide_lead 12 none tg d 0 0 119 [some (.ref (e_b E + v0)), none, some (.int v2), some (.int v3), none, none, some (.int v6), some (.int v7), some (.int v8), some (.int v9), none, none] [] S I' L' R n K → X E y_Guide_lead b_Guide_lead 12 none tg d 0 0 96 [some (.ref (e_b E + v0)), none, some (.int v2), some (.int v3), none, none, some (.int v6), some (.int v7), some (.int v8), some (.int v9), some (.int v10), some (.int v11)] [] S I L R n K := by
  intro f
  induction f with
  | zero =>
    intro I L v11 I' L' hS h hk
    rw [l_Guide_lead_96] at h
    cases h
  | succ f ih =>
    intro I L v11 I' L' hS h hk
    rw [l_Guide_lead_96] at h
    refine X.iload_11 (pc := 96) (by decide +kernel) ?_
    refine X.iload_7 (pc := 98) (by decide +kernel) ?_
    rcases ifb_some h with ⟨hq24, h⟩ | ⟨hq24, h⟩
    · refine X.icmp_gt_t (pc := 100) (off := 19) (tgt := 119) hq24 rfl (by decide +kernel) ?_
      have j0 := Option.some.inj h
      obtain ⟨i0, j1⟩ := Prod.mk.inj j0
      subst i0
      subst j1
      refine X.fgt (o' := [some (.ref (e_b E + v0)), none, some (.int v2), some (.int v3), none, none, some (.int v6), some (.int v7), some (.int v8), some (.int v9), none, none]) ⟨rfl, ⟨rfl, ⟨rfl, ⟨rfl, ⟨rfl, ⟨rfl, ⟨rfl, trivial⟩⟩⟩⟩⟩⟩⟩ ?_
      exact hk
    · refine X.icmp_gt_f (pc := 100) (off := 19) (tgt := 119) hq24 rfl (by decide +kernel) ?_
      refine X.aload_0 (pc := 103) (by decide +kernel) ?_
      refine X.iload_10 (pc := 104) (by decide +kernel) ?_
      refine X.iload_11 (pc := 106) (by decide +kernel) ?_
      refine X.iload_6 (pc := 108) (by decide +kernel) ?_
      obtain ⟨I25, L26, hv27, h⟩ := bnd2_some h
      refine X.callVv (pc := 110) (nc := 0) (ns := 0) (c_Guide_decide hE (dle hd (Nat.le_of_ble_eq_true rfl)) hS hv27) cv_Guide_79 (by decide +kernel) hS ⟨by decide, rfl⟩ (ddd hd (Nat.le_of_ble_eq_true rfl)) rfl (Nat.le_of_ble_eq_true rfl) rfl rfl ?_
      refine X.iinc_11 (pc := 113) (z := 1) (v := 1) ic_1 (by decide +kernel) (by decide) rfl ?_
      refine X.goto (pc := 116) (off := (-20)) (tgt := 96) (by decide +kernel) rfl ?_
      exact ih hS h hk
set_option maxRecDepth 100000 in
noncomputable def l_Guide_lead_75 (g : Nat) (S : MS) (R : MR) (v0 : Nat) (v2 : Int32) (v3 : Int32) (v6 : Int32) (v7 : Int32) (v8 : Int32) : Nat → MI → ML → Int32 → Option (MI × ML)
  | 0, _, _, _ => none
  | f + 1, I, L, v9 =>
    ifb (v8 ≤ v9)
      (some (I, L))
      (bnd1 (R v0 2) fun b20 =>
      asrt ((S b20).1 = 9) <|
      bnd1 (f_Spread_stanceAt S R I b20 v9) fun x22 =>
      bnd2 (l_Guide_lead_96 g S R v0 v2 v3 v6 v7 v8 v9 x22 g I L 0) fun I28 L29 =>
      l_Guide_lead_75 g S R v0 v2 v3 v6 v7 v8 f I28 L29 (v9 + 1))
set_option maxRecDepth 100000 in
set_option maxHeartbeats 4000000 in
theorem xl_Guide_lead_75 {E : Env} (hE : OKE E) {tg : Bool} {d : Nat} (hd : 3 ≤ d) {g : Nat} {S : MS} {R : MR} {n : Nat} {v0 : Nat} {v2 : Int32} {v3 : Int32} {v6 : Int32} {v7 : Int32} {v8 : Int32} {K : KT} :
    ∀ {f : Nat} {I : MI} {L : ML} {v9 : Int32} {I' : MI} {L' : ML}, (S v0).1 = 1 → l_Guide_lead_75 g S R v0 v2 v3 v6 v7 v8 f I L v9 = some (I', L') → X E y_Guide_lead b_Guide_lead 12 none tg d 0 0 125 [some (.ref (e_b E + v0)), none, some (.int v2), some (.int v3), none, none, some (.int v6), none, none, none, none, none] [] S I' L' R n K → X E y_Guide_lead b_Guide_lead 12 none tg d 0 0 75 [some (.ref (e_b E + v0)), none, some (.int v2), some (.int v3), none, none, some (.int v6), some (.int v7), some (.int v8), some (.int v9), none, none] [] S I L R n K := by
  intro f
  induction f with
  | zero =>
    intro I L v9 I' L' hS h hk
    rw [l_Guide_lead_75] at h
    cases h
  | succ f ih =>
    intro I L v9 I' L' hS h hk
    rw [l_Guide_lead_75] at h
    refine X.iload_9 (pc := 75) (by decide +kernel) ?_
    refine X.iload_8 (pc := 77) (by decide +kernel) ?_
    rcases ifb_some h with ⟨hq19, h⟩ | ⟨hq19, h⟩
    · refine X.icmp_ge_t (pc := 79) (off := 46) (tgt := 125) hq19 rfl (by decide +kernel) ?_
      have j0 := Option.some.inj h
      obtain ⟨i0, j1⟩ := Prod.mk.inj j0
      subst i0
      subst j1
      refine X.fgt (o' := [some (.ref (e_b E + v0)), none, some (.int v2), some (.int v3), none, none, some (.int v6), none, none, none, none, none]) ⟨rfl, ⟨rfl, ⟨rfl, ⟨rfl, trivial⟩⟩⟩⟩ ?_
      exact hk
    · refine X.icmp_ge_f (pc := 79) (off := 46) (tgt := 125) hq19 rfl (by decide +kernel) ?_
      refine X.aload_0 (pc := 82) (by decide +kernel) ?_
      obtain ⟨b20, hb20, h⟩ := bnd1_some h
      refine X.getR (pc := 83) (k := 2) fw_Guide_12 (by decide +kernel) (fun _ => rfl) hS hb20 ?_
      refine X.iload_9 (pc := 86) (by decide +kernel) ?_
      obtain ⟨hc21, h⟩ := asrt_some h
      obtain ⟨x22, hv23, h⟩ := bnd1_some h
      refine X.callVi (pc := 88) (nc := 0) (ns := 0) (c_Spread_stanceAt hE (dle hd (Nat.le_of_ble_eq_true rfl)) hc21 hv23) cv_Guide_76 (by decide +kernel) hc21 ⟨by decide, rfl⟩ (ddd hd (Nat.le_of_ble_eq_true rfl)) rfl (Nat.le_of_ble_eq_true rfl) rfl rfl ?_
      refine X.istore_10 (pc := 91) (by decide +kernel) (by decide) rfl ?_
      refine X.iconst (pc := 93) (i := 0) (v := 0) ic_0 (by decide +kernel) ?_
      refine X.istore_11 (pc := 94) (by decide +kernel) (by decide) rfl ?_
      obtain ⟨I28, L29, hv30, h⟩ := bnd2_some h
      refine xl_Guide_lead_96 hE hd hS hv30 ?_
      refine X.iinc_9 (pc := 119) (z := 1) (v := 1) ic_1 (by decide +kernel) (by decide) rfl ?_
      refine X.goto (pc := 122) (off := (-47)) (tgt := 75) (by decide +kernel) rfl ?_
      exact ih hS h hk
set_option maxRecDepth 100000 in
noncomputable def l_Guide_lead_41 (g : Nat) (S : MS) (v0 : Nat) (v2 : Int32) (v3 : Int32) : Nat → MI → ML → MR → Int32 → Option (MI × ML × MR)
  | 0, _, _, _, _ => none
  | f + 1, I, L, R, v6 =>
    ifb (v2 < v6)
      (some (I, L, R))
      (bnd1 (f_Guide_swapLayers S R v0) fun R11 =>
      bnd1 (f_JMath_min v3 v6) fun x13 =>
      bnd1 (R11 v0 2) fun b15 =>
      asrt ((S b15).1 = 9) <|
      bnd1 (f_Spread_within g S R11 I b15 (v2 - v6)) fun x17 =>
      bnd2 (l_Guide_lead_75 g S R11 v0 v2 v3 v6 x13 x17 g I L 0) fun I31 L32 =>
      l_Guide_lead_41 g S v0 v2 v3 f I31 L32 R11 (v6 + 1))
set_option maxRecDepth 100000 in
set_option maxHeartbeats 4000000 in
theorem xl_Guide_lead_41 {E : Env} (hE : OKE E) {tg : Bool} {d : Nat} (hd : 3 ≤ d) {g : Nat} {S : MS} {n : Nat} {v0 : Nat} {v2 : Int32} {v3 : Int32} {K : KT} :
    ∀ {f : Nat} {I : MI} {L : ML} {R : MR} {v6 : Int32} {I' : MI} {L' : ML} {R' : MR}, (S v0).1 = 1 → l_Guide_lead_41 g S v0 v2 v3 f I L R v6 = some (I', L', R') → X E y_Guide_lead b_Guide_lead 12 none tg d 0 0 131 [none, none, none, none, none, none, none, none, none, none, none, none] [] S I' L' R' n K → X E y_Guide_lead b_Guide_lead 12 none tg d 0 0 41 [some (.ref (e_b E + v0)), none, some (.int v2), some (.int v3), none, none, some (.int v6), none, none, none, none, none] [] S I L R n K := by
  intro f
  induction f with
  | zero =>
    intro I L R v6 I' L' R' hS h hk
    rw [l_Guide_lead_41] at h
    cases h
  | succ f ih =>
    intro I L R v6 I' L' R' hS h hk
    rw [l_Guide_lead_41] at h
    refine X.iload_6 (pc := 41) (by decide +kernel) ?_
    refine X.iload_2 (pc := 43) (by decide +kernel) ?_
    rcases ifb_some h with ⟨hq10, h⟩ | ⟨hq10, h⟩
    · refine X.icmp_gt_t (pc := 44) (off := 87) (tgt := 131) hq10 rfl (by decide +kernel) ?_
      have j0 := Option.some.inj h
      obtain ⟨i0, j1⟩ := Prod.mk.inj j0
      obtain ⟨i1, j2⟩ := Prod.mk.inj j1
      subst i0
      subst i1
      subst j2
      refine X.fgt (o' := [none, none, none, none, none, none, none, none, none, none, none, none]) trivial ?_
      exact hk
    · refine X.icmp_gt_f (pc := 44) (off := 87) (tgt := 131) hq10 rfl (by decide +kernel) ?_
      refine X.aload_0 (pc := 47) (by decide +kernel) ?_
      obtain ⟨R11, hv12, h⟩ := bnd1_some h
      refine X.callVv (pc := 48) (nc := 0) (ns := 0) (c_Guide_swapLayers hE (dle hd (Nat.le_of_ble_eq_true rfl)) hS hv12) cv_Guide_63 (by decide +kernel) hS ⟨by decide, rfl⟩ (ddd hd (Nat.le_of_ble_eq_true rfl)) rfl (Nat.le_of_ble_eq_true rfl) rfl rfl ?_
      refine X.iload_3 (pc := 51) (by decide +kernel) ?_
      refine X.iload_6 (pc := 52) (by decide +kernel) ?_
      obtain ⟨x13, hv14, h⟩ := bnd1_some h
      refine X.callSi (pc := 54) (nc := 0) (ns := 0) (c_JMath_min hE (dle hd (Nat.le_of_ble_eq_true rfl)) hv14) cv_Guide_66 (by decide +kernel) (ddd hd (Nat.le_of_ble_eq_true rfl)) rfl (Nat.le_of_ble_eq_true rfl) rfl rfl ?_
      refine X.istore_7 (pc := 57) (by decide +kernel) (by decide) rfl ?_
      refine X.aload_0 (pc := 59) (by decide +kernel) ?_
      obtain ⟨b15, hb15, h⟩ := bnd1_some h
      refine X.getR (pc := 60) (k := 2) fw_Guide_12 (by decide +kernel) (fun _ => rfl) hS hb15 ?_
      refine X.iload_2 (pc := 63) (by decide +kernel) ?_
      refine X.iload_6 (pc := 64) (by decide +kernel) ?_
      refine X.isub (pc := 66) (by decide +kernel) ?_
      obtain ⟨hc16, h⟩ := asrt_some h
      obtain ⟨x17, hv18, h⟩ := bnd1_some h
      refine X.callVi (pc := 67) (nc := 0) (ns := 0) (c_Spread_within hE (dle hd (Nat.le_of_ble_eq_true rfl)) hc16 hv18) cv_Guide_72 (by decide +kernel) hc16 ⟨by decide, rfl⟩ (ddd hd (Nat.le_of_ble_eq_true rfl)) rfl (Nat.le_of_ble_eq_true rfl) rfl rfl ?_
      refine X.istore_8 (pc := 70) (by decide +kernel) (by decide) rfl ?_
      refine X.iconst (pc := 72) (i := 0) (v := 0) ic_0 (by decide +kernel) ?_
      refine X.istore_9 (pc := 73) (by decide +kernel) (by decide) rfl ?_
      obtain ⟨I31, L32, hv33, h⟩ := bnd2_some h
      refine xl_Guide_lead_75 hE hd hS hv33 ?_
      refine X.iinc_6 (pc := 125) (z := 1) (v := 1) ic_1 (by decide +kernel) (by decide) rfl ?_
      refine X.goto (pc := 128) (off := (-87)) (tgt := 41) (by decide +kernel) rfl ?_
      exact ih hS h hk
set_option maxRecDepth 100000 in
noncomputable def f_Guide_lead (g : Nat) (S : MS) (R : MR) (I : MI) (L : ML) (t : Nat) (p1 : Nat) (p2 : Int32) (p3 : Int32) (p4 : Int32) (p5 : Int32) : Option (MI × ML × MR) :=
  lt (wR R t 7 (some p1)) fun (R1 : MR) =>
  lt (wI I t 9 p2) fun (I2 : MI) =>
  lt (wI I2 t 8 p4) fun (I3 : MI) =>
  lt (wI I3 t 10 p5) fun (I4 : MI) =>
  bnd1 (R1 t 2) fun b5 =>
  bnd1 (R1 t 0) fun b6 =>
  asrt ((S b5).1 = 9) <|
  bnd1 (f_Spread_from g S R1 I4 b5 b6 p5 p2 7) fun I8 =>
  bnd3 (l_Guide_lead_41 g S t p2 p3 g I8 L R1 0) fun I34 L35 R36 =>
  some (I34, L35, R36)
set_option maxRecDepth 100000 in
set_option maxHeartbeats 4000000 in
theorem c_Guide_lead {E : Env} (hE : OKE E) {tg : Bool} {d : Nat} (hd : 3 ≤ d) {g : Nat} {S : MS} {I : MI} {L : ML} {R : MR} {n : Nat} {t : Nat} {p1 : Nat} {p2 : Int32} {p3 : Int32} {p4 : Int32} {p5 : Int32} {I' : MI} {L' : ML} {R' : MR} (hS : (S t).1 = 1) (h : f_Guide_lead g S R I L t p1 p2 p3 p4 p5 = some (I', L', R')) : C E y_Guide_lead b_Guide_lead 12 none tg d 0 0 [.ref (e_b E + t), .ref (e_b E + p1), .int p2, .int p3, .int p4, .int p5] S I L R n (Kq none S I' L' R' n) := by
  refine C.of (o := [some (.ref (e_b E + t)), some (.ref (e_b E + p1)), some (.int p2), some (.int p3), some (.int p4), some (.int p5), none, none, none, none, none, none]) (by decide) rfl (Nat.le_of_ble_eq_true rfl) ?_
  rw [f_Guide_lead] at h
  refine X.aload_0 (pc := 0) (by decide +kernel) ?_
  refine X.aload_1 (pc := 1) (by decide +kernel) ?_
  refine X.putR (pc := 2) (k := 7) fw_Guide_34 (by decide +kernel) (Or.inl ⟨_, rfl⟩) hS (Or.inl rfl) ?_
  refine X.nameMR (fun R1 hR1 => ?_)
  have h := lt_at hR1 h
  refine X.aload_0 (pc := 5) (by decide +kernel) ?_
  refine X.iload_2 (pc := 6) (by decide +kernel) ?_
  refine X.putI (pc := 7) (k := 9) fw_Guide_50 (by decide +kernel) rfl rfl hS ?_
  refine X.nameMI (fun I2 hI2 => ?_)
  have h := lt_at hI2 h
  refine X.aload_0 (pc := 10) (by decide +kernel) ?_
  refine X.iload_4 (pc := 11) (by decide +kernel) ?_
  refine X.putI (pc := 13) (k := 8) fw_Guide_53 (by decide +kernel) rfl rfl hS ?_
  refine X.nameMI (fun I3 hI3 => ?_)
  have h := lt_at hI3 h
  refine X.aload_0 (pc := 16) (by decide +kernel) ?_
  refine X.iload_5 (pc := 17) (by decide +kernel) ?_
  refine X.putI (pc := 19) (k := 10) fw_Guide_56 (by decide +kernel) rfl rfl hS ?_
  refine X.nameMI (fun I4 hI4 => ?_)
  have h := lt_at hI4 h
  refine X.aload_0 (pc := 22) (by decide +kernel) ?_
  obtain ⟨b5, hb5, h⟩ := bnd1_some h
  refine X.getR (pc := 23) (k := 2) fw_Guide_12 (by decide +kernel) (fun _ => rfl) hS hb5 ?_
  refine X.aload_0 (pc := 26) (by decide +kernel) ?_
  obtain ⟨b6, hb6, h⟩ := bnd1_some h
  refine X.getR (pc := 27) (k := 0) fw_Guide_42 (by decide +kernel) (fun _ => rfl) hS hb6 ?_
  refine X.iload_5 (pc := 30) (by decide +kernel) ?_
  refine X.iload_2 (pc := 32) (by decide +kernel) ?_
  refine X.bipush (pc := 33) (i := 7) (v := 7) bp_7 (by decide +kernel) ?_
  obtain ⟨hc7, h⟩ := asrt_some h
  obtain ⟨I8, hv9, h⟩ := bnd1_some h
  refine X.callVv (pc := 35) (nc := 0) (ns := 0) (c_Spread_from hE (dle hd (Nat.le_of_ble_eq_true rfl)) hc7 hv9) cv_Guide_59 (by decide +kernel) hc7 ⟨by decide, rfl⟩ (ddd hd (Nat.le_of_ble_eq_true rfl)) rfl (Nat.le_of_ble_eq_true rfl) rfl rfl ?_
  refine X.iconst (pc := 38) (i := 0) (v := 0) ic_0 (by decide +kernel) ?_
  refine X.istore_6 (pc := 39) (by decide +kernel) (by decide) rfl ?_
  obtain ⟨I34, L35, R36, hv37, h⟩ := bnd3_some h
  refine X.fgt (o' := [some (.ref (e_b E + t)), none, some (.int p2), some (.int p3), none, none, some (.int 0), none, none, none, none, none]) ⟨rfl, ⟨rfl, ⟨rfl, ⟨rfl, trivial⟩⟩⟩⟩ ?_
  refine xl_Guide_lead_41 hE hd hS hv37 ?_
  have j0 := Option.some.inj h
  obtain ⟨i0, j1⟩ := Prod.mk.inj j0
  obtain ⟨i1, j2⟩ := Prod.mk.inj j1
  subst i0
  subst i1
  subst j2
  exact X.vreturn (pc := 131) (by decide +kernel) rfl ⟨rfl, rfl, rfl, rfl, rfl, rfl⟩
set_option maxRecDepth 100000 in
noncomputable def f_Guide_luckOf (S : MS) (R : MR) (I : MI) (L : ML) (t : Nat) (p1 : Int32) : Option Int64 :=
  bnd1 (R t 5) fun b1 =>
  bnd1 (f_JMath_min p1 (I t 9)) fun x2 =>
  bnd1 (f_Guide_laidAt S L b1 (I t 10) x2) fun x4 =>
  some x4
set_option maxRecDepth 100000 in
set_option maxHeartbeats 4000000 in
theorem c_Guide_luckOf {E : Env} (hE : OKE E) {tg : Bool} {d : Nat} (hd : 1 ≤ d) {S : MS} {I : MI} {L : ML} {R : MR} {n : Nat} {t : Nat} {p1 : Int32} {v : Int64} (hS : (S t).1 = 1) (h : f_Guide_luckOf S R I L t p1 = some v) : C E y_Guide_luckOf b_Guide_luckOf 2 (some .long) tg d 0 0 [.ref (e_b E + t), .int p1] S I L R n (Kq (some (.long v)) S I L R n) := by
  refine C.of (o := [some (.ref (e_b E + t)), some (.int p1)]) (by decide) rfl (Nat.le_of_ble_eq_true rfl) ?_
  rw [f_Guide_luckOf] at h
  refine X.aload_0 (pc := 0) (by decide +kernel) ?_
  obtain ⟨b1, hb1, h⟩ := bnd1_some h
  refine X.getR (pc := 1) (k := 5) fw_Guide_25 (by decide +kernel) (fun _ => rfl) hS hb1 ?_
  refine X.aload_0 (pc := 4) (by decide +kernel) ?_
  refine X.getI (pc := 5) (k := 10) fw_Guide_56 (by decide +kernel) (fun _ => rfl) hS ?_
  refine X.iload_1 (pc := 8) (by decide +kernel) ?_
  refine X.aload_0 (pc := 9) (by decide +kernel) ?_
  refine X.getI (pc := 10) (k := 9) fw_Guide_50 (by decide +kernel) (fun _ => rfl) hS ?_
  obtain ⟨x2, hv3, h⟩ := bnd1_some h
  refine X.callSi (pc := 13) (nc := 0) (ns := 0) (c_JMath_min hE (dle hd (Nat.le_of_ble_eq_true rfl)) hv3) cv_Guide_66 (by decide +kernel) (ddd hd (Nat.le_of_ble_eq_true rfl)) rfl (Nat.le_of_ble_eq_true rfl) rfl rfl ?_
  obtain ⟨x4, hv5, h⟩ := bnd1_some h
  refine X.callSl (pc := 16) (nc := 0) (ns := 0) (c_Guide_laidAt hE (dle hd (Nat.le_of_ble_eq_true rfl)) hv5) cv_Guide_121 (by decide +kernel) (ddd hd (Nat.le_of_ble_eq_true rfl)) rfl (Nat.le_of_ble_eq_true rfl) rfl rfl ?_
  have j0 := Option.some.inj h
  subst j0
  exact X.lreturn (pc := 19) (by decide +kernel) rfl ⟨rfl, rfl, rfl, rfl, rfl, rfl⟩
set_option maxRecDepth 100000 in
noncomputable def l_Numbers_commonDivisor_9 : Nat → Int64 → Int64 → Int32 → Option Int64
  | 0, _, _, _ => none
  | f + 1, v4, v6, v8 =>
    ifb ((lg_cmp v6 0) = 0)
      (some v4)
      (ifb (200 ≤ v8)
        (some v4)
        (asrt (¬ v6 = 0) <|
        lt (lrm v4 v6) fun (x4 : Int64) =>
        l_Numbers_commonDivisor_9 f v6 x4 (v8 + 1)))
set_option maxRecDepth 100000 in
set_option maxHeartbeats 4000000 in
theorem xl_Numbers_commonDivisor_9 {E : Env} (hE : OKE E) {tg : Bool} {d : Nat} (hd : 0 ≤ d) {S : MS} {I : MI} {L : ML} {R : MR} {n : Nat} {K : KT} :
    ∀ {f : Nat}  {v4 : Int64} {v6 : Int64} {v8 : Int32} {o4 : Int64}, l_Numbers_commonDivisor_9 f v4 v6 v8 = some o4 → X E y_Numbers_commonDivisor b_Numbers_commonDivisor 11 (some .long) tg d 0 0 45 [none, none, none, none, some (.long o4), none, none, none, none, none, none] [] S I L R n K → X E y_Numbers_commonDivisor b_Numbers_commonDivisor 11 (some .long) tg d 0 0 9 [none, none, none, none, some (.long v4), none, some (.long v6), none, some (.int v8), none, none] [] S I L R n K := by
  intro f
  induction f with
  | zero =>
    intro v4 v6 v8 o4 h hk
    rw [l_Numbers_commonDivisor_9] at h
    cases h
  | succ f ih =>
    intro v4 v6 v8 o4 h hk
    rw [l_Numbers_commonDivisor_9] at h
    refine X.lload_6 (pc := 9) (by decide +kernel) ?_
    refine X.lconst (pc := 11) (i := 0) (v := 0) rfl (by decide +kernel) ?_
    refine X.lcmp (pc := 12) (by decide +kernel) ?_
    rcases ifb_some h with ⟨hq1, h⟩ | ⟨hq1, h⟩
    · refine X.if_eq_t (pc := 13) (off := 32) (tgt := 45) hq1 rfl (by decide +kernel) ?_
      have j0 := Option.some.inj h
      subst j0
      refine X.fgt (o' := [none, none, none, none, some (.long v4), none, none, none, none, none, none]) ⟨rfl, trivial⟩ ?_
      exact hk
    · refine X.if_eq_f (pc := 13) (off := 32) (tgt := 45) hq1 rfl (by decide +kernel) ?_
      refine X.iload_8 (pc := 16) (by decide +kernel) ?_
      refine X.sipush (pc := 18) (i := 200) (v := 200) sp_200 (by decide +kernel) ?_
      rcases ifb_some h with ⟨hq2, h⟩ | ⟨hq2, h⟩
      · refine X.icmp_ge_t (pc := 21) (off := 24) (tgt := 45) hq2 rfl (by decide +kernel) ?_
        have j0 := Option.some.inj h
        subst j0
        refine X.fgt (o' := [none, none, none, none, some (.long v4), none, none, none, none, none, none]) ⟨rfl, trivial⟩ ?_
        exact hk
      · refine X.icmp_ge_f (pc := 21) (off := 24) (tgt := 45) hq2 rfl (by decide +kernel) ?_
        refine X.lload_4 (pc := 24) (by decide +kernel) ?_
        refine X.lload_6 (pc := 26) (by decide +kernel) ?_
        obtain ⟨hz3, h⟩ := asrt_some h
        refine X.lrem (pc := 28) hz3 (by decide +kernel) ?_
        refine X.nameL (fun x4 hx4 => ?_)
        have h := lt_at hx4 h
        refine X.lstore_9 (pc := 29) (by decide +kernel) (by decide) rfl ?_
        refine X.lload_6 (pc := 31) (by decide +kernel) ?_
        refine X.lstore_4 (pc := 33) (by decide +kernel) (by decide) rfl ?_
        refine X.lload_9 (pc := 35) (by decide +kernel) ?_
        refine X.lstore_6 (pc := 37) (by decide +kernel) (by decide) rfl ?_
        refine X.iinc_8 (pc := 39) (z := 1) (v := 1) ic_1 (by decide +kernel) (by decide) rfl ?_
        refine X.goto (pc := 42) (off := (-33)) (tgt := 9) (by decide +kernel) rfl ?_
        refine X.fgt (o' := [none, none, none, none, some (.long v6), none, some (.long x4), none, some (.int (v8 + 1)), none, none]) ⟨rfl, ⟨rfl, ⟨rfl, trivial⟩⟩⟩ ?_
        exact ih h hk
set_option maxRecDepth 100000 in
noncomputable def f_Numbers_commonDivisor (g : Nat) (p1 : Int64) (p2 : Int64) : Option Int64 :=
  bnd1 (l_Numbers_commonDivisor_9 g p1 p2 0) fun x5 =>
  some x5
set_option maxRecDepth 100000 in
set_option maxHeartbeats 4000000 in
theorem c_Numbers_commonDivisor {E : Env} (hE : OKE E) {tg : Bool} {d : Nat} (hd : 0 ≤ d) {g : Nat} {S : MS} {I : MI} {L : ML} {R : MR} {n : Nat} {p1 : Int64} {p2 : Int64} {v : Int64} (h : f_Numbers_commonDivisor g p1 p2 = some v) : C E y_Numbers_commonDivisor b_Numbers_commonDivisor 11 (some .long) tg d 0 0 [.long p1, .long p2] S I L R n (Kq (some (.long v)) S I L R n) := by
  refine C.of (o := [some (.long p1), none, some (.long p2), none, none, none, none, none, none, none, none]) (by decide) rfl (Nat.le_of_ble_eq_true rfl) ?_
  rw [f_Numbers_commonDivisor] at h
  refine X.lload_0 (pc := 0) (by decide +kernel) ?_
  refine X.lstore_4 (pc := 1) (by decide +kernel) (by decide) rfl ?_
  refine X.lload_2 (pc := 3) (by decide +kernel) ?_
  refine X.lstore_6 (pc := 4) (by decide +kernel) (by decide) rfl ?_
  refine X.iconst (pc := 6) (i := 0) (v := 0) ic_0 (by decide +kernel) ?_
  refine X.istore_8 (pc := 7) (by decide +kernel) (by decide) rfl ?_
  obtain ⟨x5, hv6, h⟩ := bnd1_some h
  refine X.fgt (o' := [none, none, none, none, some (.long p1), none, some (.long p2), none, some (.int 0), none, none]) ⟨rfl, ⟨rfl, ⟨rfl, trivial⟩⟩⟩ ?_
  refine xl_Numbers_commonDivisor_9 hE hd hv6 ?_
  refine X.lload_4 (pc := 45) (by decide +kernel) ?_
  have j0 := Option.some.inj h
  subst j0
  exact X.lreturn (pc := 47) (by decide +kernel) rfl ⟨rfl, rfl, rfl, rfl, rfl, rfl⟩
set_option maxRecDepth 100000 in
noncomputable def f_Numbers_addFraction (g : Nat) (S : MS) (R : MR) (I : MI) (L : ML) (t : Nat) (p1 : Int64) (p2 : Int64) : Option (MI × ML) :=
  bnd1 (ifb (0 ≤ (lg_cmp p1 0))
      (some p1)
      (some (-p1))) fun (y2 : Int64) =>
  bnd1 (f_Numbers_commonDivisor g y2 p2) fun x5 =>
  bnd2 (ifb ((lg_cmp x5 0) ≤ 0)
      (some (I, L))
      (asrt (¬ x5 = 0) <|
      bnd2 (f_Numbers_add S R I L t (p1 / x5)) fun I13 L14 =>
      asrt (¬ x5 = 0) <|
      bnd2 (f_Numbers_add S R I13 L14 t (p2 / x5)) fun I17 L18 =>
      some (I17, L18))) fun (I8 : MI) (L9 : ML) =>
  some (I8, L9)
set_option maxRecDepth 100000 in
set_option maxHeartbeats 4000000 in
theorem c_Numbers_addFraction {E : Env} (hE : OKE E) {tg : Bool} {d : Nat} (hd : 1 ≤ d) {g : Nat} {S : MS} {I : MI} {L : ML} {R : MR} {n : Nat} {t : Nat} {p1 : Int64} {p2 : Int64} {I' : MI} {L' : ML} (hS : (S t).1 = 4) (h : f_Numbers_addFraction g S R I L t p1 p2 = some (I', L')) : C E y_Numbers_addFraction b_Numbers_addFraction 7 none tg d 0 0 [.ref (e_b E + t), .long p1, .long p2] S I L R n (Kq none S I' L' R n) := by
  refine C.of (o := [some (.ref (e_b E + t)), some (.long p1), none, some (.long p2), none, none, none]) (by decide) rfl (Nat.le_of_ble_eq_true rfl) ?_
  rw [f_Numbers_addFraction] at h
  refine X.lload_1 (pc := 0) (by decide +kernel) ?_
  refine X.lconst (pc := 1) (i := 0) (v := 0) rfl (by decide +kernel) ?_
  refine X.lcmp (pc := 2) (by decide +kernel) ?_
  obtain ⟨y2, hr3, h⟩ := bnd1_some h
  have hj4 : X E y_Numbers_addFraction b_Numbers_addFraction 7 none tg d 0 0 12 [some (.ref (e_b E + t)), some (.long p1), none, some (.long p2), none, none, none] [.long y2] S I L R n (Kq none S I' L' R n) := by
    refine X.lload_3 (pc := 12) (by decide +kernel) ?_
    obtain ⟨x5, hv6, h⟩ := bnd1_some h
    refine X.callSl (pc := 13) (nc := 0) (ns := 0) (c_Numbers_commonDivisor hE (dle hd (Nat.le_of_ble_eq_true rfl)) hv6) cv_Numbers_19 (by decide +kernel) (ddd hd (Nat.le_of_ble_eq_true rfl)) rfl (Nat.le_of_ble_eq_true rfl) rfl rfl ?_
    refine X.lstore_5 (pc := 16) (by decide +kernel) (by decide) rfl ?_
    refine X.lload_5 (pc := 18) (by decide +kernel) ?_
    refine X.lconst (pc := 20) (i := 0) (v := 0) rfl (by decide +kernel) ?_
    refine X.lcmp (pc := 21) (by decide +kernel) ?_
    obtain ⟨I8, L9, hr10, h⟩ := bnd2_some h
    have hj11 : X E y_Numbers_addFraction b_Numbers_addFraction 7 none tg d 0 0 41 [none, none, none, none, none, none, none] [] S I8 L9 R n (Kq none S I' L' R n) := by
      have j0 := Option.some.inj h
      obtain ⟨i0, j1⟩ := Prod.mk.inj j0
      subst i0
      subst j1
      exact X.vreturn (pc := 41) (by decide +kernel) rfl ⟨rfl, rfl, rfl, rfl, rfl, rfl⟩
    have h := hr10
    rcases ifb_some h with ⟨hq7, h⟩ | ⟨hq7, h⟩
    · refine X.if_le_t (pc := 22) (off := 19) (tgt := 41) hq7 rfl (by decide +kernel) ?_
      have j0 := Option.some.inj h
      obtain ⟨i0, j1⟩ := Prod.mk.inj j0
      subst i0
      subst j1
      refine X.fgt (o' := [none, none, none, none, none, none, none]) trivial ?_
      exact hj11
    · refine X.if_le_f (pc := 22) (off := 19) (tgt := 41) hq7 rfl (by decide +kernel) ?_
      refine X.aload_0 (pc := 25) (by decide +kernel) ?_
      refine X.lload_1 (pc := 26) (by decide +kernel) ?_
      refine X.lload_5 (pc := 27) (by decide +kernel) ?_
      obtain ⟨hz12, h⟩ := asrt_some h
      refine X.ldiv (pc := 29) hz12 (by decide +kernel) ?_
      obtain ⟨I13, L14, hv15, h⟩ := bnd2_some h
      refine X.callVv (pc := 30) (nc := 0) (ns := 0) (c_Numbers_add hE (dle hd (Nat.le_of_ble_eq_true rfl)) hS hv15) cv_Numbers_23 (by decide +kernel) hS ⟨by decide, rfl⟩ (ddd hd (Nat.le_of_ble_eq_true rfl)) rfl (Nat.le_of_ble_eq_true rfl) rfl rfl ?_
      refine X.aload_0 (pc := 33) (by decide +kernel) ?_
      refine X.lload_3 (pc := 34) (by decide +kernel) ?_
      refine X.lload_5 (pc := 35) (by decide +kernel) ?_
      obtain ⟨hz16, h⟩ := asrt_some h
      refine X.ldiv (pc := 37) hz16 (by decide +kernel) ?_
      obtain ⟨I17, L18, hv19, h⟩ := bnd2_some h
      refine X.callVv (pc := 38) (nc := 0) (ns := 0) (c_Numbers_add hE (dle hd (Nat.le_of_ble_eq_true rfl)) hS hv19) cv_Numbers_23 (by decide +kernel) hS ⟨by decide, rfl⟩ (ddd hd (Nat.le_of_ble_eq_true rfl)) rfl (Nat.le_of_ble_eq_true rfl) rfl rfl ?_
      have j0 := Option.some.inj h
      obtain ⟨i0, j1⟩ := Prod.mk.inj j0
      subst i0
      subst j1
      refine X.fgt (o' := [none, none, none, none, none, none, none]) trivial ?_
      exact hj11
  have h := hr3
  rcases ifb_some h with ⟨hq1, h⟩ | ⟨hq1, h⟩
  · refine X.if_ge_t (pc := 3) (off := 8) (tgt := 11) hq1 rfl (by decide +kernel) ?_
    refine X.lload_1 (pc := 11) (by decide +kernel) ?_
    have j0 := Option.some.inj h
    subst j0
    exact hj4
  · refine X.if_ge_f (pc := 3) (off := 8) (tgt := 11) hq1 rfl (by decide +kernel) ?_
    refine X.lload_1 (pc := 6) (by decide +kernel) ?_
    refine X.lneg (pc := 7) (by decide +kernel) ?_
    refine X.goto (pc := 8) (off := 4) (tgt := 12) (by decide +kernel) rfl ?_
    have j0 := Option.some.inj h
    subst j0
    exact hj4
set_option maxRecDepth 100000 in
noncomputable def f_Guide_payOf (S : MS) (R : MR) (I : MI) (L : ML) (t : Nat) (p1 : Int32) : Option Int64 :=
  bnd1 (R t 3) fun b1 =>
  bnd1 (f_JMath_min p1 (I t 9)) fun x2 =>
  bnd1 (f_Guide_laidAt S L b1 (I t 10) x2) fun x4 =>
  some x4
set_option maxRecDepth 100000 in
set_option maxHeartbeats 4000000 in
theorem c_Guide_payOf {E : Env} (hE : OKE E) {tg : Bool} {d : Nat} (hd : 1 ≤ d) {S : MS} {I : MI} {L : ML} {R : MR} {n : Nat} {t : Nat} {p1 : Int32} {v : Int64} (hS : (S t).1 = 1) (h : f_Guide_payOf S R I L t p1 = some v) : C E y_Guide_payOf b_Guide_payOf 2 (some .long) tg d 0 0 [.ref (e_b E + t), .int p1] S I L R n (Kq (some (.long v)) S I L R n) := by
  refine C.of (o := [some (.ref (e_b E + t)), some (.int p1)]) (by decide) rfl (Nat.le_of_ble_eq_true rfl) ?_
  rw [f_Guide_payOf] at h
  refine X.aload_0 (pc := 0) (by decide +kernel) ?_
  obtain ⟨b1, hb1, h⟩ := bnd1_some h
  refine X.getR (pc := 1) (k := 3) fw_Guide_18 (by decide +kernel) (fun _ => rfl) hS hb1 ?_
  refine X.aload_0 (pc := 4) (by decide +kernel) ?_
  refine X.getI (pc := 5) (k := 10) fw_Guide_56 (by decide +kernel) (fun _ => rfl) hS ?_
  refine X.iload_1 (pc := 8) (by decide +kernel) ?_
  refine X.aload_0 (pc := 9) (by decide +kernel) ?_
  refine X.getI (pc := 10) (k := 9) fw_Guide_50 (by decide +kernel) (fun _ => rfl) hS ?_
  obtain ⟨x2, hv3, h⟩ := bnd1_some h
  refine X.callSi (pc := 13) (nc := 0) (ns := 0) (c_JMath_min hE (dle hd (Nat.le_of_ble_eq_true rfl)) hv3) cv_Guide_66 (by decide +kernel) (ddd hd (Nat.le_of_ble_eq_true rfl)) rfl (Nat.le_of_ble_eq_true rfl) rfl rfl ?_
  obtain ⟨x4, hv5, h⟩ := bnd1_some h
  refine X.callSl (pc := 16) (nc := 0) (ns := 0) (c_Guide_laidAt hE (dle hd (Nat.le_of_ble_eq_true rfl)) hv5) cv_Guide_121 (by decide +kernel) (ddd hd (Nat.le_of_ble_eq_true rfl)) rfl (Nat.le_of_ble_eq_true rfl) rfl rfl ?_
  have j0 := Option.some.inj h
  subst j0
  exact X.lreturn (pc := 19) (by decide +kernel) rfl ⟨rfl, rfl, rfl, rfl, rfl, rfl⟩
set_option maxRecDepth 100000 in
noncomputable def f_GWL_never (g : Nat) (S : MS) (R : MR) (I : MI) (L : ML) (t : Nat) (p1 : Int32) : Option (Int32 × MI × ML × MR) :=
  bnd1 (f_GWL_isLength p1 8) fun x1 =>
  ifb (x1 = 0)
    (some ((-1), I, L, R))
    (bnd1 (R t 9) fun b4 =>
    asrt ((S b4).1 = 0) <|
    bnd1 (f_Fee_want S I b4 0 0 1 0) fun I6 =>
    bnd1 (R t 14) fun b8 =>
    bnd1 (R t 3) fun b9 =>
    asrt ((S b9).1 = 5) <|
    bnd1 (f_Party_stance S I6 b9) fun x11 =>
    asrt ((S b8).1 = 1) <|
    bnd3 (f_Guide_lead g S R I6 L b8 b4 p1 0 (I6 t 6) x11) fun I14 L15 R16 =>
    bnd1 (R16 t 1) fun b18 =>
    asrt ((S b18).1 = 4) <|
    bnd1 (f_Numbers_begin S I14 b18) fun I20 =>
    bnd1 (R16 t 14) fun b22 =>
    asrt ((S b22).1 = 1) <|
    bnd1 (f_Guide_luckOf S R16 I20 L15 b22 0) fun x24 =>
    bnd1 (f_GWL_hundreds p1) fun x26 =>
    bnd2 (f_Numbers_addFraction g S R16 I20 L15 b18 x24 x26) fun I28 L29 =>
    bnd1 (f_Guide_payOf S R16 I28 L29 b22 0) fun x31 =>
    bnd1 (f_GWL_hundreds p1) fun x33 =>
    bnd2 (f_Numbers_addFraction g S R16 I28 L29 b18 x31 x33) fun I35 L36 =>
    some (0, I35, L36, R16))
set_option maxRecDepth 100000 in
set_option maxHeartbeats 4000000 in
theorem c_GWL_never {E : Env} (hE : OKE E) {tg : Bool} {d : Nat} (hd : 4 ≤ d) {g : Nat} {S : MS} {I : MI} {L : ML} {R : MR} {n : Nat} {t : Nat} {p1 : Int32} {v : Int32} {I' : MI} {L' : ML} {R' : MR} (hS : (S t).1 = 11) (h : f_GWL_never g S R I L t p1 = some (v, I', L', R')) : C E y_GWL_never b_GWL_never 2 (some .int) tg d 0 0 [.ref (e_b E + t), .int p1] S I L R n (Kq (some (.int v)) S I' L' R' n) := by
  refine C.of (o := [some (.ref (e_b E + t)), some (.int p1)]) (by decide) rfl (Nat.le_of_ble_eq_true rfl) ?_
  rw [f_GWL_never] at h
  refine X.iload_1 (pc := 0) (by decide +kernel) ?_
  refine X.bipush (pc := 1) (i := 8) (v := 8) bp_8 (by decide +kernel) ?_
  obtain ⟨x1, hv2, h⟩ := bnd1_some h
  refine X.callSi (pc := 3) (nc := 0) (ns := 0) (c_GWL_isLength hE (dle hd (Nat.le_of_ble_eq_true rfl)) hv2) cv_GWL_271 (by decide +kernel) (ddd hd (Nat.le_of_ble_eq_true rfl)) rfl (Nat.le_of_ble_eq_true rfl) rfl rfl ?_
  rcases ifb_some h with ⟨hq3, h⟩ | ⟨hq3, h⟩
  · refine X.if_ne_f (pc := 6) (off := 5) (tgt := 11) hq3 rfl (by decide +kernel) ?_
    refine X.iconst (pc := 9) (i := (-1)) (v := (-1)) ic_m1 (by decide +kernel) ?_
    have j0 := Option.some.inj h
    obtain ⟨i0, j1⟩ := Prod.mk.inj j0
    obtain ⟨i1, j2⟩ := Prod.mk.inj j1
    obtain ⟨i2, j3⟩ := Prod.mk.inj j2
    subst i0
    subst i1
    subst i2
    subst j3
    exact X.ireturn (pc := 10) (by decide +kernel) ⟨_, rfl, rfl⟩ ⟨rfl, rfl, rfl, rfl, rfl, rfl⟩
  · refine X.if_ne_t (pc := 6) (off := 5) (tgt := 11) hq3 rfl (by decide +kernel) ?_
    refine X.aload_0 (pc := 11) (by decide +kernel) ?_
    obtain ⟨b4, hb4, h⟩ := bnd1_some h
    refine X.getR (pc := 12) (k := 9) fw_GWL_44 (by decide +kernel) (fun _ => rfl) hS hb4 ?_
    refine X.iconst (pc := 15) (i := 0) (v := 0) ic_0 (by decide +kernel) ?_
    refine X.iconst (pc := 16) (i := 0) (v := 0) ic_0 (by decide +kernel) ?_
    refine X.iconst (pc := 17) (i := 1) (v := 1) ic_1 (by decide +kernel) ?_
    refine X.iconst (pc := 18) (i := 0) (v := 0) ic_0 (by decide +kernel) ?_
    obtain ⟨hc5, h⟩ := asrt_some h
    obtain ⟨I6, hv7, h⟩ := bnd1_some h
    refine X.callVv (pc := 19) (nc := 0) (ns := 0) (c_Fee_want hE (dle hd (Nat.le_of_ble_eq_true rfl)) hc5 hv7) cv_GWL_275 (by decide +kernel) hc5 ⟨by decide, rfl⟩ (ddd hd (Nat.le_of_ble_eq_true rfl)) rfl (Nat.le_of_ble_eq_true rfl) rfl rfl ?_
    refine X.aload_0 (pc := 22) (by decide +kernel) ?_
    obtain ⟨b8, hb8, h⟩ := bnd1_some h
    refine X.getR (pc := 23) (k := 14) fw_GWL_99 (by decide +kernel) (fun _ => rfl) hS hb8 ?_
    refine X.aload_0 (pc := 26) (by decide +kernel) ?_
    refine X.getR (pc := 27) (k := 9) fw_GWL_44 (by decide +kernel) (fun _ => rfl) hS hb4 ?_
    refine X.iload_1 (pc := 30) (by decide +kernel) ?_
    refine X.iconst (pc := 31) (i := 0) (v := 0) ic_0 (by decide +kernel) ?_
    refine X.aload_0 (pc := 32) (by decide +kernel) ?_
    refine X.getI (pc := 33) (k := 6) fw_GWL_30 (by decide +kernel) (fun _ => rfl) hS ?_
    refine X.aload_0 (pc := 36) (by decide +kernel) ?_
    obtain ⟨b9, hb9, h⟩ := bnd1_some h
    refine X.getR (pc := 37) (k := 3) fw_GWL_87 (by decide +kernel) (fun _ => rfl) hS hb9 ?_
    obtain ⟨hc10, h⟩ := asrt_some h
    obtain ⟨x11, hv12, h⟩ := bnd1_some h
    refine X.callVi (pc := 40) (nc := 0) (ns := 0) (c_Party_stance hE (dle hd (Nat.le_of_ble_eq_true rfl)) hc10 hv12) cv_GWL_228 (by decide +kernel) hc10 ⟨by decide, rfl⟩ (ddd hd (Nat.le_of_ble_eq_true rfl)) rfl (Nat.le_of_ble_eq_true rfl) rfl rfl ?_
    obtain ⟨hc13, h⟩ := asrt_some h
    obtain ⟨I14, L15, R16, hv17, h⟩ := bnd3_some h
    refine X.callVv (pc := 43) (nc := 0) (ns := 0) (c_Guide_lead hE (dle hd (Nat.le_of_ble_eq_true rfl)) hc13 hv17) cv_GWL_279 (by decide +kernel) hc13 ⟨by decide, rfl⟩ (ddd hd (Nat.le_of_ble_eq_true rfl)) rfl (Nat.le_of_ble_eq_true rfl) rfl rfl ?_
    refine X.aload_0 (pc := 46) (by decide +kernel) ?_
    obtain ⟨b18, hb18, h⟩ := bnd1_some h
    refine X.getR (pc := 47) (k := 1) fw_GWL_19 (by decide +kernel) (fun _ => rfl) hS hb18 ?_
    obtain ⟨hc19, h⟩ := asrt_some h
    obtain ⟨I20, hv21, h⟩ := bnd1_some h
    refine X.callVv (pc := 50) (nc := 0) (ns := 0) (c_Numbers_begin hE (dle hd (Nat.le_of_ble_eq_true rfl)) hc19 hv21) cv_GWL_207 (by decide +kernel) hc19 ⟨by decide, rfl⟩ (ddd hd (Nat.le_of_ble_eq_true rfl)) rfl (Nat.le_of_ble_eq_true rfl) rfl rfl ?_
    refine X.aload_0 (pc := 53) (by decide +kernel) ?_
    refine X.getR (pc := 54) (k := 1) fw_GWL_19 (by decide +kernel) (fun _ => rfl) hS hb18 ?_
    refine X.aload_0 (pc := 57) (by decide +kernel) ?_
    obtain ⟨b22, hb22, h⟩ := bnd1_some h
    refine X.getR (pc := 58) (k := 14) fw_GWL_99 (by decide +kernel) (fun _ => rfl) hS hb22 ?_
    refine X.iconst (pc := 61) (i := 0) (v := 0) ic_0 (by decide +kernel) ?_
    obtain ⟨hc23, h⟩ := asrt_some h
    obtain ⟨x24, hv25, h⟩ := bnd1_some h
    refine X.callVl (pc := 62) (nc := 0) (ns := 0) (c_Guide_luckOf hE (dle hd (Nat.le_of_ble_eq_true rfl)) hc23 hv25) cv_GWL_283 (by decide +kernel) hc23 ⟨by decide, rfl⟩ (ddd hd (Nat.le_of_ble_eq_true rfl)) rfl (Nat.le_of_ble_eq_true rfl) rfl rfl ?_
    refine X.iload_1 (pc := 65) (by decide +kernel) ?_
    obtain ⟨x26, hv27, h⟩ := bnd1_some h
    refine X.callSl (pc := 66) (nc := 0) (ns := 0) (c_GWL_hundreds hE (dle hd (Nat.le_of_ble_eq_true rfl)) hv27) cv_GWL_287 (by decide +kernel) (ddd hd (Nat.le_of_ble_eq_true rfl)) rfl (Nat.le_of_ble_eq_true rfl) rfl rfl ?_
    obtain ⟨I28, L29, hv30, h⟩ := bnd2_some h
    refine X.callVv (pc := 69) (nc := 0) (ns := 0) (c_Numbers_addFraction hE (dle hd (Nat.le_of_ble_eq_true rfl)) hc19 hv30) cv_GWL_290 (by decide +kernel) hc19 ⟨by decide, rfl⟩ (ddd hd (Nat.le_of_ble_eq_true rfl)) rfl (Nat.le_of_ble_eq_true rfl) rfl rfl ?_
    refine X.aload_0 (pc := 72) (by decide +kernel) ?_
    refine X.getR (pc := 73) (k := 1) fw_GWL_19 (by decide +kernel) (fun _ => rfl) hS hb18 ?_
    refine X.aload_0 (pc := 76) (by decide +kernel) ?_
    refine X.getR (pc := 77) (k := 14) fw_GWL_99 (by decide +kernel) (fun _ => rfl) hS hb22 ?_
    refine X.iconst (pc := 80) (i := 0) (v := 0) ic_0 (by decide +kernel) ?_
    obtain ⟨x31, hv32, h⟩ := bnd1_some h
    refine X.callVl (pc := 81) (nc := 0) (ns := 0) (c_Guide_payOf hE (dle hd (Nat.le_of_ble_eq_true rfl)) hc23 hv32) cv_GWL_294 (by decide +kernel) hc23 ⟨by decide, rfl⟩ (ddd hd (Nat.le_of_ble_eq_true rfl)) rfl (Nat.le_of_ble_eq_true rfl) rfl rfl ?_
    refine X.iload_1 (pc := 84) (by decide +kernel) ?_
    obtain ⟨x33, hv34, h⟩ := bnd1_some h
    refine X.callSl (pc := 85) (nc := 0) (ns := 0) (c_GWL_hundreds hE (dle hd (Nat.le_of_ble_eq_true rfl)) hv34) cv_GWL_287 (by decide +kernel) (ddd hd (Nat.le_of_ble_eq_true rfl)) rfl (Nat.le_of_ble_eq_true rfl) rfl rfl ?_
    obtain ⟨I35, L36, hv37, h⟩ := bnd2_some h
    refine X.callVv (pc := 88) (nc := 0) (ns := 0) (c_Numbers_addFraction hE (dle hd (Nat.le_of_ble_eq_true rfl)) hc19 hv37) cv_GWL_290 (by decide +kernel) hc19 ⟨by decide, rfl⟩ (ddd hd (Nat.le_of_ble_eq_true rfl)) rfl (Nat.le_of_ble_eq_true rfl) rfl rfl ?_
    refine X.iconst (pc := 91) (i := 0) (v := 0) ic_0 (by decide +kernel) ?_
    have j0 := Option.some.inj h
    obtain ⟨i0, j1⟩ := Prod.mk.inj j0
    obtain ⟨i1, j2⟩ := Prod.mk.inj j1
    obtain ⟨i2, j3⟩ := Prod.mk.inj j2
    subst i0
    subst i1
    subst i2
    subst j3
    exact X.ireturn (pc := 92) (by decide +kernel) ⟨_, rfl, rfl⟩ ⟨rfl, rfl, rfl, rfl, rfl, rfl⟩
set_option maxRecDepth 100000 in
noncomputable def f_GWL_bestChance (g : Nat) (S : MS) (R : MR) (I : MI) (L : ML) (t : Nat) (p1 : Int32) (p2 : Int32) : Option (Int64 × MI × ML × MR) :=
  bnd1 (R t 9) fun b1 =>
  asrt ((S b1).1 = 0) <|
  bnd1 (f_Fee_want S I b1 0 1 0 0) fun I3 =>
  bnd1 (R t 14) fun b5 =>
  bnd1 (R t 3) fun b6 =>
  asrt ((S b6).1 = 5) <|
  bnd1 (f_Party_stance S I3 b6) fun x8 =>
  asrt ((S b5).1 = 1) <|
  bnd3 (f_Guide_lead g S R I3 L b5 b1 p1 (I3 b6 2) p2 x8) fun I11 L12 R13 =>
  bnd1 (R13 t 14) fun b15 =>
  bnd1 (R13 t 3) fun b16 =>
  asrt ((S b16).1 = 5) <|
  asrt ((S b15).1 = 1) <|
  bnd1 (f_Guide_payOf S R13 I11 L12 b15 (I11 b16 2)) fun x19 =>
  some (x19, I11, L12, R13)
set_option maxRecDepth 100000 in
set_option maxHeartbeats 4000000 in
theorem c_GWL_bestChance {E : Env} (hE : OKE E) {tg : Bool} {d : Nat} (hd : 4 ≤ d) {g : Nat} {S : MS} {I : MI} {L : ML} {R : MR} {n : Nat} {t : Nat} {p1 : Int32} {p2 : Int32} {v : Int64} {I' : MI} {L' : ML} {R' : MR} (hS : (S t).1 = 11) (h : f_GWL_bestChance g S R I L t p1 p2 = some (v, I', L', R')) : C E y_GWL_bestChance b_GWL_bestChance 3 (some .long) tg d 0 0 [.ref (e_b E + t), .int p1, .int p2] S I L R n (Kq (some (.long v)) S I' L' R' n) := by
  refine C.of (o := [some (.ref (e_b E + t)), some (.int p1), some (.int p2)]) (by decide) rfl (Nat.le_of_ble_eq_true rfl) ?_
  rw [f_GWL_bestChance] at h
  refine X.aload_0 (pc := 0) (by decide +kernel) ?_
  obtain ⟨b1, hb1, h⟩ := bnd1_some h
  refine X.getR (pc := 1) (k := 9) fw_GWL_44 (by decide +kernel) (fun _ => rfl) hS hb1 ?_
  refine X.iconst (pc := 4) (i := 0) (v := 0) ic_0 (by decide +kernel) ?_
  refine X.iconst (pc := 5) (i := 1) (v := 1) ic_1 (by decide +kernel) ?_
  refine X.iconst (pc := 6) (i := 0) (v := 0) ic_0 (by decide +kernel) ?_
  refine X.iconst (pc := 7) (i := 0) (v := 0) ic_0 (by decide +kernel) ?_
  obtain ⟨hc2, h⟩ := asrt_some h
  obtain ⟨I3, hv4, h⟩ := bnd1_some h
  refine X.callVv (pc := 8) (nc := 0) (ns := 0) (c_Fee_want hE (dle hd (Nat.le_of_ble_eq_true rfl)) hc2 hv4) cv_GWL_275 (by decide +kernel) hc2 ⟨by decide, rfl⟩ (ddd hd (Nat.le_of_ble_eq_true rfl)) rfl (Nat.le_of_ble_eq_true rfl) rfl rfl ?_
  refine X.aload_0 (pc := 11) (by decide +kernel) ?_
  obtain ⟨b5, hb5, h⟩ := bnd1_some h
  refine X.getR (pc := 12) (k := 14) fw_GWL_99 (by decide +kernel) (fun _ => rfl) hS hb5 ?_
  refine X.aload_0 (pc := 15) (by decide +kernel) ?_
  refine X.getR (pc := 16) (k := 9) fw_GWL_44 (by decide +kernel) (fun _ => rfl) hS hb1 ?_
  refine X.iload_1 (pc := 19) (by decide +kernel) ?_
  refine X.aload_0 (pc := 20) (by decide +kernel) ?_
  obtain ⟨b6, hb6, h⟩ := bnd1_some h
  refine X.getR (pc := 21) (k := 3) fw_GWL_87 (by decide +kernel) (fun _ => rfl) hS hb6 ?_
  obtain ⟨hc7, h⟩ := asrt_some h
  refine X.getI (pc := 24) (k := 2) fw_GWL_181 (by decide +kernel) (fun _ => rfl) hc7 ?_
  refine X.iload_2 (pc := 27) (by decide +kernel) ?_
  refine X.aload_0 (pc := 28) (by decide +kernel) ?_
  refine X.getR (pc := 29) (k := 3) fw_GWL_87 (by decide +kernel) (fun _ => rfl) hS hb6 ?_
  obtain ⟨x8, hv9, h⟩ := bnd1_some h
  refine X.callVi (pc := 32) (nc := 0) (ns := 0) (c_Party_stance hE (dle hd (Nat.le_of_ble_eq_true rfl)) hc7 hv9) cv_GWL_228 (by decide +kernel) hc7 ⟨by decide, rfl⟩ (ddd hd (Nat.le_of_ble_eq_true rfl)) rfl (Nat.le_of_ble_eq_true rfl) rfl rfl ?_
  obtain ⟨hc10, h⟩ := asrt_some h
  obtain ⟨I11, L12, R13, hv14, h⟩ := bnd3_some h
  refine X.callVv (pc := 35) (nc := 0) (ns := 0) (c_Guide_lead hE (dle hd (Nat.le_of_ble_eq_true rfl)) hc10 hv14) cv_GWL_279 (by decide +kernel) hc10 ⟨by decide, rfl⟩ (ddd hd (Nat.le_of_ble_eq_true rfl)) rfl (Nat.le_of_ble_eq_true rfl) rfl rfl ?_
  refine X.aload_0 (pc := 38) (by decide +kernel) ?_
  obtain ⟨b15, hb15, h⟩ := bnd1_some h
  refine X.getR (pc := 39) (k := 14) fw_GWL_99 (by decide +kernel) (fun _ => rfl) hS hb15 ?_
  refine X.aload_0 (pc := 42) (by decide +kernel) ?_
  obtain ⟨b16, hb16, h⟩ := bnd1_some h
  refine X.getR (pc := 43) (k := 3) fw_GWL_87 (by decide +kernel) (fun _ => rfl) hS hb16 ?_
  obtain ⟨hc17, h⟩ := asrt_some h
  refine X.getI (pc := 46) (k := 2) fw_GWL_181 (by decide +kernel) (fun _ => rfl) hc17 ?_
  obtain ⟨hc18, h⟩ := asrt_some h
  obtain ⟨x19, hv20, h⟩ := bnd1_some h
  refine X.callVl (pc := 49) (nc := 0) (ns := 0) (c_Guide_payOf hE (dle hd (Nat.le_of_ble_eq_true rfl)) hc18 hv20) cv_GWL_294 (by decide +kernel) hc18 ⟨by decide, rfl⟩ (ddd hd (Nat.le_of_ble_eq_true rfl)) rfl (Nat.le_of_ble_eq_true rfl) rfl rfl ?_
  have j0 := Option.some.inj h
  obtain ⟨i0, j1⟩ := Prod.mk.inj j0
  obtain ⟨i1, j2⟩ := Prod.mk.inj j1
  obtain ⟨i2, j3⟩ := Prod.mk.inj j2
  subst i0
  subst i1
  subst i2
  subst j3
  exact X.lreturn (pc := 52) (by decide +kernel) rfl ⟨rfl, rfl, rfl, rfl, rfl, rfl⟩
set_option maxRecDepth 100000 in
noncomputable def f_GWL_best (g : Nat) (S : MS) (R : MR) (I : MI) (L : ML) (t : Nat) (p1 : Int32) : Option (Int32 × MI × ML × MR) :=
  bnd1 (f_GWL_isLength p1 8) fun x1 =>
  ifb (x1 = 0)
    (some ((-1), I, L, R))
    (bnd1 (R t 1) fun b4 =>
    asrt ((S b4).1 = 4) <|
    bnd1 (f_Numbers_begin S I b4) fun I6 =>
    bnd4 (f_GWL_bestChance g S R I6 L t p1 (I6 t 6)) fun x8 I9 L10 R11 =>
    bnd1 (f_GWL_hundreds p1) fun x13 =>
    bnd2 (f_Numbers_addFraction g S R11 I9 L10 b4 x8 x13) fun I15 L16 =>
    some (0, I15, L16, R11))
set_option maxRecDepth 100000 in
set_option maxHeartbeats 4000000 in
theorem c_GWL_best {E : Env} (hE : OKE E) {tg : Bool} {d : Nat} (hd : 5 ≤ d) {g : Nat} {S : MS} {I : MI} {L : ML} {R : MR} {n : Nat} {t : Nat} {p1 : Int32} {v : Int32} {I' : MI} {L' : ML} {R' : MR} (hS : (S t).1 = 11) (h : f_GWL_best g S R I L t p1 = some (v, I', L', R')) : C E y_GWL_best b_GWL_best 2 (some .int) tg d 0 0 [.ref (e_b E + t), .int p1] S I L R n (Kq (some (.int v)) S I' L' R' n) := by
  refine C.of (o := [some (.ref (e_b E + t)), some (.int p1)]) (by decide) rfl (Nat.le_of_ble_eq_true rfl) ?_
  rw [f_GWL_best] at h
  refine X.iload_1 (pc := 0) (by decide +kernel) ?_
  refine X.bipush (pc := 1) (i := 8) (v := 8) bp_8 (by decide +kernel) ?_
  obtain ⟨x1, hv2, h⟩ := bnd1_some h
  refine X.callSi (pc := 3) (nc := 0) (ns := 0) (c_GWL_isLength hE (dle hd (Nat.le_of_ble_eq_true rfl)) hv2) cv_GWL_271 (by decide +kernel) (ddd hd (Nat.le_of_ble_eq_true rfl)) rfl (Nat.le_of_ble_eq_true rfl) rfl rfl ?_
  rcases ifb_some h with ⟨hq3, h⟩ | ⟨hq3, h⟩
  · refine X.if_ne_f (pc := 6) (off := 5) (tgt := 11) hq3 rfl (by decide +kernel) ?_
    refine X.iconst (pc := 9) (i := (-1)) (v := (-1)) ic_m1 (by decide +kernel) ?_
    have j0 := Option.some.inj h
    obtain ⟨i0, j1⟩ := Prod.mk.inj j0
    obtain ⟨i1, j2⟩ := Prod.mk.inj j1
    obtain ⟨i2, j3⟩ := Prod.mk.inj j2
    subst i0
    subst i1
    subst i2
    subst j3
    exact X.ireturn (pc := 10) (by decide +kernel) ⟨_, rfl, rfl⟩ ⟨rfl, rfl, rfl, rfl, rfl, rfl⟩
  · refine X.if_ne_t (pc := 6) (off := 5) (tgt := 11) hq3 rfl (by decide +kernel) ?_
    refine X.aload_0 (pc := 11) (by decide +kernel) ?_
    obtain ⟨b4, hb4, h⟩ := bnd1_some h
    refine X.getR (pc := 12) (k := 1) fw_GWL_19 (by decide +kernel) (fun _ => rfl) hS hb4 ?_
    obtain ⟨hc5, h⟩ := asrt_some h
    obtain ⟨I6, hv7, h⟩ := bnd1_some h
    refine X.callVv (pc := 15) (nc := 0) (ns := 0) (c_Numbers_begin hE (dle hd (Nat.le_of_ble_eq_true rfl)) hc5 hv7) cv_GWL_207 (by decide +kernel) hc5 ⟨by decide, rfl⟩ (ddd hd (Nat.le_of_ble_eq_true rfl)) rfl (Nat.le_of_ble_eq_true rfl) rfl rfl ?_
    refine X.aload_0 (pc := 18) (by decide +kernel) ?_
    refine X.getR (pc := 19) (k := 1) fw_GWL_19 (by decide +kernel) (fun _ => rfl) hS hb4 ?_
    refine X.aload_0 (pc := 22) (by decide +kernel) ?_
    refine X.iload_1 (pc := 23) (by decide +kernel) ?_
    refine X.aload_0 (pc := 24) (by decide +kernel) ?_
    refine X.getI (pc := 25) (k := 6) fw_GWL_30 (by decide +kernel) (fun _ => rfl) hS ?_
    obtain ⟨x8, I9, L10, R11, hv12, h⟩ := bnd4_some h
    refine X.callVl (pc := 28) (nc := 0) (ns := 0) (c_GWL_bestChance hE (dle hd (Nat.le_of_ble_eq_true rfl)) hS hv12) cv_GWL_297 (by decide +kernel) hS ⟨by decide, rfl⟩ (ddd hd (Nat.le_of_ble_eq_true rfl)) rfl (Nat.le_of_ble_eq_true rfl) rfl rfl ?_
    refine X.iload_1 (pc := 31) (by decide +kernel) ?_
    obtain ⟨x13, hv14, h⟩ := bnd1_some h
    refine X.callSl (pc := 32) (nc := 0) (ns := 0) (c_GWL_hundreds hE (dle hd (Nat.le_of_ble_eq_true rfl)) hv14) cv_GWL_287 (by decide +kernel) (ddd hd (Nat.le_of_ble_eq_true rfl)) rfl (Nat.le_of_ble_eq_true rfl) rfl rfl ?_
    obtain ⟨I15, L16, hv17, h⟩ := bnd2_some h
    refine X.callVv (pc := 35) (nc := 0) (ns := 0) (c_Numbers_addFraction hE (dle hd (Nat.le_of_ble_eq_true rfl)) hc5 hv17) cv_GWL_290 (by decide +kernel) hc5 ⟨by decide, rfl⟩ (ddd hd (Nat.le_of_ble_eq_true rfl)) rfl (Nat.le_of_ble_eq_true rfl) rfl rfl ?_
    refine X.iconst (pc := 38) (i := 0) (v := 0) ic_0 (by decide +kernel) ?_
    have j0 := Option.some.inj h
    obtain ⟨i0, j1⟩ := Prod.mk.inj j0
    obtain ⟨i1, j2⟩ := Prod.mk.inj j1
    obtain ⟨i2, j3⟩ := Prod.mk.inj j2
    subst i0
    subst i1
    subst i2
    subst j3
    exact X.ireturn (pc := 39) (by decide +kernel) ⟨_, rfl, rfl⟩ ⟨rfl, rfl, rfl, rfl, rfl, rfl⟩
set_option maxRecDepth 100000 in
noncomputable def l_GWL_fewest_59 (S : MS) (R : MR) (I : MI) (L : ML) (v0 : Nat) (v1 : Int32) (v2 : Int32) : Nat → Int32 → Option (Int32 × MI × ML × MR)
  | 0, _ => none
  | f + 1, v3 =>
    ifb (9 < v3)
      (some ((-2), I, L, R))
      (bnd1 (R v0 14) fun b21 =>
      asrt ((S b21).1 = 1) <|
      bnd1 (f_Guide_payOf S R I L b21 v3) fun x23 =>
      bnd1 (f_GWL_hundreds v1) fun x25 =>
      ifb ((lg_cmp (x23 * 100) ((Int32.toInt64 v2) * x25)) < 0)
        (l_GWL_fewest_59 S R I L v0 v1 v2 f (v3 + 1))
        (some (v3, I, L, R)))
set_option maxRecDepth 100000 in
set_option maxHeartbeats 4000000 in
theorem xl_GWL_fewest_59 {E : Env} (hE : OKE E) {tg : Bool} {d : Nat} (hd : 4 ≤ d) {S : MS} {I : MI} {L : ML} {R : MR} {n : Nat} {v0 : Nat} {v1 : Int32} {v2 : Int32} :
    ∀ {f : Nat}  {v3 : Int32} {v : Int32} {I' : MI} {L' : ML} {R' : MR}, (S v0).1 = 11 → l_GWL_fewest_59 S R I L v0 v1 v2 f v3 = some (v, I', L', R') → X E y_GWL_fewest b_GWL_fewest 4 (some .int) tg d 0 0 59 [some (.ref (e_b E + v0)), some (.int v1), some (.int v2), some (.int v3)] [] S I L R n (Kq (some (.int v)) S I' L' R' n) := by
  intro f
  induction f with
  | zero =>
    intro v3 v I' L' R' hS h
    rw [l_GWL_fewest_59] at h
    cases h
  | succ f ih =>
    intro v3 v I' L' R' hS h
    rw [l_GWL_fewest_59] at h
    refine X.iload_3 (pc := 59) (by decide +kernel) ?_
    refine X.bipush (pc := 60) (i := 9) (v := 9) bp_9 (by decide +kernel) ?_
    rcases ifb_some h with ⟨hq20, h⟩ | ⟨hq20, h⟩
    · refine X.icmp_gt_t (pc := 62) (off := 34) (tgt := 96) hq20 rfl (by decide +kernel) ?_
      refine X.bipush (pc := 96) (i := (-2)) (v := (-2)) bp_m2 (by decide +kernel) ?_
      have j0 := Option.some.inj h
      obtain ⟨i0, j1⟩ := Prod.mk.inj j0
      obtain ⟨i1, j2⟩ := Prod.mk.inj j1
      obtain ⟨i2, j3⟩ := Prod.mk.inj j2
      subst i0
      subst i1
      subst i2
      subst j3
      exact X.ireturn (pc := 98) (by decide +kernel) ⟨_, rfl, rfl⟩ ⟨rfl, rfl, rfl, rfl, rfl, rfl⟩
    · refine X.icmp_gt_f (pc := 62) (off := 34) (tgt := 96) hq20 rfl (by decide +kernel) ?_
      refine X.aload_0 (pc := 65) (by decide +kernel) ?_
      obtain ⟨b21, hb21, h⟩ := bnd1_some h
      refine X.getR (pc := 66) (k := 14) fw_GWL_99 (by decide +kernel) (fun _ => rfl) hS hb21 ?_
      refine X.iload_3 (pc := 69) (by decide +kernel) ?_
      obtain ⟨hc22, h⟩ := asrt_some h
      obtain ⟨x23, hv24, h⟩ := bnd1_some h
      refine X.callVl (pc := 70) (nc := 0) (ns := 0) (c_Guide_payOf hE (dle hd (Nat.le_of_ble_eq_true rfl)) hc22 hv24) cv_GWL_294 (by decide +kernel) hc22 ⟨by decide, rfl⟩ (ddd hd (Nat.le_of_ble_eq_true rfl)) rfl (Nat.le_of_ble_eq_true rfl) rfl rfl ?_
      refine X.ldc2 (pc := 73) (x := 301) (v := 100) ld_GWL_301 (by decide +kernel) ?_
      refine X.lmul (pc := 76) (by decide +kernel) ?_
      refine X.iload_2 (pc := 77) (by decide +kernel) ?_
      refine X.i2l (pc := 78) (by decide +kernel) ?_
      refine X.iload_1 (pc := 79) (by decide +kernel) ?_
      obtain ⟨x25, hv26, h⟩ := bnd1_some h
      refine X.callSl (pc := 80) (nc := 0) (ns := 0) (c_GWL_hundreds hE (dle hd (Nat.le_of_ble_eq_true rfl)) hv26) cv_GWL_287 (by decide +kernel) (ddd hd (Nat.le_of_ble_eq_true rfl)) rfl (Nat.le_of_ble_eq_true rfl) rfl rfl ?_
      refine X.lmul (pc := 83) (by decide +kernel) ?_
      refine X.lcmp (pc := 84) (by decide +kernel) ?_
      rcases ifb_some h with ⟨hq27, h⟩ | ⟨hq27, h⟩
      · refine X.if_lt_t (pc := 85) (off := 5) (tgt := 90) hq27 rfl (by decide +kernel) ?_
        refine X.iinc_3 (pc := 90) (z := 1) (v := 1) ic_1 (by decide +kernel) (by decide) rfl ?_
        refine X.goto (pc := 93) (off := (-34)) (tgt := 59) (by decide +kernel) rfl ?_
        exact ih hS h
      · refine X.if_lt_f (pc := 85) (off := 5) (tgt := 90) hq27 rfl (by decide +kernel) ?_
        refine X.iload_3 (pc := 88) (by decide +kernel) ?_
        have j0 := Option.some.inj h
        obtain ⟨i0, j1⟩ := Prod.mk.inj j0
        obtain ⟨i1, j2⟩ := Prod.mk.inj j1
        obtain ⟨i2, j3⟩ := Prod.mk.inj j2
        subst i0
        subst i1
        subst i2
        subst j3
        exact X.ireturn (pc := 89) (by decide +kernel) ⟨_, rfl, rfl⟩ ⟨rfl, rfl, rfl, rfl, rfl, rfl⟩
set_option maxRecDepth 100000 in
noncomputable def f_GWL_fewest (g : Nat) (S : MS) (R : MR) (I : MI) (L : ML) (t : Nat) (p1 : Int32) (p2 : Int32) : Option (Int32 × MI × ML × MR) :=
  bnd1 (f_GWL_isLength p1 8) fun x1 =>
  ifb (x1 = 0)
    (some ((-1), I, L, R))
    (ifb (p2 < 0)
      (some ((-1), I, L, R))
      (ifb (p2 ≤ 100)
        (bnd1 (R t 9) fun b6 =>
        asrt ((S b6).1 = 0) <|
        bnd1 (f_Fee_want S I b6 0 1 0 0) fun I8 =>
        bnd1 (R t 14) fun b10 =>
        bnd1 (R t 3) fun b11 =>
        asrt ((S b11).1 = 5) <|
        bnd1 (f_Party_stance S I8 b11) fun x13 =>
        asrt ((S b10).1 = 1) <|
        bnd3 (f_Guide_lead g S R I8 L b10 b6 p1 9 (I8 t 6) x13) fun I16 L17 R18 =>
        l_GWL_fewest_59 S R18 I16 L17 t p1 p2 g 0)
        (some ((-1), I, L, R))))
set_option maxRecDepth 100000 in
set_option maxHeartbeats 4000000 in
theorem c_GWL_fewest {E : Env} (hE : OKE E) {tg : Bool} {d : Nat} (hd : 4 ≤ d) {g : Nat} {S : MS} {I : MI} {L : ML} {R : MR} {n : Nat} {t : Nat} {p1 : Int32} {p2 : Int32} {v : Int32} {I' : MI} {L' : ML} {R' : MR} (hS : (S t).1 = 11) (h : f_GWL_fewest g S R I L t p1 p2 = some (v, I', L', R')) : C E y_GWL_fewest b_GWL_fewest 4 (some .int) tg d 0 0 [.ref (e_b E + t), .int p1, .int p2] S I L R n (Kq (some (.int v)) S I' L' R' n) := by
  refine C.of (o := [some (.ref (e_b E + t)), some (.int p1), some (.int p2), none]) (by decide) rfl (Nat.le_of_ble_eq_true rfl) ?_
  rw [f_GWL_fewest] at h
  refine X.iload_1 (pc := 0) (by decide +kernel) ?_
  refine X.bipush (pc := 1) (i := 8) (v := 8) bp_8 (by decide +kernel) ?_
  obtain ⟨x1, hv2, h⟩ := bnd1_some h
  refine X.callSi (pc := 3) (nc := 0) (ns := 0) (c_GWL_isLength hE (dle hd (Nat.le_of_ble_eq_true rfl)) hv2) cv_GWL_271 (by decide +kernel) (ddd hd (Nat.le_of_ble_eq_true rfl)) rfl (Nat.le_of_ble_eq_true rfl) rfl rfl ?_
  rcases ifb_some h with ⟨hq3, h⟩ | ⟨hq3, h⟩
  · refine X.if_eq_t (pc := 6) (off := 13) (tgt := 19) hq3 rfl (by decide +kernel) ?_
    refine X.iconst (pc := 19) (i := (-1)) (v := (-1)) ic_m1 (by decide +kernel) ?_
    have j0 := Option.some.inj h
    obtain ⟨i0, j1⟩ := Prod.mk.inj j0
    obtain ⟨i1, j2⟩ := Prod.mk.inj j1
    obtain ⟨i2, j3⟩ := Prod.mk.inj j2
    subst i0
    subst i1
    subst i2
    subst j3
    exact X.ireturn (pc := 20) (by decide +kernel) ⟨_, rfl, rfl⟩ ⟨rfl, rfl, rfl, rfl, rfl, rfl⟩
  · refine X.if_eq_f (pc := 6) (off := 13) (tgt := 19) hq3 rfl (by decide +kernel) ?_
    refine X.iload_2 (pc := 9) (by decide +kernel) ?_
    rcases ifb_some h with ⟨hq4, h⟩ | ⟨hq4, h⟩
    · refine X.if_lt_t (pc := 10) (off := 9) (tgt := 19) hq4 rfl (by decide +kernel) ?_
      refine X.iconst (pc := 19) (i := (-1)) (v := (-1)) ic_m1 (by decide +kernel) ?_
      have j0 := Option.some.inj h
      obtain ⟨i0, j1⟩ := Prod.mk.inj j0
      obtain ⟨i1, j2⟩ := Prod.mk.inj j1
      obtain ⟨i2, j3⟩ := Prod.mk.inj j2
      subst i0
      subst i1
      subst i2
      subst j3
      exact X.ireturn (pc := 20) (by decide +kernel) ⟨_, rfl, rfl⟩ ⟨rfl, rfl, rfl, rfl, rfl, rfl⟩
    · refine X.if_lt_f (pc := 10) (off := 9) (tgt := 19) hq4 rfl (by decide +kernel) ?_
      refine X.iload_2 (pc := 13) (by decide +kernel) ?_
      refine X.bipush (pc := 14) (i := 100) (v := 100) bp_100 (by decide +kernel) ?_
      rcases ifb_some h with ⟨hq5, h⟩ | ⟨hq5, h⟩
      · refine X.icmp_le_t (pc := 16) (off := 5) (tgt := 21) hq5 rfl (by decide +kernel) ?_
        refine X.aload_0 (pc := 21) (by decide +kernel) ?_
        obtain ⟨b6, hb6, h⟩ := bnd1_some h
        refine X.getR (pc := 22) (k := 9) fw_GWL_44 (by decide +kernel) (fun _ => rfl) hS hb6 ?_
        refine X.iconst (pc := 25) (i := 0) (v := 0) ic_0 (by decide +kernel) ?_
        refine X.iconst (pc := 26) (i := 1) (v := 1) ic_1 (by decide +kernel) ?_
        refine X.iconst (pc := 27) (i := 0) (v := 0) ic_0 (by decide +kernel) ?_
        refine X.iconst (pc := 28) (i := 0) (v := 0) ic_0 (by decide +kernel) ?_
        obtain ⟨hc7, h⟩ := asrt_some h
        obtain ⟨I8, hv9, h⟩ := bnd1_some h
        refine X.callVv (pc := 29) (nc := 0) (ns := 0) (c_Fee_want hE (dle hd (Nat.le_of_ble_eq_true rfl)) hc7 hv9) cv_GWL_275 (by decide +kernel) hc7 ⟨by decide, rfl⟩ (ddd hd (Nat.le_of_ble_eq_true rfl)) rfl (Nat.le_of_ble_eq_true rfl) rfl rfl ?_
        refine X.aload_0 (pc := 32) (by decide +kernel) ?_
        obtain ⟨b10, hb10, h⟩ := bnd1_some h
        refine X.getR (pc := 33) (k := 14) fw_GWL_99 (by decide +kernel) (fun _ => rfl) hS hb10 ?_
        refine X.aload_0 (pc := 36) (by decide +kernel) ?_
        refine X.getR (pc := 37) (k := 9) fw_GWL_44 (by decide +kernel) (fun _ => rfl) hS hb6 ?_
        refine X.iload_1 (pc := 40) (by decide +kernel) ?_
        refine X.bipush (pc := 41) (i := 9) (v := 9) bp_9 (by decide +kernel) ?_
        refine X.aload_0 (pc := 43) (by decide +kernel) ?_
        refine X.getI (pc := 44) (k := 6) fw_GWL_30 (by decide +kernel) (fun _ => rfl) hS ?_
        refine X.aload_0 (pc := 47) (by decide +kernel) ?_
        obtain ⟨b11, hb11, h⟩ := bnd1_some h
        refine X.getR (pc := 48) (k := 3) fw_GWL_87 (by decide +kernel) (fun _ => rfl) hS hb11 ?_
        obtain ⟨hc12, h⟩ := asrt_some h
        obtain ⟨x13, hv14, h⟩ := bnd1_some h
        refine X.callVi (pc := 51) (nc := 0) (ns := 0) (c_Party_stance hE (dle hd (Nat.le_of_ble_eq_true rfl)) hc12 hv14) cv_GWL_228 (by decide +kernel) hc12 ⟨by decide, rfl⟩ (ddd hd (Nat.le_of_ble_eq_true rfl)) rfl (Nat.le_of_ble_eq_true rfl) rfl rfl ?_
        obtain ⟨hc15, h⟩ := asrt_some h
        obtain ⟨I16, L17, R18, hv19, h⟩ := bnd3_some h
        refine X.callVv (pc := 54) (nc := 0) (ns := 0) (c_Guide_lead hE (dle hd (Nat.le_of_ble_eq_true rfl)) hc15 hv19) cv_GWL_279 (by decide +kernel) hc15 ⟨by decide, rfl⟩ (ddd hd (Nat.le_of_ble_eq_true rfl)) rfl (Nat.le_of_ble_eq_true rfl) rfl rfl ?_
        refine X.iconst (pc := 57) (i := 0) (v := 0) ic_0 (by decide +kernel) ?_
        refine X.istore_3 (pc := 58) (by decide +kernel) (by decide) rfl ?_
        exact xl_GWL_fewest_59 hE hd hS h
      · refine X.icmp_le_f (pc := 16) (off := 5) (tgt := 21) hq5 rfl (by decide +kernel) ?_
        refine X.iconst (pc := 19) (i := (-1)) (v := (-1)) ic_m1 (by decide +kernel) ?_
        have j0 := Option.some.inj h
        obtain ⟨i0, j1⟩ := Prod.mk.inj j0
        obtain ⟨i1, j2⟩ := Prod.mk.inj j1
        obtain ⟨i2, j3⟩ := Prod.mk.inj j2
        subst i0
        subst i1
        subst i2
        subst j3
        exact X.ireturn (pc := 20) (by decide +kernel) ⟨_, rfl, rfl⟩ ⟨rfl, rfl, rfl, rfl, rfl, rfl⟩
set_option maxRecDepth 100000 in
noncomputable def f_GWL_should (g : Nat) (S : MS) (R : MR) (I : MI) (L : ML) (t : Nat) (p1 : Int32) : Option (Int32 × MI × ML × MR) :=
  ifb (p1 < 1)
    (some ((-1), I, L, R))
    (ifb (p1 ≤ 8)
      (bnd1 (f_GWL_isOver S R I t) fun x3 =>
      ifb (x3 = 0)
        (bnd4 (f_GWL_bestChance g S R I L t p1 (I t 6)) fun x6 I7 L8 R9 =>
        bnd1 (R9 t 14) fun b11 =>
        asrt ((S b11).1 = 1) <|
        lt (I7 b11 11) fun (x13 : Int32) =>
        some (x13, I7, L8, R9))
        (some ((-2), I, L, R)))
      (some ((-1), I, L, R)))
set_option maxRecDepth 100000 in
set_option maxHeartbeats 4000000 in
theorem c_GWL_should {E : Env} (hE : OKE E) {tg : Bool} {d : Nat} (hd : 5 ≤ d) {g : Nat} {S : MS} {I : MI} {L : ML} {R : MR} {n : Nat} {t : Nat} {p1 : Int32} {v : Int32} {I' : MI} {L' : ML} {R' : MR} (hS : (S t).1 = 11) (h : f_GWL_should g S R I L t p1 = some (v, I', L', R')) : C E y_GWL_should b_GWL_should 2 (some .int) tg d 0 0 [.ref (e_b E + t), .int p1] S I L R n (Kq (some (.int v)) S I' L' R' n) := by
  refine C.of (o := [some (.ref (e_b E + t)), some (.int p1)]) (by decide) rfl (Nat.le_of_ble_eq_true rfl) ?_
  rw [f_GWL_should] at h
  refine X.iload_1 (pc := 0) (by decide +kernel) ?_
  refine X.iconst (pc := 1) (i := 1) (v := 1) ic_1 (by decide +kernel) ?_
  rcases ifb_some h with ⟨hq1, h⟩ | ⟨hq1, h⟩
  · refine X.icmp_lt_t (pc := 2) (off := 9) (tgt := 11) hq1 rfl (by decide +kernel) ?_
    refine X.iconst (pc := 11) (i := (-1)) (v := (-1)) ic_m1 (by decide +kernel) ?_
    have j0 := Option.some.inj h
    obtain ⟨i0, j1⟩ := Prod.mk.inj j0
    obtain ⟨i1, j2⟩ := Prod.mk.inj j1
    obtain ⟨i2, j3⟩ := Prod.mk.inj j2
    subst i0
    subst i1
    subst i2
    subst j3
    exact X.ireturn (pc := 12) (by decide +kernel) ⟨_, rfl, rfl⟩ ⟨rfl, rfl, rfl, rfl, rfl, rfl⟩
  · refine X.icmp_lt_f (pc := 2) (off := 9) (tgt := 11) hq1 rfl (by decide +kernel) ?_
    refine X.iload_1 (pc := 5) (by decide +kernel) ?_
    refine X.bipush (pc := 6) (i := 8) (v := 8) bp_8 (by decide +kernel) ?_
    rcases ifb_some h with ⟨hq2, h⟩ | ⟨hq2, h⟩
    · refine X.icmp_le_t (pc := 8) (off := 5) (tgt := 13) hq2 rfl (by decide +kernel) ?_
      refine X.aload_0 (pc := 13) (by decide +kernel) ?_
      obtain ⟨x3, hv4, h⟩ := bnd1_some h
      refine X.callVi (pc := 14) (nc := 0) (ns := 0) (c_GWL_isOver hE (dle hd (Nat.le_of_ble_eq_true rfl)) hS hv4) cv_GWL_191 (by decide +kernel) hS ⟨by decide, rfl⟩ (ddd hd (Nat.le_of_ble_eq_true rfl)) rfl (Nat.le_of_ble_eq_true rfl) rfl rfl ?_
      rcases ifb_some h with ⟨hq5, h⟩ | ⟨hq5, h⟩
      · refine X.if_eq_t (pc := 17) (off := 6) (tgt := 23) hq5 rfl (by decide +kernel) ?_
        refine X.aload_0 (pc := 23) (by decide +kernel) ?_
        refine X.iload_1 (pc := 24) (by decide +kernel) ?_
        refine X.aload_0 (pc := 25) (by decide +kernel) ?_
        refine X.getI (pc := 26) (k := 6) fw_GWL_30 (by decide +kernel) (fun _ => rfl) hS ?_
        obtain ⟨x6, I7, L8, R9, hv10, h⟩ := bnd4_some h
        refine X.callVl (pc := 29) (nc := 0) (ns := 0) (c_GWL_bestChance hE (dle hd (Nat.le_of_ble_eq_true rfl)) hS hv10) cv_GWL_297 (by decide +kernel) hS ⟨by decide, rfl⟩ (ddd hd (Nat.le_of_ble_eq_true rfl)) rfl (Nat.le_of_ble_eq_true rfl) rfl rfl ?_
        refine X.pop2l (pc := 32) (by decide +kernel) ?_
        refine X.aload_0 (pc := 33) (by decide +kernel) ?_
        obtain ⟨b11, hb11, h⟩ := bnd1_some h
        refine X.getR (pc := 34) (k := 14) fw_GWL_99 (by decide +kernel) (fun _ => rfl) hS hb11 ?_
        obtain ⟨hc12, h⟩ := asrt_some h
        refine X.getI (pc := 37) (k := 11) fw_GWL_303 (by decide +kernel) (fun _ => rfl) hc12 ?_
        refine X.nameI (fun x13 hx13 => ?_)
        have h := lt_at hx13 h
        have j0 := Option.some.inj h
        obtain ⟨i0, j1⟩ := Prod.mk.inj j0
        obtain ⟨i1, j2⟩ := Prod.mk.inj j1
        obtain ⟨i2, j3⟩ := Prod.mk.inj j2
        subst i0
        subst i1
        subst i2
        subst j3
        exact X.ireturn (pc := 40) (by decide +kernel) ⟨_, rfl, rfl⟩ ⟨rfl, rfl, rfl, rfl, rfl, rfl⟩
      · refine X.if_eq_f (pc := 17) (off := 6) (tgt := 23) hq5 rfl (by decide +kernel) ?_
        refine X.bipush (pc := 20) (i := (-2)) (v := (-2)) bp_m2 (by decide +kernel) ?_
        have j0 := Option.some.inj h
        obtain ⟨i0, j1⟩ := Prod.mk.inj j0
        obtain ⟨i1, j2⟩ := Prod.mk.inj j1
        obtain ⟨i2, j3⟩ := Prod.mk.inj j2
        subst i0
        subst i1
        subst i2
        subst j3
        exact X.ireturn (pc := 22) (by decide +kernel) ⟨_, rfl, rfl⟩ ⟨rfl, rfl, rfl, rfl, rfl, rfl⟩
    · refine X.icmp_le_f (pc := 8) (off := 5) (tgt := 13) hq2 rfl (by decide +kernel) ?_
      refine X.iconst (pc := 11) (i := (-1)) (v := (-1)) ic_m1 (by decide +kernel) ?_
      have j0 := Option.some.inj h
      obtain ⟨i0, j1⟩ := Prod.mk.inj j0
      obtain ⟨i1, j2⟩ := Prod.mk.inj j1
      obtain ⟨i2, j3⟩ := Prod.mk.inj j2
      subst i0
      subst i1
      subst i2
      subst j3
      exact X.ireturn (pc := 12) (by decide +kernel) ⟨_, rfl, rfl⟩ ⟨rfl, rfl, rfl, rfl, rfl, rfl⟩
set_option maxRecDepth 100000 in
noncomputable def f_GWL_safest (g : Nat) (S : MS) (R : MR) (I : MI) (L : ML) (t : Nat) (p1 : Int32) : Option (Int32 × MI × ML × MR) :=
  bnd1 (f_GWL_isLength p1 8) fun x1 =>
  ifb (x1 = 0)
    (some ((-1), I, L, R))
    (bnd1 (R t 9) fun b4 =>
    asrt ((S b4).1 = 0) <|
    bnd1 (f_Fee_want S I b4 1 0 (-1) 0) fun I6 =>
    bnd1 (R t 14) fun b8 =>
    bnd1 (R t 3) fun b9 =>
    asrt ((S b9).1 = 5) <|
    bnd1 (f_Party_stance S I6 b9) fun x11 =>
    asrt ((S b8).1 = 1) <|
    bnd3 (f_Guide_lead g S R I6 L b8 b4 p1 (I6 b9 2) (I6 t 6) x11) fun I14 L15 R16 =>
    bnd1 (R16 t 1) fun b18 =>
    asrt ((S b18).1 = 4) <|
    bnd1 (f_Numbers_begin S I14 b18) fun I20 =>
    bnd1 (R16 t 14) fun b22 =>
    bnd1 (R16 t 3) fun b23 =>
    asrt ((S b23).1 = 5) <|
    asrt ((S b22).1 = 1) <|
    bnd1 (f_Guide_payOf S R16 I20 L15 b22 (I20 b23 2)) fun x26 =>
    bnd1 (f_GWL_hundreds p1) fun x28 =>
    bnd2 (f_Numbers_addFraction g S R16 I20 L15 b18 x26 x28) fun I30 L31 =>
    some (0, I30, L31, R16))
set_option maxRecDepth 100000 in
set_option maxHeartbeats 4000000 in
theorem c_GWL_safest {E : Env} (hE : OKE E) {tg : Bool} {d : Nat} (hd : 4 ≤ d) {g : Nat} {S : MS} {I : MI} {L : ML} {R : MR} {n : Nat} {t : Nat} {p1 : Int32} {v : Int32} {I' : MI} {L' : ML} {R' : MR} (hS : (S t).1 = 11) (h : f_GWL_safest g S R I L t p1 = some (v, I', L', R')) : C E y_GWL_safest b_GWL_safest 2 (some .int) tg d 0 0 [.ref (e_b E + t), .int p1] S I L R n (Kq (some (.int v)) S I' L' R' n) := by
  refine C.of (o := [some (.ref (e_b E + t)), some (.int p1)]) (by decide) rfl (Nat.le_of_ble_eq_true rfl) ?_
  rw [f_GWL_safest] at h
  refine X.iload_1 (pc := 0) (by decide +kernel) ?_
  refine X.bipush (pc := 1) (i := 8) (v := 8) bp_8 (by decide +kernel) ?_
  obtain ⟨x1, hv2, h⟩ := bnd1_some h
  refine X.callSi (pc := 3) (nc := 0) (ns := 0) (c_GWL_isLength hE (dle hd (Nat.le_of_ble_eq_true rfl)) hv2) cv_GWL_271 (by decide +kernel) (ddd hd (Nat.le_of_ble_eq_true rfl)) rfl (Nat.le_of_ble_eq_true rfl) rfl rfl ?_
  rcases ifb_some h with ⟨hq3, h⟩ | ⟨hq3, h⟩
  · refine X.if_ne_f (pc := 6) (off := 5) (tgt := 11) hq3 rfl (by decide +kernel) ?_
    refine X.iconst (pc := 9) (i := (-1)) (v := (-1)) ic_m1 (by decide +kernel) ?_
    have j0 := Option.some.inj h
    obtain ⟨i0, j1⟩ := Prod.mk.inj j0
    obtain ⟨i1, j2⟩ := Prod.mk.inj j1
    obtain ⟨i2, j3⟩ := Prod.mk.inj j2
    subst i0
    subst i1
    subst i2
    subst j3
    exact X.ireturn (pc := 10) (by decide +kernel) ⟨_, rfl, rfl⟩ ⟨rfl, rfl, rfl, rfl, rfl, rfl⟩
  · refine X.if_ne_t (pc := 6) (off := 5) (tgt := 11) hq3 rfl (by decide +kernel) ?_
    refine X.aload_0 (pc := 11) (by decide +kernel) ?_
    obtain ⟨b4, hb4, h⟩ := bnd1_some h
    refine X.getR (pc := 12) (k := 9) fw_GWL_44 (by decide +kernel) (fun _ => rfl) hS hb4 ?_
    refine X.iconst (pc := 15) (i := 1) (v := 1) ic_1 (by decide +kernel) ?_
    refine X.iconst (pc := 16) (i := 0) (v := 0) ic_0 (by decide +kernel) ?_
    refine X.iconst (pc := 17) (i := (-1)) (v := (-1)) ic_m1 (by decide +kernel) ?_
    refine X.iconst (pc := 18) (i := 0) (v := 0) ic_0 (by decide +kernel) ?_
    obtain ⟨hc5, h⟩ := asrt_some h
    obtain ⟨I6, hv7, h⟩ := bnd1_some h
    refine X.callVv (pc := 19) (nc := 0) (ns := 0) (c_Fee_want hE (dle hd (Nat.le_of_ble_eq_true rfl)) hc5 hv7) cv_GWL_275 (by decide +kernel) hc5 ⟨by decide, rfl⟩ (ddd hd (Nat.le_of_ble_eq_true rfl)) rfl (Nat.le_of_ble_eq_true rfl) rfl rfl ?_
    refine X.aload_0 (pc := 22) (by decide +kernel) ?_
    obtain ⟨b8, hb8, h⟩ := bnd1_some h
    refine X.getR (pc := 23) (k := 14) fw_GWL_99 (by decide +kernel) (fun _ => rfl) hS hb8 ?_
    refine X.aload_0 (pc := 26) (by decide +kernel) ?_
    refine X.getR (pc := 27) (k := 9) fw_GWL_44 (by decide +kernel) (fun _ => rfl) hS hb4 ?_
    refine X.iload_1 (pc := 30) (by decide +kernel) ?_
    refine X.aload_0 (pc := 31) (by decide +kernel) ?_
    obtain ⟨b9, hb9, h⟩ := bnd1_some h
    refine X.getR (pc := 32) (k := 3) fw_GWL_87 (by decide +kernel) (fun _ => rfl) hS hb9 ?_
    obtain ⟨hc10, h⟩ := asrt_some h
    refine X.getI (pc := 35) (k := 2) fw_GWL_181 (by decide +kernel) (fun _ => rfl) hc10 ?_
    refine X.aload_0 (pc := 38) (by decide +kernel) ?_
    refine X.getI (pc := 39) (k := 6) fw_GWL_30 (by decide +kernel) (fun _ => rfl) hS ?_
    refine X.aload_0 (pc := 42) (by decide +kernel) ?_
    refine X.getR (pc := 43) (k := 3) fw_GWL_87 (by decide +kernel) (fun _ => rfl) hS hb9 ?_
    obtain ⟨x11, hv12, h⟩ := bnd1_some h
    refine X.callVi (pc := 46) (nc := 0) (ns := 0) (c_Party_stance hE (dle hd (Nat.le_of_ble_eq_true rfl)) hc10 hv12) cv_GWL_228 (by decide +kernel) hc10 ⟨by decide, rfl⟩ (ddd hd (Nat.le_of_ble_eq_true rfl)) rfl (Nat.le_of_ble_eq_true rfl) rfl rfl ?_
    obtain ⟨hc13, h⟩ := asrt_some h
    obtain ⟨I14, L15, R16, hv17, h⟩ := bnd3_some h
    refine X.callVv (pc := 49) (nc := 0) (ns := 0) (c_Guide_lead hE (dle hd (Nat.le_of_ble_eq_true rfl)) hc13 hv17) cv_GWL_279 (by decide +kernel) hc13 ⟨by decide, rfl⟩ (ddd hd (Nat.le_of_ble_eq_true rfl)) rfl (Nat.le_of_ble_eq_true rfl) rfl rfl ?_
    refine X.aload_0 (pc := 52) (by decide +kernel) ?_
    obtain ⟨b18, hb18, h⟩ := bnd1_some h
    refine X.getR (pc := 53) (k := 1) fw_GWL_19 (by decide +kernel) (fun _ => rfl) hS hb18 ?_
    obtain ⟨hc19, h⟩ := asrt_some h
    obtain ⟨I20, hv21, h⟩ := bnd1_some h
    refine X.callVv (pc := 56) (nc := 0) (ns := 0) (c_Numbers_begin hE (dle hd (Nat.le_of_ble_eq_true rfl)) hc19 hv21) cv_GWL_207 (by decide +kernel) hc19 ⟨by decide, rfl⟩ (ddd hd (Nat.le_of_ble_eq_true rfl)) rfl (Nat.le_of_ble_eq_true rfl) rfl rfl ?_
    refine X.aload_0 (pc := 59) (by decide +kernel) ?_
    refine X.getR (pc := 60) (k := 1) fw_GWL_19 (by decide +kernel) (fun _ => rfl) hS hb18 ?_
    refine X.aload_0 (pc := 63) (by decide +kernel) ?_
    obtain ⟨b22, hb22, h⟩ := bnd1_some h
    refine X.getR (pc := 64) (k := 14) fw_GWL_99 (by decide +kernel) (fun _ => rfl) hS hb22 ?_
    refine X.aload_0 (pc := 67) (by decide +kernel) ?_
    obtain ⟨b23, hb23, h⟩ := bnd1_some h
    refine X.getR (pc := 68) (k := 3) fw_GWL_87 (by decide +kernel) (fun _ => rfl) hS hb23 ?_
    obtain ⟨hc24, h⟩ := asrt_some h
    refine X.getI (pc := 71) (k := 2) fw_GWL_181 (by decide +kernel) (fun _ => rfl) hc24 ?_
    obtain ⟨hc25, h⟩ := asrt_some h
    obtain ⟨x26, hv27, h⟩ := bnd1_some h
    refine X.callVl (pc := 74) (nc := 0) (ns := 0) (c_Guide_payOf hE (dle hd (Nat.le_of_ble_eq_true rfl)) hc25 hv27) cv_GWL_294 (by decide +kernel) hc25 ⟨by decide, rfl⟩ (ddd hd (Nat.le_of_ble_eq_true rfl)) rfl (Nat.le_of_ble_eq_true rfl) rfl rfl ?_
    refine X.iload_1 (pc := 77) (by decide +kernel) ?_
    obtain ⟨x28, hv29, h⟩ := bnd1_some h
    refine X.callSl (pc := 78) (nc := 0) (ns := 0) (c_GWL_hundreds hE (dle hd (Nat.le_of_ble_eq_true rfl)) hv29) cv_GWL_287 (by decide +kernel) (ddd hd (Nat.le_of_ble_eq_true rfl)) rfl (Nat.le_of_ble_eq_true rfl) rfl rfl ?_
    obtain ⟨I30, L31, hv32, h⟩ := bnd2_some h
    refine X.callVv (pc := 81) (nc := 0) (ns := 0) (c_Numbers_addFraction hE (dle hd (Nat.le_of_ble_eq_true rfl)) hc19 hv32) cv_GWL_290 (by decide +kernel) hc19 ⟨by decide, rfl⟩ (ddd hd (Nat.le_of_ble_eq_true rfl)) rfl (Nat.le_of_ble_eq_true rfl) rfl rfl ?_
    refine X.iconst (pc := 84) (i := 0) (v := 0) ic_0 (by decide +kernel) ?_
    have j0 := Option.some.inj h
    obtain ⟨i0, j1⟩ := Prod.mk.inj j0
    obtain ⟨i1, j2⟩ := Prod.mk.inj j1
    obtain ⟨i2, j3⟩ := Prod.mk.inj j2
    subst i0
    subst i1
    subst i2
    subst j3
    exact X.ireturn (pc := 85) (by decide +kernel) ⟨_, rfl, rfl⟩ ⟨rfl, rfl, rfl, rfl, rfl, rfl⟩
set_option maxRecDepth 100000 in
noncomputable def l_GWL_turnsWithWeight_4 (S : MS) (R : MR) (I : MI) (v0 : Nat) : Nat → Int32 → Int32 → Option Int32
  | 0, _, _ => none
  | f + 1, v1, v2 =>
    ifb (3 ≤ v2)
      (some v1)
      (bnd1 (R v0 5) fun b2 =>
      bnd1 (f_GWL_tenthsOf S I b2 v2) fun x3 =>
      bnd1 (ifb (x3 ≤ 0)
          (some 0)
          (some (isl 1 v2))) fun (y6 : Int32) =>
      lt (v1 ||| y6) fun (x9 : Int32) =>
      l_GWL_turnsWithWeight_4 S R I v0 f x9 (v2 + 1))
set_option maxRecDepth 100000 in
set_option maxHeartbeats 4000000 in
theorem xl_GWL_turnsWithWeight_4 {E : Env} (hE : OKE E) {tg : Bool} {d : Nat} (hd : 1 ≤ d) {S : MS} {I : MI} {L : ML} {R : MR} {n : Nat} {v0 : Nat} {K : KT} :
    ∀ {f : Nat}  {v1 : Int32} {v2 : Int32} {o1 : Int32}, (S v0).1 = 11 → l_GWL_turnsWithWeight_4 S R I v0 f v1 v2 = some o1 → X E y_GWL_turnsWithWeight b_GWL_turnsWithWeight 3 (some .int) tg d 0 0 36 [none, some (.int o1), none] [] S I L R n K → X E y_GWL_turnsWithWeight b_GWL_turnsWithWeight 3 (some .int) tg d 0 0 4 [some (.ref (e_b E + v0)), some (.int v1), some (.int v2)] [] S I L R n K := by
  intro f
  induction f with
  | zero =>
    intro v1 v2 o1 hS h hk
    rw [l_GWL_turnsWithWeight_4] at h
    cases h
  | succ f ih =>
    intro v1 v2 o1 hS h hk
    rw [l_GWL_turnsWithWeight_4] at h
    refine X.iload_2 (pc := 4) (by decide +kernel) ?_
    refine X.iconst (pc := 5) (i := 3) (v := 3) ic_3 (by decide +kernel) ?_
    rcases ifb_some h with ⟨hq1, h⟩ | ⟨hq1, h⟩
    · refine X.icmp_ge_t (pc := 6) (off := 30) (tgt := 36) hq1 rfl (by decide +kernel) ?_
      have j0 := Option.some.inj h
      subst j0
      refine X.fgt (o' := [none, some (.int v1), none]) ⟨rfl, trivial⟩ ?_
      exact hk
    · refine X.icmp_ge_f (pc := 6) (off := 30) (tgt := 36) hq1 rfl (by decide +kernel) ?_
      refine X.iload_1 (pc := 9) (by decide +kernel) ?_
      refine X.aload_0 (pc := 10) (by decide +kernel) ?_
      obtain ⟨b2, hb2, h⟩ := bnd1_some h
      refine X.getR (pc := 11) (k := 5) fw_GWL_91 (by decide +kernel) (fun _ => rfl) hS hb2 ?_
      refine X.iload_2 (pc := 14) (by decide +kernel) ?_
      obtain ⟨x3, hv4, h⟩ := bnd1_some h
      refine X.callSi (pc := 15) (nc := 0) (ns := 0) (c_GWL_tenthsOf hE (dle hd (Nat.le_of_ble_eq_true rfl)) hv4) cv_GWL_424 (by decide +kernel) (ddd hd (Nat.le_of_ble_eq_true rfl)) rfl (Nat.le_of_ble_eq_true rfl) rfl rfl ?_
      obtain ⟨y6, hr7, h⟩ := bnd1_some h
      have hj8 : X E y_GWL_turnsWithWeight b_GWL_turnsWithWeight 3 (some .int) tg d 0 0 28 [some (.ref (e_b E + v0)), none, some (.int v2)] [.int y6, .int v1] S I L R n K := by
        refine X.ior (pc := 28) (by decide +kernel) ?_
        refine X.nameI (fun x9 hx9 => ?_)
        have h := lt_at hx9 h
        refine X.istore_1 (pc := 29) (by decide +kernel) (by decide) rfl ?_
        refine X.iinc_2 (pc := 30) (z := 1) (v := 1) ic_1 (by decide +kernel) (by decide) rfl ?_
        refine X.goto (pc := 33) (off := (-29)) (tgt := 4) (by decide +kernel) rfl ?_
        exact ih hS h hk
      have h := hr7
      rcases ifb_some h with ⟨hq5, h⟩ | ⟨hq5, h⟩
      · refine X.if_le_t (pc := 18) (off := 9) (tgt := 27) hq5 rfl (by decide +kernel) ?_
        refine X.iconst (pc := 27) (i := 0) (v := 0) ic_0 (by decide +kernel) ?_
        have j0 := Option.some.inj h
        subst j0
        refine X.fgt (o' := [some (.ref (e_b E + v0)), none, some (.int v2)]) ⟨rfl, ⟨rfl, trivial⟩⟩ ?_
        exact hj8
      · refine X.if_le_f (pc := 18) (off := 9) (tgt := 27) hq5 rfl (by decide +kernel) ?_
        refine X.iconst (pc := 21) (i := 1) (v := 1) ic_1 (by decide +kernel) ?_
        refine X.iload_2 (pc := 22) (by decide +kernel) ?_
        refine X.ishl (pc := 23) (by decide +kernel) ?_
        refine X.goto (pc := 24) (off := 4) (tgt := 28) (by decide +kernel) rfl ?_
        have j0 := Option.some.inj h
        subst j0
        refine X.fgt (o' := [some (.ref (e_b E + v0)), none, some (.int v2)]) ⟨rfl, ⟨rfl, trivial⟩⟩ ?_
        exact hj8
set_option maxRecDepth 100000 in
noncomputable def f_GWL_turnsWithWeight (g : Nat) (S : MS) (R : MR) (I : MI) (t : Nat) : Option Int32 :=
  bnd1 (l_GWL_turnsWithWeight_4 S R I t g 0 0) fun x10 =>
  some x10
set_option maxRecDepth 100000 in
set_option maxHeartbeats 4000000 in
theorem c_GWL_turnsWithWeight {E : Env} (hE : OKE E) {tg : Bool} {d : Nat} (hd : 1 ≤ d) {g : Nat} {S : MS} {I : MI} {L : ML} {R : MR} {n : Nat} {t : Nat} {v : Int32} (hS : (S t).1 = 11) (h : f_GWL_turnsWithWeight g S R I t = some v) : C E y_GWL_turnsWithWeight b_GWL_turnsWithWeight 3 (some .int) tg d 0 0 [.ref (e_b E + t)] S I L R n (Kq (some (.int v)) S I L R n) := by
  refine C.of (o := [some (.ref (e_b E + t)), none, none]) (by decide) rfl (Nat.le_of_ble_eq_true rfl) ?_
  rw [f_GWL_turnsWithWeight] at h
  refine X.iconst (pc := 0) (i := 0) (v := 0) ic_0 (by decide +kernel) ?_
  refine X.istore_1 (pc := 1) (by decide +kernel) (by decide) rfl ?_
  refine X.iconst (pc := 2) (i := 0) (v := 0) ic_0 (by decide +kernel) ?_
  refine X.istore_2 (pc := 3) (by decide +kernel) (by decide) rfl ?_
  obtain ⟨x10, hv11, h⟩ := bnd1_some h
  refine xl_GWL_turnsWithWeight_4 hE hd hS hv11 ?_
  refine X.iload_1 (pc := 36) (by decide +kernel) ?_
  have j0 := Option.some.inj h
  subst j0
  exact X.ireturn (pc := 37) (by decide +kernel) ⟨_, rfl, rfl⟩ ⟨rfl, rfl, rfl, rfl, rfl, rfl⟩
set_option maxRecDepth 100000 in
noncomputable def l_Land_cellsThatAre_5 (S : MS) (R : MR) (I : MI) (v0 : Nat) (v1 : Int32) : Nat → Int64 → Int32 → Option Int64
  | 0, _, _ => none
  | f + 1, v2, v4 =>
    ifb (((I v0 0) * (I v0 1)) ≤ v4)
      (some v2)
      (bnd1 (f_Land_kindOf S R I v0 v4) fun x2 =>
      bnd1 (ifb (x2 = v1)
          (some (lsl 1 v4))
          (some 0)) fun (y5 : Int64) =>
      lt (v2 ||| y5) fun (x8 : Int64) =>
      l_Land_cellsThatAre_5 S R I v0 v1 f x8 (v4 + 1))
set_option maxRecDepth 100000 in
set_option maxHeartbeats 4000000 in
theorem xl_Land_cellsThatAre_5 {E : Env} (hE : OKE E) {tg : Bool} {d : Nat} (hd : 1 ≤ d) {S : MS} {I : MI} {L : ML} {R : MR} {n : Nat} {v0 : Nat} {v1 : Int32} {K : KT} :
    ∀ {f : Nat}  {v2 : Int64} {v4 : Int32} {o2 : Int64}, (S v0).1 = 2 → l_Land_cellsThatAre_5 S R I v0 v1 f v2 v4 = some o2 → X E y_Land_cellsThatAre b_Land_cellsThatAre 5 (some .long) tg d 0 0 46 [none, none, some (.long o2), none, none] [] S I L R n K → X E y_Land_cellsThatAre b_Land_cellsThatAre 5 (some .long) tg d 0 0 5 [some (.ref (e_b E + v0)), some (.int v1), some (.long v2), none, some (.int v4)] [] S I L R n K := by
  intro f
  induction f with
  | zero =>
    intro v2 v4 o2 hS h hk
    rw [l_Land_cellsThatAre_5] at h
    cases h
  | succ f ih =>
    intro v2 v4 o2 hS h hk
    rw [l_Land_cellsThatAre_5] at h
    refine X.iload_4 (pc := 5) (by decide +kernel) ?_
    refine X.aload_0 (pc := 7) (by decide +kernel) ?_
    refine X.getI (pc := 8) (k := 0) fw_Land_9 (by decide +kernel) (fun _ => rfl) hS ?_
    refine X.aload_0 (pc := 11) (by decide +kernel) ?_
    refine X.getI (pc := 12) (k := 1) fw_Land_15 (by decide +kernel) (fun _ => rfl) hS ?_
    refine X.imul (pc := 15) (by decide +kernel) ?_
    rcases ifb_some h with ⟨hq1, h⟩ | ⟨hq1, h⟩
    · refine X.icmp_ge_t (pc := 16) (off := 30) (tgt := 46) hq1 rfl (by decide +kernel) ?_
      have j0 := Option.some.inj h
      subst j0
      refine X.fgt (o' := [none, none, some (.long v2), none, none]) ⟨rfl, trivial⟩ ?_
      exact hk
    · refine X.icmp_ge_f (pc := 16) (off := 30) (tgt := 46) hq1 rfl (by decide +kernel) ?_
      refine X.lload_2 (pc := 19) (by decide +kernel) ?_
      refine X.aload_0 (pc := 20) (by decide +kernel) ?_
      refine X.iload_4 (pc := 21) (by decide +kernel) ?_
      obtain ⟨x2, hv3, h⟩ := bnd1_some h
      refine X.callVi (pc := 23) (nc := 0) (ns := 0) (c_Land_kindOf hE (dle hd (Nat.le_of_ble_eq_true rfl)) hS hv3) cv_Land_28 (by decide +kernel) hS ⟨by decide, rfl⟩ (ddd hd (Nat.le_of_ble_eq_true rfl)) rfl (Nat.le_of_ble_eq_true rfl) rfl rfl ?_
      refine X.iload_1 (pc := 26) (by decide +kernel) ?_
      obtain ⟨y5, hr6, h⟩ := bnd1_some h
      have hj7 : X E y_Land_cellsThatAre b_Land_cellsThatAre 5 (some .long) tg d 0 0 38 [some (.ref (e_b E + v0)), some (.int v1), none, none, some (.int v4)] [.long y5, .long v2] S I L R n K := by
        refine X.lor (pc := 38) (by decide +kernel) ?_
        refine X.nameL (fun x8 hx8 => ?_)
        have h := lt_at hx8 h
        refine X.lstore_2 (pc := 39) (by decide +kernel) (by decide) rfl ?_
        refine X.iinc_4 (pc := 40) (z := 1) (v := 1) ic_1 (by decide +kernel) (by decide) rfl ?_
        refine X.goto (pc := 43) (off := (-38)) (tgt := 5) (by decide +kernel) rfl ?_
        exact ih hS h hk
      have h := hr6
      rcases ifb_some h with ⟨hq4, h⟩ | ⟨hq4, h⟩
      · refine X.icmp_ne_f (pc := 27) (off := 10) (tgt := 37) hq4 rfl (by decide +kernel) ?_
        refine X.lconst (pc := 30) (i := 1) (v := 1) rfl (by decide +kernel) ?_
        refine X.iload_4 (pc := 31) (by decide +kernel) ?_
        refine X.lshl (pc := 33) (by decide +kernel) ?_
        refine X.goto (pc := 34) (off := 4) (tgt := 38) (by decide +kernel) rfl ?_
        have j0 := Option.some.inj h
        subst j0
        refine X.fgt (o' := [some (.ref (e_b E + v0)), some (.int v1), none, none, some (.int v4)]) ⟨rfl, ⟨rfl, ⟨rfl, trivial⟩⟩⟩ ?_
        exact hj7
      · refine X.icmp_ne_t (pc := 27) (off := 10) (tgt := 37) hq4 rfl (by decide +kernel) ?_
        refine X.lconst (pc := 37) (i := 0) (v := 0) rfl (by decide +kernel) ?_
        have j0 := Option.some.inj h
        subst j0
        refine X.fgt (o' := [some (.ref (e_b E + v0)), some (.int v1), none, none, some (.int v4)]) ⟨rfl, ⟨rfl, ⟨rfl, trivial⟩⟩⟩ ?_
        exact hj7
set_option maxRecDepth 100000 in
noncomputable def f_Land_cellsThatAre (g : Nat) (S : MS) (R : MR) (I : MI) (t : Nat) (p1 : Int32) : Option Int64 :=
  bnd1 (l_Land_cellsThatAre_5 S R I t p1 g 0 0) fun x9 =>
  some x9
set_option maxRecDepth 100000 in
set_option maxHeartbeats 4000000 in
theorem c_Land_cellsThatAre {E : Env} (hE : OKE E) {tg : Bool} {d : Nat} (hd : 1 ≤ d) {g : Nat} {S : MS} {I : MI} {L : ML} {R : MR} {n : Nat} {t : Nat} {p1 : Int32} {v : Int64} (hS : (S t).1 = 2) (h : f_Land_cellsThatAre g S R I t p1 = some v) : C E y_Land_cellsThatAre b_Land_cellsThatAre 5 (some .long) tg d 0 0 [.ref (e_b E + t), .int p1] S I L R n (Kq (some (.long v)) S I L R n) := by
  refine C.of (o := [some (.ref (e_b E + t)), some (.int p1), none, none, none]) (by decide) rfl (Nat.le_of_ble_eq_true rfl) ?_
  rw [f_Land_cellsThatAre] at h
  refine X.lconst (pc := 0) (i := 0) (v := 0) rfl (by decide +kernel) ?_
  refine X.lstore_2 (pc := 1) (by decide +kernel) (by decide) rfl ?_
  refine X.iconst (pc := 2) (i := 0) (v := 0) ic_0 (by decide +kernel) ?_
  refine X.istore_4 (pc := 3) (by decide +kernel) (by decide) rfl ?_
  obtain ⟨x9, hv10, h⟩ := bnd1_some h
  refine xl_Land_cellsThatAre_5 hE hd hS hv10 ?_
  refine X.lload_2 (pc := 46) (by decide +kernel) ?_
  have j0 := Option.some.inj h
  subst j0
  exact X.lreturn (pc := 47) (by decide +kernel) rfl ⟨rfl, rfl, rfl, rfl, rfl, rfl⟩
set_option maxRecDepth 100000 in
noncomputable def f_GWL_perils (g : Nat) (S : MS) (R : MR) (I : MI) (L : ML) (t : Nat) (p1 : Int32) : Option (Int32 × MI × ML) :=
  bnd1 (f_GWL_isLength p1 8) fun x1 =>
  ifb (x1 = 0)
    (some ((-1), I, L))
    (bnd1 (f_GWL_isOver S R I t) fun x4 =>
    ifb (x4 = 0)
      (bnd1 (R t 15) fun b7 =>
      bnd1 (R t 2) fun b8 =>
      bnd1 (R t 3) fun b9 =>
      asrt ((S b9).1 = 5) <|
      bnd1 (f_Party_stance S I b9) fun x11 =>
      bnd1 (f_GWL_turnsWithWeight g S R I t) fun x13 =>
      asrt ((S b7).1 = 9) <|
      bnd1 (f_Spread_from g S R I b7 b8 x11 p1 x13) fun I16 =>
      bnd1 (f_Spread_cells g S R I16 b7) fun x18 =>
      asrt ((S b8).1 = 2) <|
      bnd1 (f_Land_cellsThatAre g S R I16 b8 1) fun x21 =>
      bnd3 (f_GWL_tellCells S R I16 L t (x18 &&& x21)) fun x23 I24 L25 =>
      some (x23, I24, L25))
      (bnd3 (f_GWL_tellCells S R I L t 0) fun x27 I28 L29 =>
      some (x27, I28, L29)))
set_option maxRecDepth 100000 in
set_option maxHeartbeats 4000000 in
theorem c_GWL_perils {E : Env} (hE : OKE E) {tg : Bool} {d : Nat} (hd : 3 ≤ d) {g : Nat} {S : MS} {I : MI} {L : ML} {R : MR} {n : Nat} {t : Nat} {p1 : Int32} {v : Int32} {I' : MI} {L' : ML} (hS : (S t).1 = 11) (h : f_GWL_perils g S R I L t p1 = some (v, I', L')) : C E y_GWL_perils b_GWL_perils 2 (some .int) tg d 0 0 [.ref (e_b E + t), .int p1] S I L R n (Kq (some (.int v)) S I' L' R n) := by
  refine C.of (o := [some (.ref (e_b E + t)), some (.int p1)]) (by decide) rfl (Nat.le_of_ble_eq_true rfl) ?_
  rw [f_GWL_perils] at h
  refine X.iload_1 (pc := 0) (by decide +kernel) ?_
  refine X.bipush (pc := 1) (i := 8) (v := 8) bp_8 (by decide +kernel) ?_
  obtain ⟨x1, hv2, h⟩ := bnd1_some h
  refine X.callSi (pc := 3) (nc := 0) (ns := 0) (c_GWL_isLength hE (dle hd (Nat.le_of_ble_eq_true rfl)) hv2) cv_GWL_271 (by decide +kernel) (ddd hd (Nat.le_of_ble_eq_true rfl)) rfl (Nat.le_of_ble_eq_true rfl) rfl rfl ?_
  rcases ifb_some h with ⟨hq3, h⟩ | ⟨hq3, h⟩
  · refine X.if_ne_f (pc := 6) (off := 5) (tgt := 11) hq3 rfl (by decide +kernel) ?_
    refine X.iconst (pc := 9) (i := (-1)) (v := (-1)) ic_m1 (by decide +kernel) ?_
    have j0 := Option.some.inj h
    obtain ⟨i0, j1⟩ := Prod.mk.inj j0
    obtain ⟨i1, j2⟩ := Prod.mk.inj j1
    subst i0
    subst i1
    subst j2
    exact X.ireturn (pc := 10) (by decide +kernel) ⟨_, rfl, rfl⟩ ⟨rfl, rfl, rfl, rfl, rfl, rfl⟩
  · refine X.if_ne_t (pc := 6) (off := 5) (tgt := 11) hq3 rfl (by decide +kernel) ?_
    refine X.aload_0 (pc := 11) (by decide +kernel) ?_
    obtain ⟨x4, hv5, h⟩ := bnd1_some h
    refine X.callVi (pc := 12) (nc := 0) (ns := 0) (c_GWL_isOver hE (dle hd (Nat.le_of_ble_eq_true rfl)) hS hv5) cv_GWL_191 (by decide +kernel) hS ⟨by decide, rfl⟩ (ddd hd (Nat.le_of_ble_eq_true rfl)) rfl (Nat.le_of_ble_eq_true rfl) rfl rfl ?_
    rcases ifb_some h with ⟨hq6, h⟩ | ⟨hq6, h⟩
    · refine X.if_eq_t (pc := 15) (off := 9) (tgt := 24) hq6 rfl (by decide +kernel) ?_
      refine X.aload_0 (pc := 24) (by decide +kernel) ?_
      obtain ⟨b7, hb7, h⟩ := bnd1_some h
      refine X.getR (pc := 25) (k := 15) fw_GWL_68 (by decide +kernel) (fun _ => rfl) hS hb7 ?_
      refine X.aload_0 (pc := 28) (by decide +kernel) ?_
      obtain ⟨b8, hb8, h⟩ := bnd1_some h
      refine X.getR (pc := 29) (k := 2) fw_GWL_83 (by decide +kernel) (fun _ => rfl) hS hb8 ?_
      refine X.aload_0 (pc := 32) (by decide +kernel) ?_
      obtain ⟨b9, hb9, h⟩ := bnd1_some h
      refine X.getR (pc := 33) (k := 3) fw_GWL_87 (by decide +kernel) (fun _ => rfl) hS hb9 ?_
      obtain ⟨hc10, h⟩ := asrt_some h
      obtain ⟨x11, hv12, h⟩ := bnd1_some h
      refine X.callVi (pc := 36) (nc := 0) (ns := 0) (c_Party_stance hE (dle hd (Nat.le_of_ble_eq_true rfl)) hc10 hv12) cv_GWL_228 (by decide +kernel) hc10 ⟨by decide, rfl⟩ (ddd hd (Nat.le_of_ble_eq_true rfl)) rfl (Nat.le_of_ble_eq_true rfl) rfl rfl ?_
      refine X.iload_1 (pc := 39) (by decide +kernel) ?_
      refine X.aload_0 (pc := 40) (by decide +kernel) ?_
      obtain ⟨x13, hv14, h⟩ := bnd1_some h
      refine X.callVi (pc := 41) (nc := 0) (ns := 0) (c_GWL_turnsWithWeight hE (dle hd (Nat.le_of_ble_eq_true rfl)) hS hv14) cv_GWL_306 (by decide +kernel) hS ⟨by decide, rfl⟩ (ddd hd (Nat.le_of_ble_eq_true rfl)) rfl (Nat.le_of_ble_eq_true rfl) rfl rfl ?_
      obtain ⟨hc15, h⟩ := asrt_some h
      obtain ⟨I16, hv17, h⟩ := bnd1_some h
      refine X.callVv (pc := 44) (nc := 0) (ns := 0) (c_Spread_from hE (dle hd (Nat.le_of_ble_eq_true rfl)) hc15 hv17) cv_GWL_259 (by decide +kernel) hc15 ⟨by decide, rfl⟩ (ddd hd (Nat.le_of_ble_eq_true rfl)) rfl (Nat.le_of_ble_eq_true rfl) rfl rfl ?_
      refine X.aload_0 (pc := 47) (by decide +kernel) ?_
      refine X.aload_0 (pc := 48) (by decide +kernel) ?_
      refine X.getR (pc := 49) (k := 15) fw_GWL_68 (by decide +kernel) (fun _ => rfl) hS hb7 ?_
      obtain ⟨x18, hv19, h⟩ := bnd1_some h
      refine X.callVl (pc := 52) (nc := 0) (ns := 0) (c_Spread_cells hE (dle hd (Nat.le_of_ble_eq_true rfl)) hc15 hv19) cv_GWL_263 (by decide +kernel) hc15 ⟨by decide, rfl⟩ (ddd hd (Nat.le_of_ble_eq_true rfl)) rfl (Nat.le_of_ble_eq_true rfl) rfl rfl ?_
      refine X.aload_0 (pc := 55) (by decide +kernel) ?_
      refine X.getR (pc := 56) (k := 2) fw_GWL_83 (by decide +kernel) (fun _ => rfl) hS hb8 ?_
      refine X.iconst (pc := 59) (i := 1) (v := 1) ic_1 (by decide +kernel) ?_
      obtain ⟨hc20, h⟩ := asrt_some h
      obtain ⟨x21, hv22, h⟩ := bnd1_some h
      refine X.callVl (pc := 60) (nc := 0) (ns := 0) (c_Land_cellsThatAre hE (dle hd (Nat.le_of_ble_eq_true rfl)) hc20 hv22) cv_GWL_309 (by decide +kernel) hc20 ⟨by decide, rfl⟩ (ddd hd (Nat.le_of_ble_eq_true rfl)) rfl (Nat.le_of_ble_eq_true rfl) rfl rfl ?_
      refine X.land (pc := 63) (by decide +kernel) ?_
      obtain ⟨x23, I24, L25, hv26, h⟩ := bnd3_some h
      refine X.callVi (pc := 64) (nc := 0) (ns := 0) (c_GWL_tellCells hE (dle hd (Nat.le_of_ble_eq_true rfl)) hS hv26) cv_GWL_267 (by decide +kernel) hS ⟨by decide, rfl⟩ (ddd hd (Nat.le_of_ble_eq_true rfl)) rfl (Nat.le_of_ble_eq_true rfl) rfl rfl ?_
      have j0 := Option.some.inj h
      obtain ⟨i0, j1⟩ := Prod.mk.inj j0
      obtain ⟨i1, j2⟩ := Prod.mk.inj j1
      subst i0
      subst i1
      subst j2
      exact X.ireturn (pc := 67) (by decide +kernel) ⟨_, rfl, rfl⟩ ⟨rfl, rfl, rfl, rfl, rfl, rfl⟩
    · refine X.if_eq_f (pc := 15) (off := 9) (tgt := 24) hq6 rfl (by decide +kernel) ?_
      refine X.aload_0 (pc := 18) (by decide +kernel) ?_
      refine X.lconst (pc := 19) (i := 0) (v := 0) rfl (by decide +kernel) ?_
      obtain ⟨x27, I28, L29, hv30, h⟩ := bnd3_some h
      refine X.callVi (pc := 20) (nc := 0) (ns := 0) (c_GWL_tellCells hE (dle hd (Nat.le_of_ble_eq_true rfl)) hS hv30) cv_GWL_267 (by decide +kernel) hS ⟨by decide, rfl⟩ (ddd hd (Nat.le_of_ble_eq_true rfl)) rfl (Nat.le_of_ble_eq_true rfl) rfl rfl ?_
      have j0 := Option.some.inj h
      obtain ⟨i0, j1⟩ := Prod.mk.inj j0
      obtain ⟨i1, j2⟩ := Prod.mk.inj j1
      subst i0
      subst i1
      subst j2
      exact X.ireturn (pc := 23) (by decide +kernel) ⟨_, rfl, rfl⟩ ⟨rfl, rfl, rfl, rfl, rfl, rfl⟩
set_option maxRecDepth 100000 in
noncomputable def f_GWL_behind (g : Nat) (S : MS) (R : MR) (I : MI) (L : ML) (t : Nat) (p1 : Int32) (p2 : Int32) : Option (Int32 × MI × ML × MR) :=
  bnd1 (R t 2) fun b1 =>
  asrt ((S b1).1 = 2) <|
  bnd1 (f_Land_has S I b1 p1) fun x3 =>
  ifb (x3 = 0)
    (some ((-1), I, L, R))
    (bnd1 (f_GWL_isLength p2 8) fun x6 =>
    ifb (x6 = 0)
      (some ((-1), I, L, R))
      (bnd1 (R t 1) fun b9 =>
      asrt ((S b9).1 = 4) <|
      bnd1 (f_Numbers_begin S I b9) fun I11 =>
      bnd1 (R t 9) fun b13 =>
      asrt ((S b13).1 = 0) <|
      bnd1 (f_Fee_want S I11 b13 0 0 0 0) fun I15 =>
      lt (wI I15 b13 5 p1) fun (I17 : MI) =>
      bnd1 (R t 14) fun b18 =>
      bnd1 (R t 3) fun b19 =>
      asrt ((S b19).1 = 5) <|
      bnd1 (f_Party_stance S I17 b19) fun x21 =>
      asrt ((S b18).1 = 1) <|
      bnd3 (f_Guide_lead g S R I17 L b18 b13 p2 0 (I17 t 6) x21) fun I24 L25 R26 =>
      bnd1 (R26 t 1) fun b28 =>
      bnd1 (R26 t 14) fun b29 =>
      asrt ((S b29).1 = 1) <|
      bnd1 (f_Guide_payOf S R26 I24 L25 b29 0) fun x31 =>
      bnd1 (f_GWL_hundreds p2) fun x33 =>
      asrt ((S b28).1 = 4) <|
      bnd2 (f_Numbers_addFraction g S R26 I24 L25 b28 x31 x33) fun I36 L37 =>
      bnd1 (R26 t 9) fun b39 =>
      asrt ((S b39).1 = 0) <|
      bnd1 (f_Fee_want S I36 b39 0 0 0 1) fun I41 =>
      bnd1 (R26 t 3) fun b43 =>
      asrt ((S b43).1 = 5) <|
      bnd1 (f_Party_stance S I41 b43) fun x45 =>
      bnd3 (f_Guide_lead g S R26 I41 L37 b29 b39 p2 0 (I41 t 6) x45) fun I47 L48 R49 =>
      bnd1 (R49 t 1) fun b51 =>
      bnd1 (R49 t 14) fun b52 =>
      asrt ((S b52).1 = 1) <|
      bnd1 (f_Guide_payOf S R49 I47 L48 b52 0) fun x54 =>
      bnd1 (f_GWL_hundreds p2) fun x56 =>
      asrt ((S b51).1 = 4) <|
      bnd2 (f_Numbers_addFraction g S R49 I47 L48 b51 x54 x56) fun I59 L60 =>
      some (0, I59, L60, R49)))
set_option maxRecDepth 100000 in
set_option maxHeartbeats 4000000 in
theorem c_GWL_behind {E : Env} (hE : OKE E) {tg : Bool} {d : Nat} (hd : 4 ≤ d) {g : Nat} {S : MS} {I : MI} {L : ML} {R : MR} {n : Nat} {t : Nat} {p1 : Int32} {p2 : Int32} {v : Int32} {I' : MI} {L' : ML} {R' : MR} (hS : (S t).1 = 11) (h : f_GWL_behind g S R I L t p1 p2 = some (v, I', L', R')) : C E y_GWL_behind b_GWL_behind 3 (some .int) tg d 0 0 [.ref (e_b E + t), .int p1, .int p2] S I L R n (Kq (some (.int v)) S I' L' R' n) := by
  refine C.of (o := [some (.ref (e_b E + t)), some (.int p1), some (.int p2)]) (by decide) rfl (Nat.le_of_ble_eq_true rfl) ?_
  rw [f_GWL_behind] at h
  refine X.aload_0 (pc := 0) (by decide +kernel) ?_
  obtain ⟨b1, hb1, h⟩ := bnd1_some h
  refine X.getR (pc := 1) (k := 2) fw_GWL_83 (by decide +kernel) (fun _ => rfl) hS hb1 ?_
  refine X.iload_1 (pc := 4) (by decide +kernel) ?_
  obtain ⟨hc2, h⟩ := asrt_some h
  obtain ⟨x3, hv4, h⟩ := bnd1_some h
  refine X.callVi (pc := 5) (nc := 0) (ns := 0) (c_Land_has hE (dle hd (Nat.le_of_ble_eq_true rfl)) hc2 hv4) cv_GWL_172 (by decide +kernel) hc2 ⟨by decide, rfl⟩ (ddd hd (Nat.le_of_ble_eq_true rfl)) rfl (Nat.le_of_ble_eq_true rfl) rfl rfl ?_
  rcases ifb_some h with ⟨hq5, h⟩ | ⟨hq5, h⟩
  · refine X.if_eq_t (pc := 8) (off := 12) (tgt := 20) hq5 rfl (by decide +kernel) ?_
    refine X.iconst (pc := 20) (i := (-1)) (v := (-1)) ic_m1 (by decide +kernel) ?_
    have j0 := Option.some.inj h
    obtain ⟨i0, j1⟩ := Prod.mk.inj j0
    obtain ⟨i1, j2⟩ := Prod.mk.inj j1
    obtain ⟨i2, j3⟩ := Prod.mk.inj j2
    subst i0
    subst i1
    subst i2
    subst j3
    exact X.ireturn (pc := 21) (by decide +kernel) ⟨_, rfl, rfl⟩ ⟨rfl, rfl, rfl, rfl, rfl, rfl⟩
  · refine X.if_eq_f (pc := 8) (off := 12) (tgt := 20) hq5 rfl (by decide +kernel) ?_
    refine X.iload_2 (pc := 11) (by decide +kernel) ?_
    refine X.bipush (pc := 12) (i := 8) (v := 8) bp_8 (by decide +kernel) ?_
    obtain ⟨x6, hv7, h⟩ := bnd1_some h
    refine X.callSi (pc := 14) (nc := 0) (ns := 0) (c_GWL_isLength hE (dle hd (Nat.le_of_ble_eq_true rfl)) hv7) cv_GWL_271 (by decide +kernel) (ddd hd (Nat.le_of_ble_eq_true rfl)) rfl (Nat.le_of_ble_eq_true rfl) rfl rfl ?_
    rcases ifb_some h with ⟨hq8, h⟩ | ⟨hq8, h⟩
    · refine X.if_ne_f (pc := 17) (off := 5) (tgt := 22) hq8 rfl (by decide +kernel) ?_
      refine X.iconst (pc := 20) (i := (-1)) (v := (-1)) ic_m1 (by decide +kernel) ?_
      have j0 := Option.some.inj h
      obtain ⟨i0, j1⟩ := Prod.mk.inj j0
      obtain ⟨i1, j2⟩ := Prod.mk.inj j1
      obtain ⟨i2, j3⟩ := Prod.mk.inj j2
      subst i0
      subst i1
      subst i2
      subst j3
      exact X.ireturn (pc := 21) (by decide +kernel) ⟨_, rfl, rfl⟩ ⟨rfl, rfl, rfl, rfl, rfl, rfl⟩
    · refine X.if_ne_t (pc := 17) (off := 5) (tgt := 22) hq8 rfl (by decide +kernel) ?_
      refine X.aload_0 (pc := 22) (by decide +kernel) ?_
      obtain ⟨b9, hb9, h⟩ := bnd1_some h
      refine X.getR (pc := 23) (k := 1) fw_GWL_19 (by decide +kernel) (fun _ => rfl) hS hb9 ?_
      obtain ⟨hc10, h⟩ := asrt_some h
      obtain ⟨I11, hv12, h⟩ := bnd1_some h
      refine X.callVv (pc := 26) (nc := 0) (ns := 0) (c_Numbers_begin hE (dle hd (Nat.le_of_ble_eq_true rfl)) hc10 hv12) cv_GWL_207 (by decide +kernel) hc10 ⟨by decide, rfl⟩ (ddd hd (Nat.le_of_ble_eq_true rfl)) rfl (Nat.le_of_ble_eq_true rfl) rfl rfl ?_
      refine X.aload_0 (pc := 29) (by decide +kernel) ?_
      obtain ⟨b13, hb13, h⟩ := bnd1_some h
      refine X.getR (pc := 30) (k := 9) fw_GWL_44 (by decide +kernel) (fun _ => rfl) hS hb13 ?_
      refine X.iconst (pc := 33) (i := 0) (v := 0) ic_0 (by decide +kernel) ?_
      refine X.iconst (pc := 34) (i := 0) (v := 0) ic_0 (by decide +kernel) ?_
      refine X.iconst (pc := 35) (i := 0) (v := 0) ic_0 (by decide +kernel) ?_
      refine X.iconst (pc := 36) (i := 0) (v := 0) ic_0 (by decide +kernel) ?_
      obtain ⟨hc14, h⟩ := asrt_some h
      obtain ⟨I15, hv16, h⟩ := bnd1_some h
      refine X.callVv (pc := 37) (nc := 0) (ns := 0) (c_Fee_want hE (dle hd (Nat.le_of_ble_eq_true rfl)) hc14 hv16) cv_GWL_275 (by decide +kernel) hc14 ⟨by decide, rfl⟩ (ddd hd (Nat.le_of_ble_eq_true rfl)) rfl (Nat.le_of_ble_eq_true rfl) rfl rfl ?_
      refine X.aload_0 (pc := 40) (by decide +kernel) ?_
      refine X.getR (pc := 41) (k := 9) fw_GWL_44 (by decide +kernel) (fun _ => rfl) hS hb13 ?_
      refine X.iload_1 (pc := 44) (by decide +kernel) ?_
      refine X.putI (pc := 45) (k := 5) fw_GWL_312 (by decide +kernel) rfl rfl hc14 ?_
      refine X.nameMI (fun I17 hI17 => ?_)
      have h := lt_at hI17 h
      refine X.aload_0 (pc := 48) (by decide +kernel) ?_
      obtain ⟨b18, hb18, h⟩ := bnd1_some h
      refine X.getR (pc := 49) (k := 14) fw_GWL_99 (by decide +kernel) (fun _ => rfl) hS hb18 ?_
      refine X.aload_0 (pc := 52) (by decide +kernel) ?_
      refine X.getR (pc := 53) (k := 9) fw_GWL_44 (by decide +kernel) (fun _ => rfl) hS hb13 ?_
      refine X.iload_2 (pc := 56) (by decide +kernel) ?_
      refine X.iconst (pc := 57) (i := 0) (v := 0) ic_0 (by decide +kernel) ?_
      refine X.aload_0 (pc := 58) (by decide +kernel) ?_
      refine X.getI (pc := 59) (k := 6) fw_GWL_30 (by decide +kernel) (fun _ => rfl) hS ?_
      refine X.aload_0 (pc := 62) (by decide +kernel) ?_
      obtain ⟨b19, hb19, h⟩ := bnd1_some h
      refine X.getR (pc := 63) (k := 3) fw_GWL_87 (by decide +kernel) (fun _ => rfl) hS hb19 ?_
      obtain ⟨hc20, h⟩ := asrt_some h
      obtain ⟨x21, hv22, h⟩ := bnd1_some h
      refine X.callVi (pc := 66) (nc := 0) (ns := 0) (c_Party_stance hE (dle hd (Nat.le_of_ble_eq_true rfl)) hc20 hv22) cv_GWL_228 (by decide +kernel) hc20 ⟨by decide, rfl⟩ (ddd hd (Nat.le_of_ble_eq_true rfl)) rfl (Nat.le_of_ble_eq_true rfl) rfl rfl ?_
      obtain ⟨hc23, h⟩ := asrt_some h
      obtain ⟨I24, L25, R26, hv27, h⟩ := bnd3_some h
      refine X.callVv (pc := 69) (nc := 0) (ns := 0) (c_Guide_lead hE (dle hd (Nat.le_of_ble_eq_true rfl)) hc23 hv27) cv_GWL_279 (by decide +kernel) hc23 ⟨by decide, rfl⟩ (ddd hd (Nat.le_of_ble_eq_true rfl)) rfl (Nat.le_of_ble_eq_true rfl) rfl rfl ?_
      refine X.aload_0 (pc := 72) (by decide +kernel) ?_
      obtain ⟨b28, hb28, h⟩ := bnd1_some h
      refine X.getR (pc := 73) (k := 1) fw_GWL_19 (by decide +kernel) (fun _ => rfl) hS hb28 ?_
      refine X.aload_0 (pc := 76) (by decide +kernel) ?_
      obtain ⟨b29, hb29, h⟩ := bnd1_some h
      refine X.getR (pc := 77) (k := 14) fw_GWL_99 (by decide +kernel) (fun _ => rfl) hS hb29 ?_
      refine X.iconst (pc := 80) (i := 0) (v := 0) ic_0 (by decide +kernel) ?_
      obtain ⟨hc30, h⟩ := asrt_some h
      obtain ⟨x31, hv32, h⟩ := bnd1_some h
      refine X.callVl (pc := 81) (nc := 0) (ns := 0) (c_Guide_payOf hE (dle hd (Nat.le_of_ble_eq_true rfl)) hc30 hv32) cv_GWL_294 (by decide +kernel) hc30 ⟨by decide, rfl⟩ (ddd hd (Nat.le_of_ble_eq_true rfl)) rfl (Nat.le_of_ble_eq_true rfl) rfl rfl ?_
      refine X.iload_2 (pc := 84) (by decide +kernel) ?_
      obtain ⟨x33, hv34, h⟩ := bnd1_some h
      refine X.callSl (pc := 85) (nc := 0) (ns := 0) (c_GWL_hundreds hE (dle hd (Nat.le_of_ble_eq_true rfl)) hv34) cv_GWL_287 (by decide +kernel) (ddd hd (Nat.le_of_ble_eq_true rfl)) rfl (Nat.le_of_ble_eq_true rfl) rfl rfl ?_
      obtain ⟨hc35, h⟩ := asrt_some h
      obtain ⟨I36, L37, hv38, h⟩ := bnd2_some h
      refine X.callVv (pc := 88) (nc := 0) (ns := 0) (c_Numbers_addFraction hE (dle hd (Nat.le_of_ble_eq_true rfl)) hc35 hv38) cv_GWL_290 (by decide +kernel) hc35 ⟨by decide, rfl⟩ (ddd hd (Nat.le_of_ble_eq_true rfl)) rfl (Nat.le_of_ble_eq_true rfl) rfl rfl ?_
      refine X.aload_0 (pc := 91) (by decide +kernel) ?_
      obtain ⟨b39, hb39, h⟩ := bnd1_some h
      refine X.getR (pc := 92) (k := 9) fw_GWL_44 (by decide +kernel) (fun _ => rfl) hS hb39 ?_
      refine X.iconst (pc := 95) (i := 0) (v := 0) ic_0 (by decide +kernel) ?_
      refine X.iconst (pc := 96) (i := 0) (v := 0) ic_0 (by decide +kernel) ?_
      refine X.iconst (pc := 97) (i := 0) (v := 0) ic_0 (by decide +kernel) ?_
      refine X.iconst (pc := 98) (i := 1) (v := 1) ic_1 (by decide +kernel) ?_
      obtain ⟨hc40, h⟩ := asrt_some h
      obtain ⟨I41, hv42, h⟩ := bnd1_some h
      refine X.callVv (pc := 99) (nc := 0) (ns := 0) (c_Fee_want hE (dle hd (Nat.le_of_ble_eq_true rfl)) hc40 hv42) cv_GWL_275 (by decide +kernel) hc40 ⟨by decide, rfl⟩ (ddd hd (Nat.le_of_ble_eq_true rfl)) rfl (Nat.le_of_ble_eq_true rfl) rfl rfl ?_
      refine X.aload_0 (pc := 102) (by decide +kernel) ?_
      refine X.getR (pc := 103) (k := 14) fw_GWL_99 (by decide +kernel) (fun _ => rfl) hS hb29 ?_
      refine X.aload_0 (pc := 106) (by decide +kernel) ?_
      refine X.getR (pc := 107) (k := 9) fw_GWL_44 (by decide +kernel) (fun _ => rfl) hS hb39 ?_
      refine X.iload_2 (pc := 110) (by decide +kernel) ?_
      refine X.iconst (pc := 111) (i := 0) (v := 0) ic_0 (by decide +kernel) ?_
      refine X.aload_0 (pc := 112) (by decide +kernel) ?_
      refine X.getI (pc := 113) (k := 6) fw_GWL_30 (by decide +kernel) (fun _ => rfl) hS ?_
      refine X.aload_0 (pc := 116) (by decide +kernel) ?_
      obtain ⟨b43, hb43, h⟩ := bnd1_some h
      refine X.getR (pc := 117) (k := 3) fw_GWL_87 (by decide +kernel) (fun _ => rfl) hS hb43 ?_
      obtain ⟨hc44, h⟩ := asrt_some h
      obtain ⟨x45, hv46, h⟩ := bnd1_some h
      refine X.callVi (pc := 120) (nc := 0) (ns := 0) (c_Party_stance hE (dle hd (Nat.le_of_ble_eq_true rfl)) hc44 hv46) cv_GWL_228 (by decide +kernel) hc44 ⟨by decide, rfl⟩ (ddd hd (Nat.le_of_ble_eq_true rfl)) rfl (Nat.le_of_ble_eq_true rfl) rfl rfl ?_
      obtain ⟨I47, L48, R49, hv50, h⟩ := bnd3_some h
      refine X.callVv (pc := 123) (nc := 0) (ns := 0) (c_Guide_lead hE (dle hd (Nat.le_of_ble_eq_true rfl)) hc30 hv50) cv_GWL_279 (by decide +kernel) hc30 ⟨by decide, rfl⟩ (ddd hd (Nat.le_of_ble_eq_true rfl)) rfl (Nat.le_of_ble_eq_true rfl) rfl rfl ?_
      refine X.aload_0 (pc := 126) (by decide +kernel) ?_
      obtain ⟨b51, hb51, h⟩ := bnd1_some h
      refine X.getR (pc := 127) (k := 1) fw_GWL_19 (by decide +kernel) (fun _ => rfl) hS hb51 ?_
      refine X.aload_0 (pc := 130) (by decide +kernel) ?_
      obtain ⟨b52, hb52, h⟩ := bnd1_some h
      refine X.getR (pc := 131) (k := 14) fw_GWL_99 (by decide +kernel) (fun _ => rfl) hS hb52 ?_
      refine X.iconst (pc := 134) (i := 0) (v := 0) ic_0 (by decide +kernel) ?_
      obtain ⟨hc53, h⟩ := asrt_some h
      obtain ⟨x54, hv55, h⟩ := bnd1_some h
      refine X.callVl (pc := 135) (nc := 0) (ns := 0) (c_Guide_payOf hE (dle hd (Nat.le_of_ble_eq_true rfl)) hc53 hv55) cv_GWL_294 (by decide +kernel) hc53 ⟨by decide, rfl⟩ (ddd hd (Nat.le_of_ble_eq_true rfl)) rfl (Nat.le_of_ble_eq_true rfl) rfl rfl ?_
      refine X.iload_2 (pc := 138) (by decide +kernel) ?_
      obtain ⟨x56, hv57, h⟩ := bnd1_some h
      refine X.callSl (pc := 139) (nc := 0) (ns := 0) (c_GWL_hundreds hE (dle hd (Nat.le_of_ble_eq_true rfl)) hv57) cv_GWL_287 (by decide +kernel) (ddd hd (Nat.le_of_ble_eq_true rfl)) rfl (Nat.le_of_ble_eq_true rfl) rfl rfl ?_
      obtain ⟨hc58, h⟩ := asrt_some h
      obtain ⟨I59, L60, hv61, h⟩ := bnd2_some h
      refine X.callVv (pc := 142) (nc := 0) (ns := 0) (c_Numbers_addFraction hE (dle hd (Nat.le_of_ble_eq_true rfl)) hc58 hv61) cv_GWL_290 (by decide +kernel) hc58 ⟨by decide, rfl⟩ (ddd hd (Nat.le_of_ble_eq_true rfl)) rfl (Nat.le_of_ble_eq_true rfl) rfl rfl ?_
      refine X.iconst (pc := 145) (i := 0) (v := 0) ic_0 (by decide +kernel) ?_
      have j0 := Option.some.inj h
      obtain ⟨i0, j1⟩ := Prod.mk.inj j0
      obtain ⟨i1, j2⟩ := Prod.mk.inj j1
      obtain ⟨i2, j3⟩ := Prod.mk.inj j2
      subst i0
      subst i1
      subst i2
      subst j3
      exact X.ireturn (pc := 146) (by decide +kernel) ⟨_, rfl, rfl⟩ ⟨rfl, rfl, rfl, rfl, rfl, rfl⟩
set_option maxRecDepth 100000 in
noncomputable def l_GWL_loud_23 (g : Nat) (S : MS) (v0 : Nat) (v1 : Int32) (v2 : Int32) : Nat → MI → ML → MR → Int32 → Option (Int32 × MI × ML × MR)
  | 0, _, _, _, _ => none
  | f + 1, I, L, R, v3 =>
    ifb (10 < v3)
      (some ((-2), I, L, R))
      (bnd4 (f_GWL_bestChance g S R I L v0 v1 v3) fun x7 I8 L9 R10 =>
      bnd1 (f_GWL_hundreds v1) fun x12 =>
      ifb ((lg_cmp (x7 * 100) ((Int32.toInt64 v2) * x12)) < 0)
        (l_GWL_loud_23 g S v0 v1 v2 f I8 L9 R10 (v3 + 1))
        (some (v3, I8, L9, R10)))
set_option maxRecDepth 100000 in
set_option maxHeartbeats 4000000 in
theorem xl_GWL_loud_23 {E : Env} (hE : OKE E) {tg : Bool} {d : Nat} (hd : 5 ≤ d) {g : Nat} {S : MS} {n : Nat} {v0 : Nat} {v1 : Int32} {v2 : Int32} :
    ∀ {f : Nat} {I : MI} {L : ML} {R : MR} {v3 : Int32} {v : Int32} {I' : MI} {L' : ML} {R' : MR}, (S v0).1 = 11 → l_GWL_loud_23 g S v0 v1 v2 f I L R v3 = some (v, I', L', R') → X E y_GWL_loud b_GWL_loud 4 (some .int) tg d 0 0 23 [some (.ref (e_b E + v0)), some (.int v1), some (.int v2), some (.int v3)] [] S I L R n (Kq (some (.int v)) S I' L' R' n) := by
  intro f
  induction f with
  | zero =>
    intro I L R v3 v I' L' R' hS h
    rw [l_GWL_loud_23] at h
    cases h
  | succ f ih =>
    intro I L R v3 v I' L' R' hS h
    rw [l_GWL_loud_23] at h
    refine X.iload_3 (pc := 23) (by decide +kernel) ?_
    refine X.bipush (pc := 24) (i := 10) (v := 10) bp_10 (by decide +kernel) ?_
    rcases ifb_some h with ⟨hq6, h⟩ | ⟨hq6, h⟩
    · refine X.icmp_gt_t (pc := 26) (off := 32) (tgt := 58) hq6 rfl (by decide +kernel) ?_
      refine X.bipush (pc := 58) (i := (-2)) (v := (-2)) bp_m2 (by decide +kernel) ?_
      have j0 := Option.some.inj h
      obtain ⟨i0, j1⟩ := Prod.mk.inj j0
      obtain ⟨i1, j2⟩ := Prod.mk.inj j1
      obtain ⟨i2, j3⟩ := Prod.mk.inj j2
      subst i0
      subst i1
      subst i2
      subst j3
      exact X.ireturn (pc := 60) (by decide +kernel) ⟨_, rfl, rfl⟩ ⟨rfl, rfl, rfl, rfl, rfl, rfl⟩
    · refine X.icmp_gt_f (pc := 26) (off := 32) (tgt := 58) hq6 rfl (by decide +kernel) ?_
      refine X.aload_0 (pc := 29) (by decide +kernel) ?_
      refine X.iload_1 (pc := 30) (by decide +kernel) ?_
      refine X.iload_3 (pc := 31) (by decide +kernel) ?_
      obtain ⟨x7, I8, L9, R10, hv11, h⟩ := bnd4_some h
      refine X.callVl (pc := 32) (nc := 0) (ns := 0) (c_GWL_bestChance hE (dle hd (Nat.le_of_ble_eq_true rfl)) hS hv11) cv_GWL_297 (by decide +kernel) hS ⟨by decide, rfl⟩ (ddd hd (Nat.le_of_ble_eq_true rfl)) rfl (Nat.le_of_ble_eq_true rfl) rfl rfl ?_
      refine X.ldc2 (pc := 35) (x := 301) (v := 100) ld_GWL_301 (by decide +kernel) ?_
      refine X.lmul (pc := 38) (by decide +kernel) ?_
      refine X.iload_2 (pc := 39) (by decide +kernel) ?_
      refine X.i2l (pc := 40) (by decide +kernel) ?_
      refine X.iload_1 (pc := 41) (by decide +kernel) ?_
      obtain ⟨x12, hv13, h⟩ := bnd1_some h
      refine X.callSl (pc := 42) (nc := 0) (ns := 0) (c_GWL_hundreds hE (dle hd (Nat.le_of_ble_eq_true rfl)) hv13) cv_GWL_287 (by decide +kernel) (ddd hd (Nat.le_of_ble_eq_true rfl)) rfl (Nat.le_of_ble_eq_true rfl) rfl rfl ?_
      refine X.lmul (pc := 45) (by decide +kernel) ?_
      refine X.lcmp (pc := 46) (by decide +kernel) ?_
      rcases ifb_some h with ⟨hq14, h⟩ | ⟨hq14, h⟩
      · refine X.if_lt_t (pc := 47) (off := 5) (tgt := 52) hq14 rfl (by decide +kernel) ?_
        refine X.iinc_3 (pc := 52) (z := 1) (v := 1) ic_1 (by decide +kernel) (by decide) rfl ?_
        refine X.goto (pc := 55) (off := (-32)) (tgt := 23) (by decide +kernel) rfl ?_
        exact ih hS h
      · refine X.if_lt_f (pc := 47) (off := 5) (tgt := 52) hq14 rfl (by decide +kernel) ?_
        refine X.iload_3 (pc := 50) (by decide +kernel) ?_
        have j0 := Option.some.inj h
        obtain ⟨i0, j1⟩ := Prod.mk.inj j0
        obtain ⟨i1, j2⟩ := Prod.mk.inj j1
        obtain ⟨i2, j3⟩ := Prod.mk.inj j2
        subst i0
        subst i1
        subst i2
        subst j3
        exact X.ireturn (pc := 51) (by decide +kernel) ⟨_, rfl, rfl⟩ ⟨rfl, rfl, rfl, rfl, rfl, rfl⟩
set_option maxRecDepth 100000 in
noncomputable def f_GWL_loud (g : Nat) (S : MS) (R : MR) (I : MI) (L : ML) (t : Nat) (p1 : Int32) (p2 : Int32) : Option (Int32 × MI × ML × MR) :=
  bnd1 (f_GWL_isLength p1 8) fun x1 =>
  ifb (x1 = 0)
    (some ((-1), I, L, R))
    (ifb (p2 < 0)
      (some ((-1), I, L, R))
      (ifb (p2 ≤ 100)
        (l_GWL_loud_23 g S t p1 p2 g I L R 0)
        (some ((-1), I, L, R))))
set_option maxRecDepth 100000 in
set_option maxHeartbeats 4000000 in
theorem c_GWL_loud {E : Env} (hE : OKE E) {tg : Bool} {d : Nat} (hd : 5 ≤ d) {g : Nat} {S : MS} {I : MI} {L : ML} {R : MR} {n : Nat} {t : Nat} {p1 : Int32} {p2 : Int32} {v : Int32} {I' : MI} {L' : ML} {R' : MR} (hS : (S t).1 = 11) (h : f_GWL_loud g S R I L t p1 p2 = some (v, I', L', R')) : C E y_GWL_loud b_GWL_loud 4 (some .int) tg d 0 0 [.ref (e_b E + t), .int p1, .int p2] S I L R n (Kq (some (.int v)) S I' L' R' n) := by
  refine C.of (o := [some (.ref (e_b E + t)), some (.int p1), some (.int p2), none]) (by decide) rfl (Nat.le_of_ble_eq_true rfl) ?_
  rw [f_GWL_loud] at h
  refine X.iload_1 (pc := 0) (by decide +kernel) ?_
  refine X.bipush (pc := 1) (i := 8) (v := 8) bp_8 (by decide +kernel) ?_
  obtain ⟨x1, hv2, h⟩ := bnd1_some h
  refine X.callSi (pc := 3) (nc := 0) (ns := 0) (c_GWL_isLength hE (dle hd (Nat.le_of_ble_eq_true rfl)) hv2) cv_GWL_271 (by decide +kernel) (ddd hd (Nat.le_of_ble_eq_true rfl)) rfl (Nat.le_of_ble_eq_true rfl) rfl rfl ?_
  rcases ifb_some h with ⟨hq3, h⟩ | ⟨hq3, h⟩
  · refine X.if_eq_t (pc := 6) (off := 13) (tgt := 19) hq3 rfl (by decide +kernel) ?_
    refine X.iconst (pc := 19) (i := (-1)) (v := (-1)) ic_m1 (by decide +kernel) ?_
    have j0 := Option.some.inj h
    obtain ⟨i0, j1⟩ := Prod.mk.inj j0
    obtain ⟨i1, j2⟩ := Prod.mk.inj j1
    obtain ⟨i2, j3⟩ := Prod.mk.inj j2
    subst i0
    subst i1
    subst i2
    subst j3
    exact X.ireturn (pc := 20) (by decide +kernel) ⟨_, rfl, rfl⟩ ⟨rfl, rfl, rfl, rfl, rfl, rfl⟩
  · refine X.if_eq_f (pc := 6) (off := 13) (tgt := 19) hq3 rfl (by decide +kernel) ?_
    refine X.iload_2 (pc := 9) (by decide +kernel) ?_
    rcases ifb_some h with ⟨hq4, h⟩ | ⟨hq4, h⟩
    · refine X.if_lt_t (pc := 10) (off := 9) (tgt := 19) hq4 rfl (by decide +kernel) ?_
      refine X.iconst (pc := 19) (i := (-1)) (v := (-1)) ic_m1 (by decide +kernel) ?_
      have j0 := Option.some.inj h
      obtain ⟨i0, j1⟩ := Prod.mk.inj j0
      obtain ⟨i1, j2⟩ := Prod.mk.inj j1
      obtain ⟨i2, j3⟩ := Prod.mk.inj j2
      subst i0
      subst i1
      subst i2
      subst j3
      exact X.ireturn (pc := 20) (by decide +kernel) ⟨_, rfl, rfl⟩ ⟨rfl, rfl, rfl, rfl, rfl, rfl⟩
    · refine X.if_lt_f (pc := 10) (off := 9) (tgt := 19) hq4 rfl (by decide +kernel) ?_
      refine X.iload_2 (pc := 13) (by decide +kernel) ?_
      refine X.bipush (pc := 14) (i := 100) (v := 100) bp_100 (by decide +kernel) ?_
      rcases ifb_some h with ⟨hq5, h⟩ | ⟨hq5, h⟩
      · refine X.icmp_le_t (pc := 16) (off := 5) (tgt := 21) hq5 rfl (by decide +kernel) ?_
        refine X.iconst (pc := 21) (i := 0) (v := 0) ic_0 (by decide +kernel) ?_
        refine X.istore_3 (pc := 22) (by decide +kernel) (by decide) rfl ?_
        exact xl_GWL_loud_23 hE hd hS h
      · refine X.icmp_le_f (pc := 16) (off := 5) (tgt := 21) hq5 rfl (by decide +kernel) ?_
        refine X.iconst (pc := 19) (i := (-1)) (v := (-1)) ic_m1 (by decide +kernel) ?_
        have j0 := Option.some.inj h
        obtain ⟨i0, j1⟩ := Prod.mk.inj j0
        obtain ⟨i1, j2⟩ := Prod.mk.inj j1
        obtain ⟨i2, j3⟩ := Prod.mk.inj j2
        subst i0
        subst i1
        subst i2
        subst j3
        exact X.ireturn (pc := 20) (by decide +kernel) ⟨_, rfl, rfl⟩ ⟨rfl, rfl, rfl, rfl, rfl, rfl⟩
set_option maxRecDepth 100000 in
noncomputable def f_GWL_owed (S : MS) (R : MR) (I : MI) (t : Nat) : Option Int32 :=
  bnd1 (R t 7) fun b1 =>
  bnd1 (R t 2) fun b2 =>
  bnd1 (R t 3) fun b3 =>
  asrt ((S b3).1 = 5) <|
  asrt ((S b2).1 = 2) <|
  bnd1 (f_Land_kindOf S R I b2 (I b3 0)) fun x6 =>
  asrt ((S b1).1 = 0) <|
  bnd1 (f_Fee_endsWith S I b1 x6 (I b3 0)) fun x9 =>
  lt ((x9 + ((I b1 3) * (I b3 4))) + ((I b1 4) * (I b3 5))) fun (x11 : Int32) =>
  some x11
set_option maxRecDepth 100000 in
set_option maxHeartbeats 4000000 in
theorem c_GWL_owed {E : Env} (hE : OKE E) {tg : Bool} {d : Nat} (hd : 1 ≤ d) {S : MS} {I : MI} {L : ML} {R : MR} {n : Nat} {t : Nat} {v : Int32} (hS : (S t).1 = 11) (h : f_GWL_owed S R I t = some v) : C E y_GWL_owed b_GWL_owed 1 (some .int) tg d 0 0 [.ref (e_b E + t)] S I L R n (Kq (some (.int v)) S I L R n) := by
  refine C.of (o := [some (.ref (e_b E + t))]) (by decide) rfl (Nat.le_of_ble_eq_true rfl) ?_
  rw [f_GWL_owed] at h
  refine X.aload_0 (pc := 0) (by decide +kernel) ?_
  obtain ⟨b1, hb1, h⟩ := bnd1_some h
  refine X.getR (pc := 1) (k := 7) fw_GWL_37 (by decide +kernel) (fun _ => rfl) hS hb1 ?_
  refine X.aload_0 (pc := 4) (by decide +kernel) ?_
  obtain ⟨b2, hb2, h⟩ := bnd1_some h
  refine X.getR (pc := 5) (k := 2) fw_GWL_83 (by decide +kernel) (fun _ => rfl) hS hb2 ?_
  refine X.aload_0 (pc := 8) (by decide +kernel) ?_
  obtain ⟨b3, hb3, h⟩ := bnd1_some h
  refine X.getR (pc := 9) (k := 3) fw_GWL_87 (by decide +kernel) (fun _ => rfl) hS hb3 ?_
  obtain ⟨hc4, h⟩ := asrt_some h
  refine X.getI (pc := 12) (k := 0) fw_GWL_175 (by decide +kernel) (fun _ => rfl) hc4 ?_
  obtain ⟨hc5, h⟩ := asrt_some h
  obtain ⟨x6, hv7, h⟩ := bnd1_some h
  refine X.callVi (pc := 15) (nc := 0) (ns := 0) (c_Land_kindOf hE (dle hd (Nat.le_of_ble_eq_true rfl)) hc5 hv7) cv_GWL_168 (by decide +kernel) hc5 ⟨by decide, rfl⟩ (ddd hd (Nat.le_of_ble_eq_true rfl)) rfl (Nat.le_of_ble_eq_true rfl) rfl rfl ?_
  refine X.aload_0 (pc := 18) (by decide +kernel) ?_
  refine X.getR (pc := 19) (k := 3) fw_GWL_87 (by decide +kernel) (fun _ => rfl) hS hb3 ?_
  refine X.getI (pc := 22) (k := 0) fw_GWL_175 (by decide +kernel) (fun _ => rfl) hc4 ?_
  obtain ⟨hc8, h⟩ := asrt_some h
  obtain ⟨x9, hv10, h⟩ := bnd1_some h
  refine X.callVi (pc := 25) (nc := 0) (ns := 0) (c_Fee_endsWith hE (dle hd (Nat.le_of_ble_eq_true rfl)) hc8 hv10) cv_GWL_315 (by decide +kernel) hc8 ⟨by decide, rfl⟩ (ddd hd (Nat.le_of_ble_eq_true rfl)) rfl (Nat.le_of_ble_eq_true rfl) rfl rfl ?_
  refine X.aload_0 (pc := 28) (by decide +kernel) ?_
  refine X.getR (pc := 29) (k := 7) fw_GWL_37 (by decide +kernel) (fun _ => rfl) hS hb1 ?_
  refine X.getI (pc := 32) (k := 3) fw_GWL_318 (by decide +kernel) (fun _ => rfl) hc8 ?_
  refine X.aload_0 (pc := 35) (by decide +kernel) ?_
  refine X.getR (pc := 36) (k := 3) fw_GWL_87 (by decide +kernel) (fun _ => rfl) hS hb3 ?_
  refine X.getI (pc := 39) (k := 4) fw_GWL_321 (by decide +kernel) (fun _ => rfl) hc4 ?_
  refine X.imul (pc := 42) (by decide +kernel) ?_
  refine X.iadd (pc := 43) (by decide +kernel) ?_
  refine X.aload_0 (pc := 44) (by decide +kernel) ?_
  refine X.getR (pc := 45) (k := 7) fw_GWL_37 (by decide +kernel) (fun _ => rfl) hS hb1 ?_
  refine X.getI (pc := 48) (k := 4) fw_GWL_322 (by decide +kernel) (fun _ => rfl) hc8 ?_
  refine X.aload_0 (pc := 51) (by decide +kernel) ?_
  refine X.getR (pc := 52) (k := 3) fw_GWL_87 (by decide +kernel) (fun _ => rfl) hS hb3 ?_
  refine X.getI (pc := 55) (k := 5) fw_GWL_213 (by decide +kernel) (fun _ => rfl) hc4 ?_
  refine X.imul (pc := 58) (by decide +kernel) ?_
  refine X.iadd (pc := 59) (by decide +kernel) ?_
  refine X.nameI (fun x11 hx11 => ?_)
  have h := lt_at hx11 h
  have j0 := Option.some.inj h
  subst j0
  exact X.ireturn (pc := 60) (by decide +kernel) ⟨_, rfl, rfl⟩ ⟨rfl, rfl, rfl, rfl, rfl, rfl⟩
set_option maxRecDepth 100000 in
noncomputable def f_GWL_greedyChance (g : Nat) (S : MS) (R : MR) (I : MI) (L : ML) (t : Nat) (p1 : Nat) (p2 : Int32) : Option (Int64 × MI × ML × MR) :=
  bnd1 (R t 14) fun b1 =>
  bnd1 (R t 3) fun b2 =>
  asrt ((S b2).1 = 5) <|
  bnd1 (f_Party_stance S I b2) fun x4 =>
  asrt ((S b1).1 = 1) <|
  bnd3 (f_Guide_lead g S R I L b1 p1 p2 (I b2 2) (I t 6) x4) fun I7 L8 R9 =>
  bnd1 (R9 t 14) fun b11 =>
  bnd1 (R9 t 3) fun b12 =>
  asrt ((S b12).1 = 5) <|
  asrt ((S b11).1 = 1) <|
  bnd1 (f_Guide_luckOf S R9 I7 L8 b11 (I7 b12 2)) fun x15 =>
  some (x15, I7, L8, R9)
set_option maxRecDepth 100000 in
set_option maxHeartbeats 4000000 in
theorem c_GWL_greedyChance {E : Env} (hE : OKE E) {tg : Bool} {d : Nat} (hd : 4 ≤ d) {g : Nat} {S : MS} {I : MI} {L : ML} {R : MR} {n : Nat} {t : Nat} {p1 : Nat} {p2 : Int32} {v : Int64} {I' : MI} {L' : ML} {R' : MR} (hS : (S t).1 = 11) (h : f_GWL_greedyChance g S R I L t p1 p2 = some (v, I', L', R')) : C E y_GWL_greedyChance b_GWL_greedyChance 3 (some .long) tg d 0 0 [.ref (e_b E + t), .ref (e_b E + p1), .int p2] S I L R n (Kq (some (.long v)) S I' L' R' n) := by
  refine C.of (o := [some (.ref (e_b E + t)), some (.ref (e_b E + p1)), some (.int p2)]) (by decide) rfl (Nat.le_of_ble_eq_true rfl) ?_
  rw [f_GWL_greedyChance] at h
  refine X.aload_0 (pc := 0) (by decide +kernel) ?_
  obtain ⟨b1, hb1, h⟩ := bnd1_some h
  refine X.getR (pc := 1) (k := 14) fw_GWL_99 (by decide +kernel) (fun _ => rfl) hS hb1 ?_
  refine X.aload_1 (pc := 4) (by decide +kernel) ?_
  refine X.iload_2 (pc := 5) (by decide +kernel) ?_
  refine X.aload_0 (pc := 6) (by decide +kernel) ?_
  obtain ⟨b2, hb2, h⟩ := bnd1_some h
  refine X.getR (pc := 7) (k := 3) fw_GWL_87 (by decide +kernel) (fun _ => rfl) hS hb2 ?_
  obtain ⟨hc3, h⟩ := asrt_some h
  refine X.getI (pc := 10) (k := 2) fw_GWL_181 (by decide +kernel) (fun _ => rfl) hc3 ?_
  refine X.aload_0 (pc := 13) (by decide +kernel) ?_
  refine X.getI (pc := 14) (k := 6) fw_GWL_30 (by decide +kernel) (fun _ => rfl) hS ?_
  refine X.aload_0 (pc := 17) (by decide +kernel) ?_
  refine X.getR (pc := 18) (k := 3) fw_GWL_87 (by decide +kernel) (fun _ => rfl) hS hb2 ?_
  obtain ⟨x4, hv5, h⟩ := bnd1_some h
  refine X.callVi (pc := 21) (nc := 0) (ns := 0) (c_Party_stance hE (dle hd (Nat.le_of_ble_eq_true rfl)) hc3 hv5) cv_GWL_228 (by decide +kernel) hc3 ⟨by decide, rfl⟩ (ddd hd (Nat.le_of_ble_eq_true rfl)) rfl (Nat.le_of_ble_eq_true rfl) rfl rfl ?_
  obtain ⟨hc6, h⟩ := asrt_some h
  obtain ⟨I7, L8, R9, hv10, h⟩ := bnd3_some h
  refine X.callVv (pc := 24) (nc := 0) (ns := 0) (c_Guide_lead hE (dle hd (Nat.le_of_ble_eq_true rfl)) hc6 hv10) cv_GWL_279 (by decide +kernel) hc6 ⟨by decide, rfl⟩ (ddd hd (Nat.le_of_ble_eq_true rfl)) rfl (Nat.le_of_ble_eq_true rfl) rfl rfl ?_
  refine X.aload_0 (pc := 27) (by decide +kernel) ?_
  obtain ⟨b11, hb11, h⟩ := bnd1_some h
  refine X.getR (pc := 28) (k := 14) fw_GWL_99 (by decide +kernel) (fun _ => rfl) hS hb11 ?_
  refine X.aload_0 (pc := 31) (by decide +kernel) ?_
  obtain ⟨b12, hb12, h⟩ := bnd1_some h
  refine X.getR (pc := 32) (k := 3) fw_GWL_87 (by decide +kernel) (fun _ => rfl) hS hb12 ?_
  obtain ⟨hc13, h⟩ := asrt_some h
  refine X.getI (pc := 35) (k := 2) fw_GWL_181 (by decide +kernel) (fun _ => rfl) hc13 ?_
  obtain ⟨hc14, h⟩ := asrt_some h
  obtain ⟨x15, hv16, h⟩ := bnd1_some h
  refine X.callVl (pc := 38) (nc := 0) (ns := 0) (c_Guide_luckOf hE (dle hd (Nat.le_of_ble_eq_true rfl)) hc14 hv16) cv_GWL_283 (by decide +kernel) hc14 ⟨by decide, rfl⟩ (ddd hd (Nat.le_of_ble_eq_true rfl)) rfl (Nat.le_of_ble_eq_true rfl) rfl rfl ?_
  have j0 := Option.some.inj h
  obtain ⟨i0, j1⟩ := Prod.mk.inj j0
  obtain ⟨i1, j2⟩ := Prod.mk.inj j1
  obtain ⟨i2, j3⟩ := Prod.mk.inj j2
  subst i0
  subst i1
  subst i2
  subst j3
  exact X.lreturn (pc := 41) (by decide +kernel) rfl ⟨rfl, rfl, rfl, rfl, rfl, rfl⟩
set_option maxRecDepth 100000 in
noncomputable def f_GWL_greed (g : Nat) (S : MS) (R : MR) (I : MI) (L : ML) (t : Nat) (p1 : Int32) : Option (Int32 × MI × ML × MR) :=
  bnd1 (f_GWL_isLength p1 5) fun x1 =>
  ifb (x1 = 0)
    (some ((-1), I, L, R))
    (bnd1 (R t 7) fun b4 =>
    bnd4 (f_GWL_greedyChance g S R I L t b4 p1) fun x5 I6 L7 R8 =>
    bnd1 (R8 t 1) fun b10 =>
    asrt ((S b10).1 = 4) <|
    bnd1 (f_Numbers_begin S I6 b10) fun I12 =>
    bnd1 (R8 t 14) fun b14 =>
    bnd1 (R8 t 3) fun b15 =>
    asrt ((S b15).1 = 5) <|
    asrt ((S b14).1 = 1) <|
    bnd1 (f_Guide_payOf S R8 I12 L7 b14 (I12 b15 2)) fun x18 =>
    bnd1 (f_GWL_hundreds p1) fun x20 =>
    bnd2 (f_Numbers_addFraction g S R8 I12 L7 b10 x18 x20) fun I22 L23 =>
    bnd1 (f_GWL_hundreds p1) fun x25 =>
    bnd2 (f_Numbers_addFraction g S R8 I22 L23 b10 x5 x25) fun I27 L28 =>
    some (0, I27, L28, R8))
set_option maxRecDepth 100000 in
set_option maxHeartbeats 4000000 in
theorem c_GWL_greed {E : Env} (hE : OKE E) {tg : Bool} {d : Nat} (hd : 5 ≤ d) {g : Nat} {S : MS} {I : MI} {L : ML} {R : MR} {n : Nat} {t : Nat} {p1 : Int32} {v : Int32} {I' : MI} {L' : ML} {R' : MR} (hS : (S t).1 = 11) (h : f_GWL_greed g S R I L t p1 = some (v, I', L', R')) : C E y_GWL_greed b_GWL_greed 4 (some .int) tg d 0 0 [.ref (e_b E + t), .int p1] S I L R n (Kq (some (.int v)) S I' L' R' n) := by
  refine C.of (o := [some (.ref (e_b E + t)), some (.int p1), none, none]) (by decide) rfl (Nat.le_of_ble_eq_true rfl) ?_
  rw [f_GWL_greed] at h
  refine X.iload_1 (pc := 0) (by decide +kernel) ?_
  refine X.iconst (pc := 1) (i := 5) (v := 5) ic_5 (by decide +kernel) ?_
  obtain ⟨x1, hv2, h⟩ := bnd1_some h
  refine X.callSi (pc := 2) (nc := 0) (ns := 0) (c_GWL_isLength hE (dle hd (Nat.le_of_ble_eq_true rfl)) hv2) cv_GWL_271 (by decide +kernel) (ddd hd (Nat.le_of_ble_eq_true rfl)) rfl (Nat.le_of_ble_eq_true rfl) rfl rfl ?_
  rcases ifb_some h with ⟨hq3, h⟩ | ⟨hq3, h⟩
  · refine X.if_ne_f (pc := 5) (off := 5) (tgt := 10) hq3 rfl (by decide +kernel) ?_
    refine X.iconst (pc := 8) (i := (-1)) (v := (-1)) ic_m1 (by decide +kernel) ?_
    have j0 := Option.some.inj h
    obtain ⟨i0, j1⟩ := Prod.mk.inj j0
    obtain ⟨i1, j2⟩ := Prod.mk.inj j1
    obtain ⟨i2, j3⟩ := Prod.mk.inj j2
    subst i0
    subst i1
    subst i2
    subst j3
    exact X.ireturn (pc := 9) (by decide +kernel) ⟨_, rfl, rfl⟩ ⟨rfl, rfl, rfl, rfl, rfl, rfl⟩
  · refine X.if_ne_t (pc := 5) (off := 5) (tgt := 10) hq3 rfl (by decide +kernel) ?_
    refine X.aload_0 (pc := 10) (by decide +kernel) ?_
    refine X.aload_0 (pc := 11) (by decide +kernel) ?_
    obtain ⟨b4, hb4, h⟩ := bnd1_some h
    refine X.getR (pc := 12) (k := 7) fw_GWL_37 (by decide +kernel) (fun _ => rfl) hS hb4 ?_
    refine X.iload_1 (pc := 15) (by decide +kernel) ?_
    obtain ⟨x5, I6, L7, R8, hv9, h⟩ := bnd4_some h
    refine X.callVl (pc := 16) (nc := 0) (ns := 0) (c_GWL_greedyChance hE (dle hd (Nat.le_of_ble_eq_true rfl)) hS hv9) cv_GWL_323 (by decide +kernel) hS ⟨by decide, rfl⟩ (ddd hd (Nat.le_of_ble_eq_true rfl)) rfl (Nat.le_of_ble_eq_true rfl) rfl rfl ?_
    refine X.lstore_2 (pc := 19) (by decide +kernel) (by decide) rfl ?_
    refine X.aload_0 (pc := 20) (by decide +kernel) ?_
    obtain ⟨b10, hb10, h⟩ := bnd1_some h
    refine X.getR (pc := 21) (k := 1) fw_GWL_19 (by decide +kernel) (fun _ => rfl) hS hb10 ?_
    obtain ⟨hc11, h⟩ := asrt_some h
    obtain ⟨I12, hv13, h⟩ := bnd1_some h
    refine X.callVv (pc := 24) (nc := 0) (ns := 0) (c_Numbers_begin hE (dle hd (Nat.le_of_ble_eq_true rfl)) hc11 hv13) cv_GWL_207 (by decide +kernel) hc11 ⟨by decide, rfl⟩ (ddd hd (Nat.le_of_ble_eq_true rfl)) rfl (Nat.le_of_ble_eq_true rfl) rfl rfl ?_
    refine X.aload_0 (pc := 27) (by decide +kernel) ?_
    refine X.getR (pc := 28) (k := 1) fw_GWL_19 (by decide +kernel) (fun _ => rfl) hS hb10 ?_
    refine X.aload_0 (pc := 31) (by decide +kernel) ?_
    obtain ⟨b14, hb14, h⟩ := bnd1_some h
    refine X.getR (pc := 32) (k := 14) fw_GWL_99 (by decide +kernel) (fun _ => rfl) hS hb14 ?_
    refine X.aload_0 (pc := 35) (by decide +kernel) ?_
    obtain ⟨b15, hb15, h⟩ := bnd1_some h
    refine X.getR (pc := 36) (k := 3) fw_GWL_87 (by decide +kernel) (fun _ => rfl) hS hb15 ?_
    obtain ⟨hc16, h⟩ := asrt_some h
    refine X.getI (pc := 39) (k := 2) fw_GWL_181 (by decide +kernel) (fun _ => rfl) hc16 ?_
    obtain ⟨hc17, h⟩ := asrt_some h
    obtain ⟨x18, hv19, h⟩ := bnd1_some h
    refine X.callVl (pc := 42) (nc := 0) (ns := 0) (c_Guide_payOf hE (dle hd (Nat.le_of_ble_eq_true rfl)) hc17 hv19) cv_GWL_294 (by decide +kernel) hc17 ⟨by decide, rfl⟩ (ddd hd (Nat.le_of_ble_eq_true rfl)) rfl (Nat.le_of_ble_eq_true rfl) rfl rfl ?_
    refine X.iload_1 (pc := 45) (by decide +kernel) ?_
    obtain ⟨x20, hv21, h⟩ := bnd1_some h
    refine X.callSl (pc := 46) (nc := 0) (ns := 0) (c_GWL_hundreds hE (dle hd (Nat.le_of_ble_eq_true rfl)) hv21) cv_GWL_287 (by decide +kernel) (ddd hd (Nat.le_of_ble_eq_true rfl)) rfl (Nat.le_of_ble_eq_true rfl) rfl rfl ?_
    obtain ⟨I22, L23, hv24, h⟩ := bnd2_some h
    refine X.callVv (pc := 49) (nc := 0) (ns := 0) (c_Numbers_addFraction hE (dle hd (Nat.le_of_ble_eq_true rfl)) hc11 hv24) cv_GWL_290 (by decide +kernel) hc11 ⟨by decide, rfl⟩ (ddd hd (Nat.le_of_ble_eq_true rfl)) rfl (Nat.le_of_ble_eq_true rfl) rfl rfl ?_
    refine X.aload_0 (pc := 52) (by decide +kernel) ?_
    refine X.getR (pc := 53) (k := 1) fw_GWL_19 (by decide +kernel) (fun _ => rfl) hS hb10 ?_
    refine X.lload_2 (pc := 56) (by decide +kernel) ?_
    refine X.iload_1 (pc := 57) (by decide +kernel) ?_
    obtain ⟨x25, hv26, h⟩ := bnd1_some h
    refine X.callSl (pc := 58) (nc := 0) (ns := 0) (c_GWL_hundreds hE (dle hd (Nat.le_of_ble_eq_true rfl)) hv26) cv_GWL_287 (by decide +kernel) (ddd hd (Nat.le_of_ble_eq_true rfl)) rfl (Nat.le_of_ble_eq_true rfl) rfl rfl ?_
    obtain ⟨I27, L28, hv29, h⟩ := bnd2_some h
    refine X.callVv (pc := 61) (nc := 0) (ns := 0) (c_Numbers_addFraction hE (dle hd (Nat.le_of_ble_eq_true rfl)) hc11 hv29) cv_GWL_290 (by decide +kernel) hc11 ⟨by decide, rfl⟩ (ddd hd (Nat.le_of_ble_eq_true rfl)) rfl (Nat.le_of_ble_eq_true rfl) rfl rfl ?_
    refine X.iconst (pc := 64) (i := 0) (v := 0) ic_0 (by decide +kernel) ?_
    have j0 := Option.some.inj h
    obtain ⟨i0, j1⟩ := Prod.mk.inj j0
    obtain ⟨i1, j2⟩ := Prod.mk.inj j1
    obtain ⟨i2, j3⟩ := Prod.mk.inj j2
    subst i0
    subst i1
    subst i2
    subst j3
    exact X.ireturn (pc := 65) (by decide +kernel) ⟨_, rfl, rfl⟩ ⟨rfl, rfl, rfl, rfl, rfl, rfl⟩
set_option maxRecDepth 100000 in
noncomputable def f_GWL_honest (g : Nat) (S : MS) (R : MR) (I : MI) (L : ML) (t : Nat) (p1 : Int32) : Option (Int32 × MI × ML × MR) :=
  bnd1 (f_GWL_isLength p1 5) fun x1 =>
  ifb (x1 = 0)
    (some ((-1), I, L, R))
    (bnd4 (f_GWL_bestChance g S R I L t p1 (I t 6)) fun x4 I5 L6 R7 =>
    bnd1 (R7 t 7) fun b9 =>
    bnd4 (f_GWL_greedyChance g S R7 I5 L6 t b9 p1) fun x10 I11 L12 R13 =>
    lt (x4 - x10) fun (x15 : Int64) =>
    bnd1 (R13 t 1) fun b16 =>
    asrt ((S b16).1 = 4) <|
    bnd1 (f_Numbers_begin S I11 b16) fun I18 =>
    bnd1 (f_GWL_hundreds p1) fun x20 =>
    bnd2 (f_Numbers_addFraction g S R13 I18 L12 b16 x15 x20) fun I22 L23 =>
    bnd1 (ifb ((lg_cmp x15 0) = 0)
        (some 1)
        (some 0)) fun (y26 : Int32) =>
    some (y26, I22, L23, R13))
set_option maxRecDepth 100000 in
set_option maxHeartbeats 4000000 in
theorem c_GWL_honest {E : Env} (hE : OKE E) {tg : Bool} {d : Nat} (hd : 5 ≤ d) {g : Nat} {S : MS} {I : MI} {L : ML} {R : MR} {n : Nat} {t : Nat} {p1 : Int32} {v : Int32} {I' : MI} {L' : ML} {R' : MR} (hS : (S t).1 = 11) (h : f_GWL_honest g S R I L t p1 = some (v, I', L', R')) : C E y_GWL_honest b_GWL_honest 4 (some .int) tg d 0 0 [.ref (e_b E + t), .int p1] S I L R n (Kq (some (.int v)) S I' L' R' n) := by
  refine C.of (o := [some (.ref (e_b E + t)), some (.int p1), none, none]) (by decide) rfl (Nat.le_of_ble_eq_true rfl) ?_
  rw [f_GWL_honest] at h
  refine X.iload_1 (pc := 0) (by decide +kernel) ?_
  refine X.iconst (pc := 1) (i := 5) (v := 5) ic_5 (by decide +kernel) ?_
  obtain ⟨x1, hv2, h⟩ := bnd1_some h
  refine X.callSi (pc := 2) (nc := 0) (ns := 0) (c_GWL_isLength hE (dle hd (Nat.le_of_ble_eq_true rfl)) hv2) cv_GWL_271 (by decide +kernel) (ddd hd (Nat.le_of_ble_eq_true rfl)) rfl (Nat.le_of_ble_eq_true rfl) rfl rfl ?_
  rcases ifb_some h with ⟨hq3, h⟩ | ⟨hq3, h⟩
  · refine X.if_ne_f (pc := 5) (off := 5) (tgt := 10) hq3 rfl (by decide +kernel) ?_
    refine X.iconst (pc := 8) (i := (-1)) (v := (-1)) ic_m1 (by decide +kernel) ?_
    have j0 := Option.some.inj h
    obtain ⟨i0, j1⟩ := Prod.mk.inj j0
    obtain ⟨i1, j2⟩ := Prod.mk.inj j1
    obtain ⟨i2, j3⟩ := Prod.mk.inj j2
    subst i0
    subst i1
    subst i2
    subst j3
    exact X.ireturn (pc := 9) (by decide +kernel) ⟨_, rfl, rfl⟩ ⟨rfl, rfl, rfl, rfl, rfl, rfl⟩
  · refine X.if_ne_t (pc := 5) (off := 5) (tgt := 10) hq3 rfl (by decide +kernel) ?_
    refine X.aload_0 (pc := 10) (by decide +kernel) ?_
    refine X.iload_1 (pc := 11) (by decide +kernel) ?_
    refine X.aload_0 (pc := 12) (by decide +kernel) ?_
    refine X.getI (pc := 13) (k := 6) fw_GWL_30 (by decide +kernel) (fun _ => rfl) hS ?_
    obtain ⟨x4, I5, L6, R7, hv8, h⟩ := bnd4_some h
    refine X.callVl (pc := 16) (nc := 0) (ns := 0) (c_GWL_bestChance hE (dle hd (Nat.le_of_ble_eq_true rfl)) hS hv8) cv_GWL_297 (by decide +kernel) hS ⟨by decide, rfl⟩ (ddd hd (Nat.le_of_ble_eq_true rfl)) rfl (Nat.le_of_ble_eq_true rfl) rfl rfl ?_
    refine X.aload_0 (pc := 19) (by decide +kernel) ?_
    refine X.aload_0 (pc := 20) (by decide +kernel) ?_
    obtain ⟨b9, hb9, h⟩ := bnd1_some h
    refine X.getR (pc := 21) (k := 7) fw_GWL_37 (by decide +kernel) (fun _ => rfl) hS hb9 ?_
    refine X.iload_1 (pc := 24) (by decide +kernel) ?_
    obtain ⟨x10, I11, L12, R13, hv14, h⟩ := bnd4_some h
    refine X.callVl (pc := 25) (nc := 0) (ns := 0) (c_GWL_greedyChance hE (dle hd (Nat.le_of_ble_eq_true rfl)) hS hv14) cv_GWL_323 (by decide +kernel) hS ⟨by decide, rfl⟩ (ddd hd (Nat.le_of_ble_eq_true rfl)) rfl (Nat.le_of_ble_eq_true rfl) rfl rfl ?_
    refine X.lsub (pc := 28) (by decide +kernel) ?_
    refine X.nameL (fun x15 hx15 => ?_)
    have h := lt_at hx15 h
    refine X.lstore_2 (pc := 29) (by decide +kernel) (by decide) rfl ?_
    refine X.aload_0 (pc := 30) (by decide +kernel) ?_
    obtain ⟨b16, hb16, h⟩ := bnd1_some h
    refine X.getR (pc := 31) (k := 1) fw_GWL_19 (by decide +kernel) (fun _ => rfl) hS hb16 ?_
    obtain ⟨hc17, h⟩ := asrt_some h
    obtain ⟨I18, hv19, h⟩ := bnd1_some h
    refine X.callVv (pc := 34) (nc := 0) (ns := 0) (c_Numbers_begin hE (dle hd (Nat.le_of_ble_eq_true rfl)) hc17 hv19) cv_GWL_207 (by decide +kernel) hc17 ⟨by decide, rfl⟩ (ddd hd (Nat.le_of_ble_eq_true rfl)) rfl (Nat.le_of_ble_eq_true rfl) rfl rfl ?_
    refine X.aload_0 (pc := 37) (by decide +kernel) ?_
    refine X.getR (pc := 38) (k := 1) fw_GWL_19 (by decide +kernel) (fun _ => rfl) hS hb16 ?_
    refine X.lload_2 (pc := 41) (by decide +kernel) ?_
    refine X.iload_1 (pc := 42) (by decide +kernel) ?_
    obtain ⟨x20, hv21, h⟩ := bnd1_some h
    refine X.callSl (pc := 43) (nc := 0) (ns := 0) (c_GWL_hundreds hE (dle hd (Nat.le_of_ble_eq_true rfl)) hv21) cv_GWL_287 (by decide +kernel) (ddd hd (Nat.le_of_ble_eq_true rfl)) rfl (Nat.le_of_ble_eq_true rfl) rfl rfl ?_
    obtain ⟨I22, L23, hv24, h⟩ := bnd2_some h
    refine X.callVv (pc := 46) (nc := 0) (ns := 0) (c_Numbers_addFraction hE (dle hd (Nat.le_of_ble_eq_true rfl)) hc17 hv24) cv_GWL_290 (by decide +kernel) hc17 ⟨by decide, rfl⟩ (ddd hd (Nat.le_of_ble_eq_true rfl)) rfl (Nat.le_of_ble_eq_true rfl) rfl rfl ?_
    refine X.lload_2 (pc := 49) (by decide +kernel) ?_
    refine X.lconst (pc := 50) (i := 0) (v := 0) rfl (by decide +kernel) ?_
    refine X.lcmp (pc := 51) (by decide +kernel) ?_
    obtain ⟨y26, hr27, h⟩ := bnd1_some h
    have hj28 : X E y_GWL_honest b_GWL_honest 4 (some .int) tg d 0 0 60 [none, none, none, none] [.int y26] S I22 L23 R13 n (Kq (some (.int v)) S I' L' R' n) := by
      have j0 := Option.some.inj h
      obtain ⟨i0, j1⟩ := Prod.mk.inj j0
      obtain ⟨i1, j2⟩ := Prod.mk.inj j1
      obtain ⟨i2, j3⟩ := Prod.mk.inj j2
      subst i0
      subst i1
      subst i2
      subst j3
      exact X.ireturn (pc := 60) (by decide +kernel) ⟨_, rfl, rfl⟩ ⟨rfl, rfl, rfl, rfl, rfl, rfl⟩
    have h := hr27
    rcases ifb_some h with ⟨hq25, h⟩ | ⟨hq25, h⟩
    · refine X.if_ne_f (pc := 52) (off := 7) (tgt := 59) hq25 rfl (by decide +kernel) ?_
      refine X.iconst (pc := 55) (i := 1) (v := 1) ic_1 (by decide +kernel) ?_
      refine X.goto (pc := 56) (off := 4) (tgt := 60) (by decide +kernel) rfl ?_
      have j0 := Option.some.inj h
      subst j0
      refine X.fgt (o' := [none, none, none, none]) trivial ?_
      exact hj28
    · refine X.if_ne_t (pc := 52) (off := 7) (tgt := 59) hq25 rfl (by decide +kernel) ?_
      refine X.iconst (pc := 59) (i := 0) (v := 0) ic_0 (by decide +kernel) ?_
      have j0 := Option.some.inj h
      subst j0
      refine X.fgt (o' := [none, none, none, none]) trivial ?_
      exact hj28
set_option maxRecDepth 100000 in
noncomputable def f_GWL_isPlace (p1 : Int32) : Option Int32 :=
  bnd1 (ifb (p1 < 0)
      (some 0)
      (ifb (3 ≤ p1)
        (some 0)
        (some 1))) fun (y2 : Int32) =>
  asrt (y2 = 0 ∨ y2 = 1) <|
  some y2
set_option maxRecDepth 100000 in
set_option maxHeartbeats 4000000 in
theorem c_GWL_isPlace {E : Env} (hE : OKE E) {tg : Bool} {d : Nat} (hd : 0 ≤ d) {S : MS} {I : MI} {L : ML} {R : MR} {n : Nat} {p1 : Int32} {v : Int32} (h : f_GWL_isPlace p1 = some v) : C E y_GWL_isPlace b_GWL_isPlace 1 (some .boolean) tg d 0 0 [.int p1] S I L R n (Kq (some (.int v)) S I L R n) := by
  refine C.of (o := [some (.int p1)]) (by decide) rfl (Nat.le_of_ble_eq_true rfl) ?_
  rw [f_GWL_isPlace] at h
  refine X.iload_0 (pc := 0) (by decide +kernel) ?_
  obtain ⟨y2, hr3, h⟩ := bnd1_some h
  have hj4 : X E y_GWL_isPlace b_GWL_isPlace 1 (some .boolean) tg d 0 0 14 [none] [.int y2] S I L R n (Kq (some (.int v)) S I L R n) := by
    obtain ⟨hb6, h⟩ := asrt_some h
    have j0 := Option.some.inj h
    subst j0
    exact X.ireturn (pc := 14) (by decide +kernel) ⟨_, rfl, nz01 hb6⟩ ⟨rfl, rfl, rfl, rfl, rfl, rfl⟩
  have h := hr3
  rcases ifb_some h with ⟨hq1, h⟩ | ⟨hq1, h⟩
  · refine X.if_lt_t (pc := 1) (off := 12) (tgt := 13) hq1 rfl (by decide +kernel) ?_
    refine X.iconst (pc := 13) (i := 0) (v := 0) ic_0 (by decide +kernel) ?_
    have j0 := Option.some.inj h
    subst j0
    refine X.fgt (o' := [none]) trivial ?_
    exact hj4
  · refine X.if_lt_f (pc := 1) (off := 12) (tgt := 13) hq1 rfl (by decide +kernel) ?_
    refine X.iload_0 (pc := 4) (by decide +kernel) ?_
    refine X.iconst (pc := 5) (i := 3) (v := 3) ic_3 (by decide +kernel) ?_
    rcases ifb_some h with ⟨hq5, h⟩ | ⟨hq5, h⟩
    · refine X.icmp_ge_t (pc := 6) (off := 7) (tgt := 13) hq5 rfl (by decide +kernel) ?_
      refine X.iconst (pc := 13) (i := 0) (v := 0) ic_0 (by decide +kernel) ?_
      have j0 := Option.some.inj h
      subst j0
      refine X.fgt (o' := [none]) trivial ?_
      exact hj4
    · refine X.icmp_ge_f (pc := 6) (off := 7) (tgt := 13) hq5 rfl (by decide +kernel) ?_
      refine X.iconst (pc := 9) (i := 1) (v := 1) ic_1 (by decide +kernel) ?_
      refine X.goto (pc := 10) (off := 4) (tgt := 14) (by decide +kernel) rfl ?_
      have j0 := Option.some.inj h
      subst j0
      refine X.fgt (o' := [none]) trivial ?_
      exact hj4
set_option maxRecDepth 100000 in
noncomputable def f_GWL_shelf (S : MS) (R : MR) (I : MI) (t : Nat) (p1 : Int32) : Option (Int32 × MI) :=
  bnd1 (f_GWL_isPlace p1) fun x1 =>
  ifb (x1 = 0)
    (some (0, I))
    (bnd1 (R t 10) fun b4 =>
    asrt ((S b4).1 = 23) <|
    asrt (vp_in p1 (S b4).2) <|
    bnd1 (R b4 (Int32.toNatClampNeg p1)) fun b7 =>
    bnd1 (R t 7) fun b8 =>
    asrt ((S b7).1 = 0) <|
    bnd1 (f_Fee_takeFrom S I b7 b8) fun I10 =>
    bnd1 (R t 11) fun b12 =>
    asrt ((S b12).1 = 22) <|
    asrt (vp_in p1 (S b12).2) <|
    lt (wI I10 b12 (Int32.toNatClampNeg p1) (1 &&& 1)) fun (I15 : MI) =>
    some (1, I15))
set_option maxRecDepth 100000 in
set_option maxHeartbeats 4000000 in
theorem c_GWL_shelf {E : Env} (hE : OKE E) {tg : Bool} {d : Nat} (hd : 1 ≤ d) {S : MS} {I : MI} {L : ML} {R : MR} {n : Nat} {t : Nat} {p1 : Int32} {v : Int32} {I' : MI} (hS : (S t).1 = 11) (h : f_GWL_shelf S R I t p1 = some (v, I')) : C E y_GWL_shelf b_GWL_shelf 2 (some .boolean) tg d 0 0 [.ref (e_b E + t), .int p1] S I L R n (Kq (some (.int v)) S I' L R n) := by
  refine C.of (o := [some (.ref (e_b E + t)), some (.int p1)]) (by decide) rfl (Nat.le_of_ble_eq_true rfl) ?_
  rw [f_GWL_shelf] at h
  refine X.iload_1 (pc := 0) (by decide +kernel) ?_
  obtain ⟨x1, hv2, h⟩ := bnd1_some h
  refine X.callSi (pc := 1) (nc := 0) (ns := 0) (c_GWL_isPlace hE (dle hd (Nat.le_of_ble_eq_true rfl)) hv2) cv_GWL_327 (by decide +kernel) (ddd hd (Nat.le_of_ble_eq_true rfl)) rfl (Nat.le_of_ble_eq_true rfl) rfl rfl ?_
  rcases ifb_some h with ⟨hq3, h⟩ | ⟨hq3, h⟩
  · refine X.if_ne_f (pc := 4) (off := 5) (tgt := 9) hq3 rfl (by decide +kernel) ?_
    refine X.iconst (pc := 7) (i := 0) (v := 0) ic_0 (by decide +kernel) ?_
    have j0 := Option.some.inj h
    obtain ⟨i0, j1⟩ := Prod.mk.inj j0
    subst i0
    subst j1
    exact X.ireturn (pc := 8) (by decide +kernel) ⟨_, rfl, nz01 (Or.inl rfl)⟩ ⟨rfl, rfl, rfl, rfl, rfl, rfl⟩
  · refine X.if_ne_t (pc := 4) (off := 5) (tgt := 9) hq3 rfl (by decide +kernel) ?_
    refine X.aload_0 (pc := 9) (by decide +kernel) ?_
    obtain ⟨b4, hb4, h⟩ := bnd1_some h
    refine X.getR (pc := 10) (k := 10) fw_GWL_47 (by decide +kernel) (fun _ => rfl) hS hb4 ?_
    refine X.iload_1 (pc := 13) (by decide +kernel) ?_
    obtain ⟨hc6, h⟩ := asrt_some h
    obtain ⟨hi5, h⟩ := asrt_some h
    obtain ⟨b7, hb7, h⟩ := bnd1_some h
    refine X.aaload (pc := 14) (by decide +kernel) (Or.inl hc6) hi5 hb7 ?_
    refine X.aload_0 (pc := 15) (by decide +kernel) ?_
    obtain ⟨b8, hb8, h⟩ := bnd1_some h
    refine X.getR (pc := 16) (k := 7) fw_GWL_37 (by decide +kernel) (fun _ => rfl) hS hb8 ?_
    obtain ⟨hc9, h⟩ := asrt_some h
    obtain ⟨I10, hv11, h⟩ := bnd1_some h
    refine X.callVv (pc := 19) (nc := 0) (ns := 0) (c_Fee_takeFrom hE (dle hd (Nat.le_of_ble_eq_true rfl)) hc9 hv11) cv_GWL_164 (by decide +kernel) hc9 ⟨by decide, rfl⟩ (ddd hd (Nat.le_of_ble_eq_true rfl)) rfl (Nat.le_of_ble_eq_true rfl) rfl rfl ?_
    refine X.aload_0 (pc := 22) (by decide +kernel) ?_
    obtain ⟨b12, hb12, h⟩ := bnd1_some h
    refine X.getR (pc := 23) (k := 11) fw_GWL_51 (by decide +kernel) (fun _ => rfl) hS hb12 ?_
    refine X.iload_1 (pc := 26) (by decide +kernel) ?_
    refine X.iconst (pc := 27) (i := 1) (v := 1) ic_1 (by decide +kernel) ?_
    obtain ⟨hc13, h⟩ := asrt_some h
    obtain ⟨hi14, h⟩ := asrt_some h
    refine X.bastore (pc := 28) (by decide +kernel) hc13 hi14 ?_
    refine X.nameMI (fun I15 hI15 => ?_)
    have h := lt_at hI15 h
    refine X.iconst (pc := 29) (i := 1) (v := 1) ic_1 (by decide +kernel) ?_
    have j0 := Option.some.inj h
    obtain ⟨i0, j1⟩ := Prod.mk.inj j0
    subst i0
    subst j1
    exact X.ireturn (pc := 30) (by decide +kernel) ⟨_, rfl, nz01 (Or.inr rfl)⟩ ⟨rfl, rfl, rfl, rfl, rfl, rfl⟩
set_option maxRecDepth 100000 in
noncomputable def l_GWL_fairest_56 (g : Nat) (S : MS) (v0 : Nat) (v1 : Int32) : Nat → MI → ML → MR → Int32 → Int64 → Int32 → Option (Int32 × MI × ML × MR)
  | 0, _, _, _, _, _, _ => none
  | f + 1, I, L, R, v2, v3, v5 =>
    ifb (3 ≤ v5)
      (some (v2, I, L, R))
      (bnd1 (R v0 11) fun b17 =>
      asrt ((S b17).1 = 22) <|
      asrt (vp_in v5 (S b17).2) <|
      bnd5 (ifb ((I b17 (Int32.toNatClampNeg v5)) = 0)
          (some (v2, v3, I, L, R))
          (bnd1 (R v0 10) fun b28 =>
          asrt ((S b28).1 = 23) <|
          asrt (vp_in v5 (S b28).2) <|
          bnd1 (R b28 (Int32.toNatClampNeg v5)) fun b31 =>
          bnd4 (f_GWL_greedyChance g S R I L v0 b31 v1) fun x32 I33 L34 R35 =>
          bnd1 (R35 v0 1) fun b37 =>
          bnd1 (f_GWL_hundreds v1) fun x38 =>
          asrt ((S b37).1 = 4) <|
          bnd2 (f_Numbers_addFraction g S R35 I33 L34 b37 x32 x38) fun I41 L42 =>
          ifb ((lg_cmp x32 v3) ≤ 0)
            (some (v2, v3, I41, L42, R35))
            (some (v5, x32, I41, L42, R35)))) fun (z21 : Int32) (z22 : Int64) (I23 : MI) (L24 : ML) (R25 : MR) =>
      l_GWL_fairest_56 g S v0 v1 f I23 L24 R25 z21 z22 (v5 + 1))
set_option maxRecDepth 100000 in
set_option maxHeartbeats 4000000 in
theorem xl_GWL_fairest_56 {E : Env} (hE : OKE E) {tg : Bool} {d : Nat} (hd : 5 ≤ d) {g : Nat} {S : MS} {n : Nat} {v0 : Nat} {v1 : Int32} {K : KT} :
    ∀ {f : Nat} {I : MI} {L : ML} {R : MR} {v2 : Int32} {v3 : Int64} {v5 : Int32} {o2 : Int32} {I' : MI} {L' : ML} {R' : MR}, (S v0).1 = 11 → l_GWL_fairest_56 g S v0 v1 f I L R v2 v3 v5 = some (o2, I', L', R') → X E y_GWL_fairest b_GWL_fairest 8 (some .int) tg d 0 0 118 [none, none, some (.int o2), none, none, none, none, none] [] S I' L' R' n K → X E y_GWL_fairest b_GWL_fairest 8 (some .int) tg d 0 0 56 [some (.ref (e_b E + v0)), some (.int v1), some (.int v2), some (.long v3), none, some (.int v5), none, none] [] S I L R n K := by
  intro f
  induction f with
  | zero =>
    intro I L R v2 v3 v5 o2 I' L' R' hS h hk
    rw [l_GWL_fairest_56] at h
    cases h
  | succ f ih =>
    intro I L R v2 v3 v5 o2 I' L' R' hS h hk
    rw [l_GWL_fairest_56] at h
    refine X.iload_5 (pc := 56) (by decide +kernel) ?_
    refine X.iconst (pc := 58) (i := 3) (v := 3) ic_3 (by decide +kernel) ?_
    rcases ifb_some h with ⟨hq16, h⟩ | ⟨hq16, h⟩
    · refine X.icmp_ge_t (pc := 59) (off := 59) (tgt := 118) hq16 rfl (by decide +kernel) ?_
      have j0 := Option.some.inj h
      obtain ⟨i0, j1⟩ := Prod.mk.inj j0
      obtain ⟨i1, j2⟩ := Prod.mk.inj j1
      obtain ⟨i2, j3⟩ := Prod.mk.inj j2
      subst i0
      subst i1
      subst i2
      subst j3
      refine X.fgt (o' := [none, none, some (.int v2), none, none, none, none, none]) ⟨rfl, trivial⟩ ?_
      exact hk
    · refine X.icmp_ge_f (pc := 59) (off := 59) (tgt := 118) hq16 rfl (by decide +kernel) ?_
      refine X.aload_0 (pc := 62) (by decide +kernel) ?_
      obtain ⟨b17, hb17, h⟩ := bnd1_some h
      refine X.getR (pc := 63) (k := 11) fw_GWL_51 (by decide +kernel) (fun _ => rfl) hS hb17 ?_
      refine X.iload_5 (pc := 66) (by decide +kernel) ?_
      obtain ⟨hc19, h⟩ := asrt_some h
      obtain ⟨hi18, h⟩ := asrt_some h
      refine X.baload (pc := 68) (by decide +kernel) hc19 hi18 ?_
      obtain ⟨z21, z22, I23, L24, R25, hr26, h⟩ := bnd5_some h
      have hj27 : X E y_GWL_fairest b_GWL_fairest 8 (some .int) tg d 0 0 112 [some (.ref (e_b E + v0)), some (.int v1), some (.int z21), some (.long z22), none, some (.int v5), none, none] [] S I23 L24 R25 n K := by
        refine X.iinc_5 (pc := 112) (z := 1) (v := 1) ic_1 (by decide +kernel) (by decide) rfl ?_
        refine X.goto (pc := 115) (off := (-59)) (tgt := 56) (by decide +kernel) rfl ?_
        exact ih hS h hk
      have h := hr26
      rcases ifb_some h with ⟨hq20, h⟩ | ⟨hq20, h⟩
      · refine X.if_eq_t (pc := 69) (off := 43) (tgt := 112) hq20 rfl (by decide +kernel) ?_
        have j0 := Option.some.inj h
        obtain ⟨i0, j1⟩ := Prod.mk.inj j0
        obtain ⟨i1, j2⟩ := Prod.mk.inj j1
        obtain ⟨i2, j3⟩ := Prod.mk.inj j2
        obtain ⟨i3, j4⟩ := Prod.mk.inj j3
        subst i0
        subst i1
        subst i2
        subst i3
        subst j4
        exact hj27
      · refine X.if_eq_f (pc := 69) (off := 43) (tgt := 112) hq20 rfl (by decide +kernel) ?_
        refine X.aload_0 (pc := 72) (by decide +kernel) ?_
        refine X.aload_0 (pc := 73) (by decide +kernel) ?_
        obtain ⟨b28, hb28, h⟩ := bnd1_some h
        refine X.getR (pc := 74) (k := 10) fw_GWL_47 (by decide +kernel) (fun _ => rfl) hS hb28 ?_
        refine X.iload_5 (pc := 77) (by decide +kernel) ?_
        obtain ⟨hc30, h⟩ := asrt_some h
        obtain ⟨hi29, h⟩ := asrt_some h
        obtain ⟨b31, hb31, h⟩ := bnd1_some h
        refine X.aaload (pc := 79) (by decide +kernel) (Or.inl hc30) hi29 hb31 ?_
        refine X.iload_1 (pc := 80) (by decide +kernel) ?_
        obtain ⟨x32, I33, L34, R35, hv36, h⟩ := bnd4_some h
        refine X.callVl (pc := 81) (nc := 0) (ns := 0) (c_GWL_greedyChance hE (dle hd (Nat.le_of_ble_eq_true rfl)) hS hv36) cv_GWL_323 (by decide +kernel) hS ⟨by decide, rfl⟩ (ddd hd (Nat.le_of_ble_eq_true rfl)) rfl (Nat.le_of_ble_eq_true rfl) rfl rfl ?_
        refine X.lstore_6 (pc := 84) (by decide +kernel) (by decide) rfl ?_
        refine X.aload_0 (pc := 86) (by decide +kernel) ?_
        obtain ⟨b37, hb37, h⟩ := bnd1_some h
        refine X.getR (pc := 87) (k := 1) fw_GWL_19 (by decide +kernel) (fun _ => rfl) hS hb37 ?_
        refine X.lload_6 (pc := 90) (by decide +kernel) ?_
        refine X.iload_1 (pc := 92) (by decide +kernel) ?_
        obtain ⟨x38, hv39, h⟩ := bnd1_some h
        refine X.callSl (pc := 93) (nc := 0) (ns := 0) (c_GWL_hundreds hE (dle hd (Nat.le_of_ble_eq_true rfl)) hv39) cv_GWL_287 (by decide +kernel) (ddd hd (Nat.le_of_ble_eq_true rfl)) rfl (Nat.le_of_ble_eq_true rfl) rfl rfl ?_
        obtain ⟨hc40, h⟩ := asrt_some h
        obtain ⟨I41, L42, hv43, h⟩ := bnd2_some h
        refine X.callVv (pc := 96) (nc := 0) (ns := 0) (c_Numbers_addFraction hE (dle hd (Nat.le_of_ble_eq_true rfl)) hc40 hv43) cv_GWL_290 (by decide +kernel) hc40 ⟨by decide, rfl⟩ (ddd hd (Nat.le_of_ble_eq_true rfl)) rfl (Nat.le_of_ble_eq_true rfl) rfl rfl ?_
        refine X.lload_6 (pc := 99) (by decide +kernel) ?_
        refine X.lload_3 (pc := 101) (by decide +kernel) ?_
        refine X.lcmp (pc := 102) (by decide +kernel) ?_
        rcases ifb_some h with ⟨hq44, h⟩ | ⟨hq44, h⟩
        · refine X.if_le_t (pc := 103) (off := 9) (tgt := 112) hq44 rfl (by decide +kernel) ?_
          have j0 := Option.some.inj h
          obtain ⟨i0, j1⟩ := Prod.mk.inj j0
          obtain ⟨i1, j2⟩ := Prod.mk.inj j1
          obtain ⟨i2, j3⟩ := Prod.mk.inj j2
          obtain ⟨i3, j4⟩ := Prod.mk.inj j3
          subst i0
          subst i1
          subst i2
          subst i3
          subst j4
          refine X.fgt (o' := [some (.ref (e_b E + v0)), some (.int v1), some (.int v2), some (.long v3), none, some (.int v5), none, none]) ⟨rfl, ⟨rfl, ⟨rfl, ⟨rfl, ⟨rfl, trivial⟩⟩⟩⟩⟩ ?_
          exact hj27
        · refine X.if_le_f (pc := 103) (off := 9) (tgt := 112) hq44 rfl (by decide +kernel) ?_
          refine X.lload_6 (pc := 106) (by decide +kernel) ?_
          refine X.lstore_3 (pc := 108) (by decide +kernel) (by decide) rfl ?_
          refine X.iload_5 (pc := 109) (by decide +kernel) ?_
          refine X.istore_2 (pc := 111) (by decide +kernel) (by decide) rfl ?_
          have j0 := Option.some.inj h
          obtain ⟨i0, j1⟩ := Prod.mk.inj j0
          obtain ⟨i1, j2⟩ := Prod.mk.inj j1
          obtain ⟨i2, j3⟩ := Prod.mk.inj j2
          obtain ⟨i3, j4⟩ := Prod.mk.inj j3
          subst i0
          subst i1
          subst i2
          subst i3
          subst j4
          refine X.fgt (o' := [some (.ref (e_b E + v0)), some (.int v1), some (.int v5), some (.long x32), none, some (.int v5), none, none]) ⟨rfl, ⟨rfl, ⟨rfl, ⟨rfl, ⟨rfl, trivial⟩⟩⟩⟩⟩ ?_
          exact hj27
set_option maxRecDepth 100000 in
noncomputable def f_GWL_fairest (g : Nat) (S : MS) (R : MR) (I : MI) (L : ML) (t : Nat) (p1 : Int32) : Option (Int32 × MI × ML × MR) :=
  bnd1 (f_GWL_isLength p1 5) fun x1 =>
  ifb (x1 = 0)
    (some ((-1), I, L, R))
    (bnd1 (R t 11) fun b4 =>
    asrt ((S b4).1 = 22) <|
    asrt (vp_in 0 (S b4).2) <|
    ifb ((I b4 (Int32.toNatClampNeg 0)) = 0)
      (asrt (vp_in 1 (S b4).2) <|
      ifb ((I b4 (Int32.toNatClampNeg 1)) = 0)
        (asrt (vp_in 2 (S b4).2) <|
        ifb ((I b4 (Int32.toNatClampNeg 2)) = 0)
          (some ((-2), I, L, R))
          (bnd1 (R t 1) fun b12 =>
          asrt ((S b12).1 = 4) <|
          bnd1 (f_Numbers_begin S I b12) fun I14 =>
          bnd4 (l_GWL_fairest_56 g S t p1 g I14 L R (-1) (-1) 0) fun x45 I46 L47 R48 =>
          some (x45, I46, L47, R48)))
        (bnd1 (R t 1) fun b50 =>
        asrt ((S b50).1 = 4) <|
        bnd1 (f_Numbers_begin S I b50) fun I52 =>
        bnd4 (l_GWL_fairest_56 g S t p1 g I52 L R (-1) (-1) 0) fun x54 I55 L56 R57 =>
        some (x54, I55, L56, R57)))
      (bnd1 (R t 1) fun b59 =>
      asrt ((S b59).1 = 4) <|
      bnd1 (f_Numbers_begin S I b59) fun I61 =>
      bnd4 (l_GWL_fairest_56 g S t p1 g I61 L R (-1) (-1) 0) fun x63 I64 L65 R66 =>
      some (x63, I64, L65, R66)))
set_option maxRecDepth 100000 in
set_option maxHeartbeats 4000000 in
theorem c_GWL_fairest {E : Env} (hE : OKE E) {tg : Bool} {d : Nat} (hd : 5 ≤ d) {g : Nat} {S : MS} {I : MI} {L : ML} {R : MR} {n : Nat} {t : Nat} {p1 : Int32} {v : Int32} {I' : MI} {L' : ML} {R' : MR} (hS : (S t).1 = 11) (h : f_GWL_fairest g S R I L t p1 = some (v, I', L', R')) : C E y_GWL_fairest b_GWL_fairest 8 (some .int) tg d 0 0 [.ref (e_b E + t), .int p1] S I L R n (Kq (some (.int v)) S I' L' R' n) := by
  refine C.of (o := [some (.ref (e_b E + t)), some (.int p1), none, none, none, none, none, none]) (by decide) rfl (Nat.le_of_ble_eq_true rfl) ?_
  rw [f_GWL_fairest] at h
  refine X.iload_1 (pc := 0) (by decide +kernel) ?_
  refine X.iconst (pc := 1) (i := 5) (v := 5) ic_5 (by decide +kernel) ?_
  obtain ⟨x1, hv2, h⟩ := bnd1_some h
  refine X.callSi (pc := 2) (nc := 0) (ns := 0) (c_GWL_isLength hE (dle hd (Nat.le_of_ble_eq_true rfl)) hv2) cv_GWL_271 (by decide +kernel) (ddd hd (Nat.le_of_ble_eq_true rfl)) rfl (Nat.le_of_ble_eq_true rfl) rfl rfl ?_
  rcases ifb_some h with ⟨hq3, h⟩ | ⟨hq3, h⟩
  · refine X.if_ne_f (pc := 5) (off := 5) (tgt := 10) hq3 rfl (by decide +kernel) ?_
    refine X.iconst (pc := 8) (i := (-1)) (v := (-1)) ic_m1 (by decide +kernel) ?_
    have j0 := Option.some.inj h
    obtain ⟨i0, j1⟩ := Prod.mk.inj j0
    obtain ⟨i1, j2⟩ := Prod.mk.inj j1
    obtain ⟨i2, j3⟩ := Prod.mk.inj j2
    subst i0
    subst i1
    subst i2
    subst j3
    exact X.ireturn (pc := 9) (by decide +kernel) ⟨_, rfl, rfl⟩ ⟨rfl, rfl, rfl, rfl, rfl, rfl⟩
  · refine X.if_ne_t (pc := 5) (off := 5) (tgt := 10) hq3 rfl (by decide +kernel) ?_
    refine X.aload_0 (pc := 10) (by decide +kernel) ?_
    obtain ⟨b4, hb4, h⟩ := bnd1_some h
    refine X.getR (pc := 11) (k := 11) fw_GWL_51 (by decide +kernel) (fun _ => rfl) hS hb4 ?_
    refine X.iconst (pc := 14) (i := 0) (v := 0) ic_0 (by decide +kernel) ?_
    obtain ⟨hc6, h⟩ := asrt_some h
    obtain ⟨hi5, h⟩ := asrt_some h
    refine X.baload (pc := 15) (by decide +kernel) hc6 hi5 ?_
    rcases ifb_some h with ⟨hq7, h⟩ | ⟨hq7, h⟩
    · refine X.if_ne_f (pc := 16) (off := 24) (tgt := 40) hq7 rfl (by decide +kernel) ?_
      refine X.aload_0 (pc := 19) (by decide +kernel) ?_
      refine X.getR (pc := 20) (k := 11) fw_GWL_51 (by decide +kernel) (fun _ => rfl) hS hb4 ?_
      refine X.iconst (pc := 23) (i := 1) (v := 1) ic_1 (by decide +kernel) ?_
      obtain ⟨hi8, h⟩ := asrt_some h
      refine X.baload (pc := 24) (by decide +kernel) hc6 hi8 ?_
      rcases ifb_some h with ⟨hq9, h⟩ | ⟨hq9, h⟩
      · refine X.if_ne_f (pc := 25) (off := 15) (tgt := 40) hq9 rfl (by decide +kernel) ?_
        refine X.aload_0 (pc := 28) (by decide +kernel) ?_
        refine X.getR (pc := 29) (k := 11) fw_GWL_51 (by decide +kernel) (fun _ => rfl) hS hb4 ?_
        refine X.iconst (pc := 32) (i := 2) (v := 2) ic_2 (by decide +kernel) ?_
        obtain ⟨hi10, h⟩ := asrt_some h
        refine X.baload (pc := 33) (by decide +kernel) hc6 hi10 ?_
        rcases ifb_some h with ⟨hq11, h⟩ | ⟨hq11, h⟩
        · refine X.if_ne_f (pc := 34) (off := 6) (tgt := 40) hq11 rfl (by decide +kernel) ?_
          refine X.bipush (pc := 37) (i := (-2)) (v := (-2)) bp_m2 (by decide +kernel) ?_
          have j0 := Option.some.inj h
          obtain ⟨i0, j1⟩ := Prod.mk.inj j0
          obtain ⟨i1, j2⟩ := Prod.mk.inj j1
          obtain ⟨i2, j3⟩ := Prod.mk.inj j2
          subst i0
          subst i1
          subst i2
          subst j3
          exact X.ireturn (pc := 39) (by decide +kernel) ⟨_, rfl, rfl⟩ ⟨rfl, rfl, rfl, rfl, rfl, rfl⟩
        · refine X.if_ne_t (pc := 34) (off := 6) (tgt := 40) hq11 rfl (by decide +kernel) ?_
          refine X.iconst (pc := 40) (i := (-1)) (v := (-1)) ic_m1 (by decide +kernel) ?_
          refine X.istore_2 (pc := 41) (by decide +kernel) (by decide) rfl ?_
          refine X.ldc2 (pc := 42) (x := 330) (v := (-1)) ld_GWL_330 (by decide +kernel) ?_
          refine X.lstore_3 (pc := 45) (by decide +kernel) (by decide) rfl ?_
          refine X.aload_0 (pc := 46) (by decide +kernel) ?_
          obtain ⟨b12, hb12, h⟩ := bnd1_some h
          refine X.getR (pc := 47) (k := 1) fw_GWL_19 (by decide +kernel) (fun _ => rfl) hS hb12 ?_
          obtain ⟨hc13, h⟩ := asrt_some h
          obtain ⟨I14, hv15, h⟩ := bnd1_some h
          refine X.callVv (pc := 50) (nc := 0) (ns := 0) (c_Numbers_begin hE (dle hd (Nat.le_of_ble_eq_true rfl)) hc13 hv15) cv_GWL_207 (by decide +kernel) hc13 ⟨by decide, rfl⟩ (ddd hd (Nat.le_of_ble_eq_true rfl)) rfl (Nat.le_of_ble_eq_true rfl) rfl rfl ?_
          refine X.iconst (pc := 53) (i := 0) (v := 0) ic_0 (by decide +kernel) ?_
          refine X.istore_5 (pc := 54) (by decide +kernel) (by decide) rfl ?_
          obtain ⟨x45, I46, L47, R48, hv49, h⟩ := bnd4_some h
          refine xl_GWL_fairest_56 hE hd hS hv49 ?_
          refine X.iload_2 (pc := 118) (by decide +kernel) ?_
          have j0 := Option.some.inj h
          obtain ⟨i0, j1⟩ := Prod.mk.inj j0
          obtain ⟨i1, j2⟩ := Prod.mk.inj j1
          obtain ⟨i2, j3⟩ := Prod.mk.inj j2
          subst i0
          subst i1
          subst i2
          subst j3
          exact X.ireturn (pc := 119) (by decide +kernel) ⟨_, rfl, rfl⟩ ⟨rfl, rfl, rfl, rfl, rfl, rfl⟩
      · refine X.if_ne_t (pc := 25) (off := 15) (tgt := 40) hq9 rfl (by decide +kernel) ?_
        refine X.iconst (pc := 40) (i := (-1)) (v := (-1)) ic_m1 (by decide +kernel) ?_
        refine X.istore_2 (pc := 41) (by decide +kernel) (by decide) rfl ?_
        refine X.ldc2 (pc := 42) (x := 330) (v := (-1)) ld_GWL_330 (by decide +kernel) ?_
        refine X.lstore_3 (pc := 45) (by decide +kernel) (by decide) rfl ?_
        refine X.aload_0 (pc := 46) (by decide +kernel) ?_
        obtain ⟨b50, hb50, h⟩ := bnd1_some h
        refine X.getR (pc := 47) (k := 1) fw_GWL_19 (by decide +kernel) (fun _ => rfl) hS hb50 ?_
        obtain ⟨hc51, h⟩ := asrt_some h
        obtain ⟨I52, hv53, h⟩ := bnd1_some h
        refine X.callVv (pc := 50) (nc := 0) (ns := 0) (c_Numbers_begin hE (dle hd (Nat.le_of_ble_eq_true rfl)) hc51 hv53) cv_GWL_207 (by decide +kernel) hc51 ⟨by decide, rfl⟩ (ddd hd (Nat.le_of_ble_eq_true rfl)) rfl (Nat.le_of_ble_eq_true rfl) rfl rfl ?_
        refine X.iconst (pc := 53) (i := 0) (v := 0) ic_0 (by decide +kernel) ?_
        refine X.istore_5 (pc := 54) (by decide +kernel) (by decide) rfl ?_
        obtain ⟨x54, I55, L56, R57, hv58, h⟩ := bnd4_some h
        refine xl_GWL_fairest_56 hE hd hS hv58 ?_
        refine X.iload_2 (pc := 118) (by decide +kernel) ?_
        have j0 := Option.some.inj h
        obtain ⟨i0, j1⟩ := Prod.mk.inj j0
        obtain ⟨i1, j2⟩ := Prod.mk.inj j1
        obtain ⟨i2, j3⟩ := Prod.mk.inj j2
        subst i0
        subst i1
        subst i2
        subst j3
        exact X.ireturn (pc := 119) (by decide +kernel) ⟨_, rfl, rfl⟩ ⟨rfl, rfl, rfl, rfl, rfl, rfl⟩
    · refine X.if_ne_t (pc := 16) (off := 24) (tgt := 40) hq7 rfl (by decide +kernel) ?_
      refine X.iconst (pc := 40) (i := (-1)) (v := (-1)) ic_m1 (by decide +kernel) ?_
      refine X.istore_2 (pc := 41) (by decide +kernel) (by decide) rfl ?_
      refine X.ldc2 (pc := 42) (x := 330) (v := (-1)) ld_GWL_330 (by decide +kernel) ?_
      refine X.lstore_3 (pc := 45) (by decide +kernel) (by decide) rfl ?_
      refine X.aload_0 (pc := 46) (by decide +kernel) ?_
      obtain ⟨b59, hb59, h⟩ := bnd1_some h
      refine X.getR (pc := 47) (k := 1) fw_GWL_19 (by decide +kernel) (fun _ => rfl) hS hb59 ?_
      obtain ⟨hc60, h⟩ := asrt_some h
      obtain ⟨I61, hv62, h⟩ := bnd1_some h
      refine X.callVv (pc := 50) (nc := 0) (ns := 0) (c_Numbers_begin hE (dle hd (Nat.le_of_ble_eq_true rfl)) hc60 hv62) cv_GWL_207 (by decide +kernel) hc60 ⟨by decide, rfl⟩ (ddd hd (Nat.le_of_ble_eq_true rfl)) rfl (Nat.le_of_ble_eq_true rfl) rfl rfl ?_
      refine X.iconst (pc := 53) (i := 0) (v := 0) ic_0 (by decide +kernel) ?_
      refine X.istore_5 (pc := 54) (by decide +kernel) (by decide) rfl ?_
      obtain ⟨x63, I64, L65, R66, hv67, h⟩ := bnd4_some h
      refine xl_GWL_fairest_56 hE hd hS hv67 ?_
      refine X.iload_2 (pc := 118) (by decide +kernel) ?_
      have j0 := Option.some.inj h
      obtain ⟨i0, j1⟩ := Prod.mk.inj j0
      obtain ⟨i1, j2⟩ := Prod.mk.inj j1
      obtain ⟨i2, j3⟩ := Prod.mk.inj j2
      subst i0
      subst i1
      subst i2
      subst j3
      exact X.ireturn (pc := 119) (by decide +kernel) ⟨_, rfl, rfl⟩ ⟨rfl, rfl, rfl, rfl, rfl, rfl⟩
set_option maxRecDepth 100000 in
noncomputable def f_Party_trackFrom (S : MS) (R : MR) (I : MI) (t : Nat) (p1 : Int32) : Option Int32 :=
  bnd1 (ifb (p1 < 0)
      (some (-1))
      (ifb (36 ≤ p1)
        (some (-1))
        (bnd1 (R t 6) fun b6 =>
        asrt ((S b6).1 = 20) <|
        asrt (vp_in p1 (S b6).2) <|
        some (I b6 (Int32.toNatClampNeg p1))))) fun (y2 : Int32) =>
  some y2
set_option maxRecDepth 100000 in
set_option maxHeartbeats 4000000 in
theorem c_Party_trackFrom {E : Env} (hE : OKE E) {tg : Bool} {d : Nat} (hd : 0 ≤ d) {S : MS} {I : MI} {L : ML} {R : MR} {n : Nat} {t : Nat} {p1 : Int32} {v : Int32} (hS : (S t).1 = 5) (h : f_Party_trackFrom S R I t p1 = some v) : C E y_Party_trackFrom b_Party_trackFrom 2 (some .int) tg d 0 0 [.ref (e_b E + t), .int p1] S I L R n (Kq (some (.int v)) S I L R n) := by
  refine C.of (o := [some (.ref (e_b E + t)), some (.int p1)]) (by decide) rfl (Nat.le_of_ble_eq_true rfl) ?_
  rw [f_Party_trackFrom] at h
  refine X.iload_1 (pc := 0) (by decide +kernel) ?_
  obtain ⟨y2, hr3, h⟩ := bnd1_some h
  have hj4 : X E y_Party_trackFrom b_Party_trackFrom 2 (some .int) tg d 0 0 20 [none, none] [.int y2] S I L R n (Kq (some (.int v)) S I L R n) := by
    have j0 := Option.some.inj h
    subst j0
    exact X.ireturn (pc := 20) (by decide +kernel) ⟨_, rfl, rfl⟩ ⟨rfl, rfl, rfl, rfl, rfl, rfl⟩
  have h := hr3
  rcases ifb_some h with ⟨hq1, h⟩ | ⟨hq1, h⟩
  · refine X.if_lt_t (pc := 1) (off := 18) (tgt := 19) hq1 rfl (by decide +kernel) ?_
    refine X.iconst (pc := 19) (i := (-1)) (v := (-1)) ic_m1 (by decide +kernel) ?_
    have j0 := Option.some.inj h
    subst j0
    refine X.fgt (o' := [none, none]) trivial ?_
    exact hj4
  · refine X.if_lt_f (pc := 1) (off := 18) (tgt := 19) hq1 rfl (by decide +kernel) ?_
    refine X.iload_1 (pc := 4) (by decide +kernel) ?_
    refine X.bipush (pc := 5) (i := 36) (v := 36) bp_36 (by decide +kernel) ?_
    rcases ifb_some h with ⟨hq5, h⟩ | ⟨hq5, h⟩
    · refine X.icmp_ge_t (pc := 7) (off := 12) (tgt := 19) hq5 rfl (by decide +kernel) ?_
      refine X.iconst (pc := 19) (i := (-1)) (v := (-1)) ic_m1 (by decide +kernel) ?_
      have j0 := Option.some.inj h
      subst j0
      refine X.fgt (o' := [none, none]) trivial ?_
      exact hj4
    · refine X.icmp_ge_f (pc := 7) (off := 12) (tgt := 19) hq5 rfl (by decide +kernel) ?_
      refine X.aload_0 (pc := 10) (by decide +kernel) ?_
      obtain ⟨b6, hb6, h⟩ := bnd1_some h
      refine X.getR (pc := 11) (k := 6) fw_Party_18 (by decide +kernel) (fun _ => rfl) hS hb6 ?_
      refine X.iload_1 (pc := 14) (by decide +kernel) ?_
      obtain ⟨hc8, h⟩ := asrt_some h
      obtain ⟨hi7, h⟩ := asrt_some h
      refine X.iaload (pc := 15) (by decide +kernel) hc8 hi7 ?_
      refine X.goto (pc := 16) (off := 4) (tgt := 20) (by decide +kernel) rfl ?_
      have j0 := Option.some.inj h
      subst j0
      refine X.fgt (o' := [none, none]) trivial ?_
      exact hj4
set_option maxRecDepth 100000 in
noncomputable def f_GWL_track (S : MS) (R : MR) (I : MI) (t : Nat) (p1 : Int32) : Option Int32 :=
  bnd1 (R t 2) fun b1 =>
  asrt ((S b1).1 = 2) <|
  bnd1 (f_Land_has S I b1 p1) fun x3 =>
  bnd1 (ifb (x3 = 0)
      (some (-1))
      (bnd1 (R t 3) fun b9 =>
      asrt ((S b9).1 = 5) <|
      bnd1 (f_Party_trackFrom S R I b9 p1) fun x11 =>
      some x11)) fun (y6 : Int32) =>
  some y6
set_option maxRecDepth 100000 in
set_option maxHeartbeats 4000000 in
theorem c_GWL_track {E : Env} (hE : OKE E) {tg : Bool} {d : Nat} (hd : 1 ≤ d) {S : MS} {I : MI} {L : ML} {R : MR} {n : Nat} {t : Nat} {p1 : Int32} {v : Int32} (hS : (S t).1 = 11) (h : f_GWL_track S R I t p1 = some v) : C E y_GWL_track b_GWL_track 2 (some .int) tg d 0 0 [.ref (e_b E + t), .int p1] S I L R n (Kq (some (.int v)) S I L R n) := by
  refine C.of (o := [some (.ref (e_b E + t)), some (.int p1)]) (by decide) rfl (Nat.le_of_ble_eq_true rfl) ?_
  rw [f_GWL_track] at h
  refine X.aload_0 (pc := 0) (by decide +kernel) ?_
  obtain ⟨b1, hb1, h⟩ := bnd1_some h
  refine X.getR (pc := 1) (k := 2) fw_GWL_83 (by decide +kernel) (fun _ => rfl) hS hb1 ?_
  refine X.iload_1 (pc := 4) (by decide +kernel) ?_
  obtain ⟨hc2, h⟩ := asrt_some h
  obtain ⟨x3, hv4, h⟩ := bnd1_some h
  refine X.callVi (pc := 5) (nc := 0) (ns := 0) (c_Land_has hE (dle hd (Nat.le_of_ble_eq_true rfl)) hc2 hv4) cv_GWL_172 (by decide +kernel) hc2 ⟨by decide, rfl⟩ (ddd hd (Nat.le_of_ble_eq_true rfl)) rfl (Nat.le_of_ble_eq_true rfl) rfl rfl ?_
  obtain ⟨y6, hr7, h⟩ := bnd1_some h
  have hj8 : X E y_GWL_track b_GWL_track 2 (some .int) tg d 0 0 23 [none, none] [.int y6] S I L R n (Kq (some (.int v)) S I L R n) := by
    have j0 := Option.some.inj h
    subst j0
    exact X.ireturn (pc := 23) (by decide +kernel) ⟨_, rfl, rfl⟩ ⟨rfl, rfl, rfl, rfl, rfl, rfl⟩
  have h := hr7
  rcases ifb_some h with ⟨hq5, h⟩ | ⟨hq5, h⟩
  · refine X.if_eq_t (pc := 8) (off := 14) (tgt := 22) hq5 rfl (by decide +kernel) ?_
    refine X.iconst (pc := 22) (i := (-1)) (v := (-1)) ic_m1 (by decide +kernel) ?_
    have j0 := Option.some.inj h
    subst j0
    refine X.fgt (o' := [none, none]) trivial ?_
    exact hj8
  · refine X.if_eq_f (pc := 8) (off := 14) (tgt := 22) hq5 rfl (by decide +kernel) ?_
    refine X.aload_0 (pc := 11) (by decide +kernel) ?_
    obtain ⟨b9, hb9, h⟩ := bnd1_some h
    refine X.getR (pc := 12) (k := 3) fw_GWL_87 (by decide +kernel) (fun _ => rfl) hS hb9 ?_
    refine X.iload_1 (pc := 15) (by decide +kernel) ?_
    obtain ⟨hc10, h⟩ := asrt_some h
    obtain ⟨x11, hv12, h⟩ := bnd1_some h
    refine X.callVi (pc := 16) (nc := 0) (ns := 0) (c_Party_trackFrom hE (dle hd (Nat.le_of_ble_eq_true rfl)) hc10 hv12) cv_GWL_332 (by decide +kernel) hc10 ⟨by decide, rfl⟩ (ddd hd (Nat.le_of_ble_eq_true rfl)) rfl (Nat.le_of_ble_eq_true rfl) rfl rfl ?_
    refine X.goto (pc := 19) (off := 4) (tgt := 23) (by decide +kernel) rfl ?_
    have j0 := Option.some.inj h
    subst j0
    refine X.fgt (o' := [none, none]) trivial ?_
    exact hj8
set_option maxRecDepth 100000 in
noncomputable def f_GWL_rain (g : Nat) (S : MS) (R : MR) (I : MI) (t : Nat) : Option (Int32 × MI) :=
  bnd1 (R t 3) fun b1 =>
  asrt ((S b1).1 = 5) <|
  bnd2 (f_Party_washTracks g S R I b1) fun x3 I4 =>
  some (x3, I4)
set_option maxRecDepth 100000 in
set_option maxHeartbeats 4000000 in
theorem c_GWL_rain {E : Env} (hE : OKE E) {tg : Bool} {d : Nat} (hd : 1 ≤ d) {g : Nat} {S : MS} {I : MI} {L : ML} {R : MR} {n : Nat} {t : Nat} {v : Int32} {I' : MI} (hS : (S t).1 = 11) (h : f_GWL_rain g S R I t = some (v, I')) : C E y_GWL_rain b_GWL_rain 1 (some .int) tg d 0 0 [.ref (e_b E + t)] S I L R n (Kq (some (.int v)) S I' L R n) := by
  refine C.of (o := [some (.ref (e_b E + t))]) (by decide) rfl (Nat.le_of_ble_eq_true rfl) ?_
  rw [f_GWL_rain] at h
  refine X.aload_0 (pc := 0) (by decide +kernel) ?_
  obtain ⟨b1, hb1, h⟩ := bnd1_some h
  refine X.getR (pc := 1) (k := 3) fw_GWL_87 (by decide +kernel) (fun _ => rfl) hS hb1 ?_
  obtain ⟨hc2, h⟩ := asrt_some h
  obtain ⟨x3, I4, hv5, h⟩ := bnd2_some h
  refine X.callVi (pc := 4) (nc := 0) (ns := 0) (c_Party_washTracks hE (dle hd (Nat.le_of_ble_eq_true rfl)) hc2 hv5) cv_GWL_142 (by decide +kernel) hc2 ⟨by decide, rfl⟩ (ddd hd (Nat.le_of_ble_eq_true rfl)) rfl (Nat.le_of_ble_eq_true rfl) rfl rfl ?_
  have j0 := Option.some.inj h
  obtain ⟨i0, j1⟩ := Prod.mk.inj j0
  subst i0
  subst j1
  exact X.ireturn (pc := 7) (by decide +kernel) ⟨_, rfl, rfl⟩ ⟨rfl, rfl, rfl, rfl, rfl, rfl⟩
set_option maxRecDepth 100000 in
noncomputable def l_Trail_runFrom_22 (S : MS) (R : MR) (v0 : Nat) : Nat → MI → Int64 → Int32 → Option MI
  | 0, _, _, _ => none
  | f + 1, I, v2, v4 =>
    ifb (36 < v4)
      (some I)
      (ifb ((I v0 4) = 0)
        (bnd1 (R v0 1) fun b7 =>
        asrt ((S b7).1 = 5) <|
        bnd1 (f_Party_trackFrom S R I b7 (I v0 2)) fun x9 =>
        ifb (x9 = (-1))
          (some I)
          (bnd1 (f_Party_trackFrom S R I b7 (I v0 2)) fun x12 =>
          lt (wI I v0 2 x12) fun (I14 : MI) =>
          lt ((I14 v0 3) + 1) fun (x15 : Int32) =>
          lt (wI I14 v0 3 x15) fun (I16 : MI) =>
          bnd1 (ifb ((lg_cmp ((lus v2 (I16 v0 2)) &&& 1) 0) = 0)
              (some 0)
              (some 1)) fun (y18 : Int32) =>
          asrt (y18 = 0 ∨ y18 = 1) <|
          lt (wI I16 v0 4 y18) fun (I22 : MI) =>
          lt (v2 ||| (lsl 1 (I22 v0 2))) fun (x23 : Int64) =>
          l_Trail_runFrom_22 S R v0 f I22 x23 (v4 + 1)))
        (some I))
set_option maxRecDepth 100000 in
set_option maxHeartbeats 4000000 in
theorem xl_Trail_runFrom_22 {E : Env} (hE : OKE E) {tg : Bool} {d : Nat} (hd : 1 ≤ d) {S : MS} {L : ML} {R : MR} {n : Nat} {v0 : Nat} {K : KT} :
    ∀ {f : Nat} {I : MI} {v2 : Int64} {v4 : Int32} {I' : MI}, (S v0).1 = 10 → l_Trail_runFrom_22 S R v0 f I v2 v4 = some I' → X E y_Trail_runFrom b_Trail_runFrom 5 none tg d 0 0 113 [none, none, none, none, none] [] S I' L R n K → X E y_Trail_runFrom b_Trail_runFrom 5 none tg d 0 0 22 [some (.ref (e_b E + v0)), none, some (.long v2), none, some (.int v4)] [] S I L R n K := by
  intro f
  induction f with
  | zero =>
    intro I v2 v4 I' hS h hk
    rw [l_Trail_runFrom_22] at h
    cases h
  | succ f ih =>
    intro I v2 v4 I' hS h hk
    rw [l_Trail_runFrom_22] at h
    refine X.iload_4 (pc := 22) (by decide +kernel) ?_
    refine X.bipush (pc := 24) (i := 36) (v := 36) bp_36 (by decide +kernel) ?_
    rcases ifb_some h with ⟨hq5, h⟩ | ⟨hq5, h⟩
    · refine X.icmp_gt_t (pc := 26) (off := 87) (tgt := 113) hq5 rfl (by decide +kernel) ?_
      have j0 := Option.some.inj h
      subst j0
      refine X.fgt (o' := [none, none, none, none, none]) trivial ?_
      exact hk
    · refine X.icmp_gt_f (pc := 26) (off := 87) (tgt := 113) hq5 rfl (by decide +kernel) ?_
      refine X.aload_0 (pc := 29) (by decide +kernel) ?_
      refine X.getI (pc := 30) (k := 4) fw_Trail_26 (by decide +kernel) (fun _ => rfl) hS ?_
      rcases ifb_some h with ⟨hq6, h⟩ | ⟨hq6, h⟩
      · refine X.if_ne_f (pc := 33) (off := 80) (tgt := 113) hq6 rfl (by decide +kernel) ?_
        refine X.aload_0 (pc := 36) (by decide +kernel) ?_
        obtain ⟨b7, hb7, h⟩ := bnd1_some h
        refine X.getR (pc := 37) (k := 1) fw_Trail_15 (by decide +kernel) (fun _ => rfl) hS hb7 ?_
        refine X.aload_0 (pc := 40) (by decide +kernel) ?_
        refine X.getI (pc := 41) (k := 2) fw_Trail_19 (by decide +kernel) (fun _ => rfl) hS ?_
        obtain ⟨hc8, h⟩ := asrt_some h
        obtain ⟨x9, hv10, h⟩ := bnd1_some h
        refine X.callVi (pc := 44) (nc := 0) (ns := 0) (c_Party_trackFrom hE (dle hd (Nat.le_of_ble_eq_true rfl)) hc8 hv10) cv_Trail_30 (by decide +kernel) hc8 ⟨by decide, rfl⟩ (ddd hd (Nat.le_of_ble_eq_true rfl)) rfl (Nat.le_of_ble_eq_true rfl) rfl rfl ?_
        refine X.iconst (pc := 47) (i := (-1)) (v := (-1)) ic_m1 (by decide +kernel) ?_
        rcases ifb_some h with ⟨hq11, h⟩ | ⟨hq11, h⟩
        · refine X.icmp_eq_t (pc := 48) (off := 65) (tgt := 113) hq11 rfl (by decide +kernel) ?_
          have j0 := Option.some.inj h
          subst j0
          refine X.fgt (o' := [none, none, none, none, none]) trivial ?_
          exact hk
        · refine X.icmp_eq_f (pc := 48) (off := 65) (tgt := 113) hq11 rfl (by decide +kernel) ?_
          refine X.aload_0 (pc := 51) (by decide +kernel) ?_
          refine X.aload_0 (pc := 52) (by decide +kernel) ?_
          refine X.getR (pc := 53) (k := 1) fw_Trail_15 (by decide +kernel) (fun _ => rfl) hS hb7 ?_
          refine X.aload_0 (pc := 56) (by decide +kernel) ?_
          refine X.getI (pc := 57) (k := 2) fw_Trail_19 (by decide +kernel) (fun _ => rfl) hS ?_
          obtain ⟨x12, hv13, h⟩ := bnd1_some h
          refine X.callVi (pc := 60) (nc := 0) (ns := 0) (c_Party_trackFrom hE (dle hd (Nat.le_of_ble_eq_true rfl)) hc8 hv13) cv_Trail_30 (by decide +kernel) hc8 ⟨by decide, rfl⟩ (ddd hd (Nat.le_of_ble_eq_true rfl)) rfl (Nat.le_of_ble_eq_true rfl) rfl rfl ?_
          refine X.putI (pc := 63) (k := 2) fw_Trail_19 (by decide +kernel) rfl rfl hS ?_
          refine X.nameMI (fun I14 hI14 => ?_)
          have h := lt_at hI14 h
          refine X.aload_0 (pc := 66) (by decide +kernel) ?_
          refine X.dupr (pc := 67) (by decide +kernel) ?_
          refine X.getI (pc := 68) (k := 3) fw_Trail_23 (by decide +kernel) (fun _ => rfl) hS ?_
          refine X.iconst (pc := 71) (i := 1) (v := 1) ic_1 (by decide +kernel) ?_
          refine X.iadd (pc := 72) (by decide +kernel) ?_
          refine X.nameI (fun x15 hx15 => ?_)
          have h := lt_at hx15 h
          refine X.putI (pc := 73) (k := 3) fw_Trail_23 (by decide +kernel) rfl rfl hS ?_
          refine X.nameMI (fun I16 hI16 => ?_)
          have h := lt_at hI16 h
          refine X.aload_0 (pc := 76) (by decide +kernel) ?_
          refine X.lload_2 (pc := 77) (by decide +kernel) ?_
          refine X.aload_0 (pc := 78) (by decide +kernel) ?_
          refine X.getI (pc := 79) (k := 2) fw_Trail_19 (by decide +kernel) (fun _ => rfl) hS ?_
          refine X.lushr (pc := 82) (by decide +kernel) ?_
          refine X.lconst (pc := 83) (i := 1) (v := 1) rfl (by decide +kernel) ?_
          refine X.land (pc := 84) (by decide +kernel) ?_
          refine X.lconst (pc := 85) (i := 0) (v := 0) rfl (by decide +kernel) ?_
          refine X.lcmp (pc := 86) (by decide +kernel) ?_
          obtain ⟨y18, hr19, h⟩ := bnd1_some h
          have hj20 : X E y_Trail_runFrom b_Trail_runFrom 5 none tg d 0 0 95 [some (.ref (e_b E + v0)), none, some (.long v2), none, some (.int v4)] [.int y18, .ref (e_b E + v0)] S I16 L R n K := by
            obtain ⟨hb21, h⟩ := asrt_some h
            refine X.putZ (pc := 95) (k := 4) fw_Trail_26 (by decide +kernel) rfl rfl hS hb21 ?_
            refine X.nameMI (fun I22 hI22 => ?_)
            have h := lt_at hI22 h
            refine X.lload_2 (pc := 98) (by decide +kernel) ?_
            refine X.lconst (pc := 99) (i := 1) (v := 1) rfl (by decide +kernel) ?_
            refine X.aload_0 (pc := 100) (by decide +kernel) ?_
            refine X.getI (pc := 101) (k := 2) fw_Trail_19 (by decide +kernel) (fun _ => rfl) hS ?_
            refine X.lshl (pc := 104) (by decide +kernel) ?_
            refine X.lor (pc := 105) (by decide +kernel) ?_
            refine X.nameL (fun x23 hx23 => ?_)
            have h := lt_at hx23 h
            refine X.lstore_2 (pc := 106) (by decide +kernel) (by decide) rfl ?_
            refine X.iinc_4 (pc := 107) (z := 1) (v := 1) ic_1 (by decide +kernel) (by decide) rfl ?_
            refine X.goto (pc := 110) (off := (-88)) (tgt := 22) (by decide +kernel) rfl ?_
            exact ih hS h hk
          have h := hr19
          rcases ifb_some h with ⟨hq17, h⟩ | ⟨hq17, h⟩
          · refine X.if_eq_t (pc := 87) (off := 7) (tgt := 94) hq17 rfl (by decide +kernel) ?_
            refine X.iconst (pc := 94) (i := 0) (v := 0) ic_0 (by decide +kernel) ?_
            have j0 := Option.some.inj h
            subst j0
            exact hj20
          · refine X.if_eq_f (pc := 87) (off := 7) (tgt := 94) hq17 rfl (by decide +kernel) ?_
            refine X.iconst (pc := 90) (i := 1) (v := 1) ic_1 (by decide +kernel) ?_
            refine X.goto (pc := 91) (off := 4) (tgt := 95) (by decide +kernel) rfl ?_
            have j0 := Option.some.inj h
            subst j0
            exact hj20
      · refine X.if_ne_t (pc := 33) (off := 80) (tgt := 113) hq6 rfl (by decide +kernel) ?_
        have j0 := Option.some.inj h
        subst j0
        refine X.fgt (o' := [none, none, none, none, none]) trivial ?_
        exact hk
set_option maxRecDepth 100000 in
noncomputable def f_Trail_runFrom (g : Nat) (S : MS) (R : MR) (I : MI) (t : Nat) (p1 : Int32) : Option MI :=
  lt (wI I t 2 p1) fun (I1 : MI) =>
  lt (wI I1 t 3 0) fun (I2 : MI) =>
  lt (wI I2 t 4 0) fun (I3 : MI) =>
  lt (lsl 1 p1) fun (x4 : Int64) =>
  bnd1 (l_Trail_runFrom_22 S R t g I3 x4 0) fun I24 =>
  some I24
set_option maxRecDepth 100000 in
set_option maxHeartbeats 4000000 in
theorem c_Trail_runFrom {E : Env} (hE : OKE E) {tg : Bool} {d : Nat} (hd : 1 ≤ d) {g : Nat} {S : MS} {I : MI} {L : ML} {R : MR} {n : Nat} {t : Nat} {p1 : Int32} {I' : MI} (hS : (S t).1 = 10) (h : f_Trail_runFrom g S R I t p1 = some I') : C E y_Trail_runFrom b_Trail_runFrom 5 none tg d 0 0 [.ref (e_b E + t), .int p1] S I L R n (Kq none S I' L R n) := by
  refine C.of (o := [some (.ref (e_b E + t)), some (.int p1), none, none, none]) (by decide) rfl (Nat.le_of_ble_eq_true rfl) ?_
  rw [f_Trail_runFrom] at h
  refine X.aload_0 (pc := 0) (by decide +kernel) ?_
  refine X.iload_1 (pc := 1) (by decide +kernel) ?_
  refine X.putI (pc := 2) (k := 2) fw_Trail_19 (by decide +kernel) rfl rfl hS ?_
  refine X.nameMI (fun I1 hI1 => ?_)
  have h := lt_at hI1 h
  refine X.aload_0 (pc := 5) (by decide +kernel) ?_
  refine X.iconst (pc := 6) (i := 0) (v := 0) ic_0 (by decide +kernel) ?_
  refine X.putI (pc := 7) (k := 3) fw_Trail_23 (by decide +kernel) rfl rfl hS ?_
  refine X.nameMI (fun I2 hI2 => ?_)
  have h := lt_at hI2 h
  refine X.aload_0 (pc := 10) (by decide +kernel) ?_
  refine X.iconst (pc := 11) (i := 0) (v := 0) ic_0 (by decide +kernel) ?_
  refine X.putZ (pc := 12) (k := 4) fw_Trail_26 (by decide +kernel) rfl rfl hS (Or.inl rfl) ?_
  refine X.nameMI (fun I3 hI3 => ?_)
  have h := lt_at hI3 h
  refine X.lconst (pc := 15) (i := 1) (v := 1) rfl (by decide +kernel) ?_
  refine X.iload_1 (pc := 16) (by decide +kernel) ?_
  refine X.lshl (pc := 17) (by decide +kernel) ?_
  refine X.nameL (fun x4 hx4 => ?_)
  have h := lt_at hx4 h
  refine X.lstore_2 (pc := 18) (by decide +kernel) (by decide) rfl ?_
  refine X.iconst (pc := 19) (i := 0) (v := 0) ic_0 (by decide +kernel) ?_
  refine X.istore_4 (pc := 20) (by decide +kernel) (by decide) rfl ?_
  obtain ⟨I24, hv25, h⟩ := bnd1_some h
  refine X.fgt (o' := [some (.ref (e_b E + t)), none, some (.long x4), none, some (.int 0)]) ⟨rfl, ⟨rfl, ⟨rfl, trivial⟩⟩⟩ ?_
  refine xl_Trail_runFrom_22 hE hd hS hv25 ?_
  have j0 := Option.some.inj h
  subst j0
  exact X.vreturn (pc := 113) (by decide +kernel) rfl ⟨rfl, rfl, rfl, rfl, rfl, rfl⟩
set_option maxRecDepth 100000 in
noncomputable def f_GWL_follow (g : Nat) (S : MS) (R : MR) (I : MI) (L : ML) (t : Nat) (p1 : Int32) : Option (Int32 × MI × ML) :=
  bnd1 (R t 2) fun b1 =>
  asrt ((S b1).1 = 2) <|
  bnd1 (f_Land_has S I b1 p1) fun x3 =>
  ifb (x3 = 0)
    (some ((-1), I, L))
    (bnd1 (R t 16) fun b6 =>
    asrt ((S b6).1 = 10) <|
    bnd1 (f_Trail_runFrom g S R I b6 p1) fun I8 =>
    bnd1 (R t 1) fun b10 =>
    asrt ((S b10).1 = 4) <|
    bnd1 (f_Numbers_begin S I8 b10) fun I12 =>
    bnd2 (f_Numbers_add S R I12 L b10 (Int32.toInt64 (I12 b6 3))) fun I14 L15 =>
    bnd1 (ifb ((I14 b6 4) = 0)
        (bnd1 (f_GWL_fate S R I14 t (I14 b6 2)) fun x21 =>
        some (Int32.toInt64 x21))
        (some 3)) fun (y18 : Int64) =>
    bnd2 (f_Numbers_add S R I14 L15 b10 y18) fun I23 L24 =>
    lt (I23 b6 2) fun (x26 : Int32) =>
    some (x26, I23, L24))
set_option maxRecDepth 100000 in
set_option maxHeartbeats 4000000 in
theorem c_GWL_follow {E : Env} (hE : OKE E) {tg : Bool} {d : Nat} (hd : 2 ≤ d) {g : Nat} {S : MS} {I : MI} {L : ML} {R : MR} {n : Nat} {t : Nat} {p1 : Int32} {v : Int32} {I' : MI} {L' : ML} (hS : (S t).1 = 11) (h : f_GWL_follow g S R I L t p1 = some (v, I', L')) : C E y_GWL_follow b_GWL_follow 2 (some .int) tg d 0 0 [.ref (e_b E + t), .int p1] S I L R n (Kq (some (.int v)) S I' L' R n) := by
  refine C.of (o := [some (.ref (e_b E + t)), some (.int p1)]) (by decide) rfl (Nat.le_of_ble_eq_true rfl) ?_
  rw [f_GWL_follow] at h
  refine X.aload_0 (pc := 0) (by decide +kernel) ?_
  obtain ⟨b1, hb1, h⟩ := bnd1_some h
  refine X.getR (pc := 1) (k := 2) fw_GWL_83 (by decide +kernel) (fun _ => rfl) hS hb1 ?_
  refine X.iload_1 (pc := 4) (by decide +kernel) ?_
  obtain ⟨hc2, h⟩ := asrt_some h
  obtain ⟨x3, hv4, h⟩ := bnd1_some h
  refine X.callVi (pc := 5) (nc := 0) (ns := 0) (c_Land_has hE (dle hd (Nat.le_of_ble_eq_true rfl)) hc2 hv4) cv_GWL_172 (by decide +kernel) hc2 ⟨by decide, rfl⟩ (ddd hd (Nat.le_of_ble_eq_true rfl)) rfl (Nat.le_of_ble_eq_true rfl) rfl rfl ?_
  rcases ifb_some h with ⟨hq5, h⟩ | ⟨hq5, h⟩
  · refine X.if_ne_f (pc := 8) (off := 5) (tgt := 13) hq5 rfl (by decide +kernel) ?_
    refine X.iconst (pc := 11) (i := (-1)) (v := (-1)) ic_m1 (by decide +kernel) ?_
    have j0 := Option.some.inj h
    obtain ⟨i0, j1⟩ := Prod.mk.inj j0
    obtain ⟨i1, j2⟩ := Prod.mk.inj j1
    subst i0
    subst i1
    subst j2
    exact X.ireturn (pc := 12) (by decide +kernel) ⟨_, rfl, rfl⟩ ⟨rfl, rfl, rfl, rfl, rfl, rfl⟩
  · refine X.if_ne_t (pc := 8) (off := 5) (tgt := 13) hq5 rfl (by decide +kernel) ?_
    refine X.aload_0 (pc := 13) (by decide +kernel) ?_
    obtain ⟨b6, hb6, h⟩ := bnd1_some h
    refine X.getR (pc := 14) (k := 16) fw_GWL_108 (by decide +kernel) (fun _ => rfl) hS hb6 ?_
    refine X.iload_1 (pc := 17) (by decide +kernel) ?_
    obtain ⟨hc7, h⟩ := asrt_some h
    obtain ⟨I8, hv9, h⟩ := bnd1_some h
    refine X.callVv (pc := 18) (nc := 0) (ns := 0) (c_Trail_runFrom hE (dle hd (Nat.le_of_ble_eq_true rfl)) hc7 hv9) cv_GWL_335 (by decide +kernel) hc7 ⟨by decide, rfl⟩ (ddd hd (Nat.le_of_ble_eq_true rfl)) rfl (Nat.le_of_ble_eq_true rfl) rfl rfl ?_
    refine X.aload_0 (pc := 21) (by decide +kernel) ?_
    obtain ⟨b10, hb10, h⟩ := bnd1_some h
    refine X.getR (pc := 22) (k := 1) fw_GWL_19 (by decide +kernel) (fun _ => rfl) hS hb10 ?_
    obtain ⟨hc11, h⟩ := asrt_some h
    obtain ⟨I12, hv13, h⟩ := bnd1_some h
    refine X.callVv (pc := 25) (nc := 0) (ns := 0) (c_Numbers_begin hE (dle hd (Nat.le_of_ble_eq_true rfl)) hc11 hv13) cv_GWL_207 (by decide +kernel) hc11 ⟨by decide, rfl⟩ (ddd hd (Nat.le_of_ble_eq_true rfl)) rfl (Nat.le_of_ble_eq_true rfl) rfl rfl ?_
    refine X.aload_0 (pc := 28) (by decide +kernel) ?_
    refine X.getR (pc := 29) (k := 1) fw_GWL_19 (by decide +kernel) (fun _ => rfl) hS hb10 ?_
    refine X.aload_0 (pc := 32) (by decide +kernel) ?_
    refine X.getR (pc := 33) (k := 16) fw_GWL_108 (by decide +kernel) (fun _ => rfl) hS hb6 ?_
    refine X.getI (pc := 36) (k := 3) fw_GWL_339 (by decide +kernel) (fun _ => rfl) hc7 ?_
    refine X.i2l (pc := 39) (by decide +kernel) ?_
    obtain ⟨I14, L15, hv16, h⟩ := bnd2_some h
    refine X.callVv (pc := 40) (nc := 0) (ns := 0) (c_Numbers_add hE (dle hd (Nat.le_of_ble_eq_true rfl)) hc11 hv16) cv_GWL_209 (by decide +kernel) hc11 ⟨by decide, rfl⟩ (ddd hd (Nat.le_of_ble_eq_true rfl)) rfl (Nat.le_of_ble_eq_true rfl) rfl rfl ?_
    refine X.aload_0 (pc := 43) (by decide +kernel) ?_
    refine X.getR (pc := 44) (k := 1) fw_GWL_19 (by decide +kernel) (fun _ => rfl) hS hb10 ?_
    refine X.aload_0 (pc := 47) (by decide +kernel) ?_
    refine X.getR (pc := 48) (k := 16) fw_GWL_108 (by decide +kernel) (fun _ => rfl) hS hb6 ?_
    refine X.getI (pc := 51) (k := 4) fw_GWL_340 (by decide +kernel) (fun _ => rfl) hc7 ?_
    obtain ⟨y18, hr19, h⟩ := bnd1_some h
    have hj20 : X E y_GWL_follow b_GWL_follow 2 (some .int) tg d 0 0 75 [some (.ref (e_b E + t)), none] [.long y18, .ref (e_b E + b10)] S I14 L15 R n (Kq (some (.int v)) S I' L' R n) := by
      obtain ⟨I23, L24, hv25, h⟩ := bnd2_some h
      refine X.callVv (pc := 75) (nc := 0) (ns := 0) (c_Numbers_add hE (dle hd (Nat.le_of_ble_eq_true rfl)) hc11 hv25) cv_GWL_209 (by decide +kernel) hc11 ⟨by decide, rfl⟩ (ddd hd (Nat.le_of_ble_eq_true rfl)) rfl (Nat.le_of_ble_eq_true rfl) rfl rfl ?_
      refine X.aload_0 (pc := 78) (by decide +kernel) ?_
      refine X.getR (pc := 79) (k := 16) fw_GWL_108 (by decide +kernel) (fun _ => rfl) hS hb6 ?_
      refine X.getI (pc := 82) (k := 2) fw_GWL_346 (by decide +kernel) (fun _ => rfl) hc7 ?_
      refine X.nameI (fun x26 hx26 => ?_)
      have h := lt_at hx26 h
      have j0 := Option.some.inj h
      obtain ⟨i0, j1⟩ := Prod.mk.inj j0
      obtain ⟨i1, j2⟩ := Prod.mk.inj j1
      subst i0
      subst i1
      subst j2
      exact X.ireturn (pc := 85) (by decide +kernel) ⟨_, rfl, rfl⟩ ⟨rfl, rfl, rfl, rfl, rfl, rfl⟩
    have h := hr19
    rcases ifb_some h with ⟨hq17, h⟩ | ⟨hq17, h⟩
    · refine X.if_eq_t (pc := 54) (off := 9) (tgt := 63) hq17 rfl (by decide +kernel) ?_
      refine X.aload_0 (pc := 63) (by decide +kernel) ?_
      refine X.aload_0 (pc := 64) (by decide +kernel) ?_
      refine X.getR (pc := 65) (k := 16) fw_GWL_108 (by decide +kernel) (fun _ => rfl) hS hb6 ?_
      refine X.getI (pc := 68) (k := 2) fw_GWL_346 (by decide +kernel) (fun _ => rfl) hc7 ?_
      obtain ⟨x21, hv22, h⟩ := bnd1_some h
      refine X.callVi (pc := 71) (nc := 0) (ns := 0) (c_GWL_fate hE (dle hd (Nat.le_of_ble_eq_true rfl)) hS hv22) cv_GWL_247 (by decide +kernel) hS ⟨by decide, rfl⟩ (ddd hd (Nat.le_of_ble_eq_true rfl)) rfl (Nat.le_of_ble_eq_true rfl) rfl rfl ?_
      refine X.i2l (pc := 74) (by decide +kernel) ?_
      have j0 := Option.some.inj h
      subst j0
      refine X.fgt (o' := [some (.ref (e_b E + t)), none]) ⟨rfl, trivial⟩ ?_
      exact hj20
    · refine X.if_eq_f (pc := 54) (off := 9) (tgt := 63) hq17 rfl (by decide +kernel) ?_
      refine X.ldc2 (pc := 57) (x := 344) (v := 3) ld_GWL_344 (by decide +kernel) ?_
      refine X.goto (pc := 60) (off := 15) (tgt := 75) (by decide +kernel) rfl ?_
      have j0 := Option.some.inj h
      subst j0
      refine X.fgt (o' := [some (.ref (e_b E + t)), none]) ⟨rfl, trivial⟩ ?_
      exact hj20
set_option maxRecDepth 100000 in
noncomputable def f_Trail_misleads (g : Nat) (S : MS) (R : MR) (I : MI) (t : Nat) (p1 : Int32) : Option (Int32 × MI) :=
  bnd1 (f_Trail_runFrom g S R I t p1) fun I1 =>
  bnd1 (ifb ((I1 t 4) = 0)
      (bnd1 (R t 0) fun b7 =>
      asrt ((S b7).1 = 2) <|
      bnd1 (f_Land_kindOf S R I1 b7 (I1 t 2)) fun x9 =>
      ifb (x9 = 1)
        (some 1)
        (some 0))
      (some 1)) fun (y4 : Int32) =>
  asrt (y4 = 0 ∨ y4 = 1) <|
  some (y4, I1)
set_option maxRecDepth 100000 in
set_option maxHeartbeats 4000000 in
theorem c_Trail_misleads {E : Env} (hE : OKE E) {tg : Bool} {d : Nat} (hd : 2 ≤ d) {g : Nat} {S : MS} {I : MI} {L : ML} {R : MR} {n : Nat} {t : Nat} {p1 : Int32} {v : Int32} {I' : MI} (hS : (S t).1 = 10) (h : f_Trail_misleads g S R I t p1 = some (v, I')) : C E y_Trail_misleads b_Trail_misleads 2 (some .boolean) tg d 0 0 [.ref (e_b E + t), .int p1] S I L R n (Kq (some (.int v)) S I' L R n) := by
  refine C.of (o := [some (.ref (e_b E + t)), some (.int p1)]) (by decide) rfl (Nat.le_of_ble_eq_true rfl) ?_
  rw [f_Trail_misleads] at h
  refine X.aload_0 (pc := 0) (by decide +kernel) ?_
  refine X.iload_1 (pc := 1) (by decide +kernel) ?_
  obtain ⟨I1, hv2, h⟩ := bnd1_some h
  refine X.callVv (pc := 2) (nc := 0) (ns := 0) (c_Trail_runFrom hE (dle hd (Nat.le_of_ble_eq_true rfl)) hS hv2) cv_Trail_36 (by decide +kernel) hS ⟨by decide, rfl⟩ (ddd hd (Nat.le_of_ble_eq_true rfl)) rfl (Nat.le_of_ble_eq_true rfl) rfl rfl ?_
  refine X.aload_0 (pc := 5) (by decide +kernel) ?_
  refine X.getI (pc := 6) (k := 4) fw_Trail_26 (by decide +kernel) (fun _ => rfl) hS ?_
  obtain ⟨y4, hr5, h⟩ := bnd1_some h
  have hj6 : X E y_Trail_misleads b_Trail_misleads 2 (some .boolean) tg d 0 0 32 [none, none] [.int y4] S I1 L R n (Kq (some (.int v)) S I' L R n) := by
    obtain ⟨hb12, h⟩ := asrt_some h
    have j0 := Option.some.inj h
    obtain ⟨i0, j1⟩ := Prod.mk.inj j0
    subst i0
    subst j1
    exact X.ireturn (pc := 32) (by decide +kernel) ⟨_, rfl, nz01 hb12⟩ ⟨rfl, rfl, rfl, rfl, rfl, rfl⟩
  have h := hr5
  rcases ifb_some h with ⟨hq3, h⟩ | ⟨hq3, h⟩
  · refine X.if_ne_f (pc := 9) (off := 18) (tgt := 27) hq3 rfl (by decide +kernel) ?_
    refine X.aload_0 (pc := 12) (by decide +kernel) ?_
    obtain ⟨b7, hb7, h⟩ := bnd1_some h
    refine X.getR (pc := 13) (k := 0) fw_Trail_9 (by decide +kernel) (fun _ => rfl) hS hb7 ?_
    refine X.aload_0 (pc := 16) (by decide +kernel) ?_
    refine X.getI (pc := 17) (k := 2) fw_Trail_19 (by decide +kernel) (fun _ => rfl) hS ?_
    obtain ⟨hc8, h⟩ := asrt_some h
    obtain ⟨x9, hv10, h⟩ := bnd1_some h
    refine X.callVi (pc := 20) (nc := 0) (ns := 0) (c_Land_kindOf hE (dle hd (Nat.le_of_ble_eq_true rfl)) hc8 hv10) cv_Trail_40 (by decide +kernel) hc8 ⟨by decide, rfl⟩ (ddd hd (Nat.le_of_ble_eq_true rfl)) rfl (Nat.le_of_ble_eq_true rfl) rfl rfl ?_
    refine X.iconst (pc := 23) (i := 1) (v := 1) ic_1 (by decide +kernel) ?_
    rcases ifb_some h with ⟨hq11, h⟩ | ⟨hq11, h⟩
    · refine X.icmp_ne_f (pc := 24) (off := 7) (tgt := 31) hq11 rfl (by decide +kernel) ?_
      refine X.iconst (pc := 27) (i := 1) (v := 1) ic_1 (by decide +kernel) ?_
      refine X.goto (pc := 28) (off := 4) (tgt := 32) (by decide +kernel) rfl ?_
      have j0 := Option.some.inj h
      subst j0
      refine X.fgt (o' := [none, none]) trivial ?_
      exact hj6
    · refine X.icmp_ne_t (pc := 24) (off := 7) (tgt := 31) hq11 rfl (by decide +kernel) ?_
      refine X.iconst (pc := 31) (i := 0) (v := 0) ic_0 (by decide +kernel) ?_
      have j0 := Option.some.inj h
      subst j0
      refine X.fgt (o' := [none, none]) trivial ?_
      exact hj6
  · refine X.if_ne_t (pc := 9) (off := 18) (tgt := 27) hq3 rfl (by decide +kernel) ?_
    refine X.iconst (pc := 27) (i := 1) (v := 1) ic_1 (by decide +kernel) ?_
    refine X.goto (pc := 28) (off := 4) (tgt := 32) (by decide +kernel) rfl ?_
    have j0 := Option.some.inj h
    subst j0
    refine X.fgt (o' := [none, none]) trivial ?_
    exact hj6
set_option maxRecDepth 100000 in
noncomputable def l_Land_hasWayFrom_2 (S : MS) (R : MR) (I : MI) (v0 : Nat) (v1 : Int32) : Nat → Int32 → Option Int32
  | 0, _ => none
  | f + 1, v2 =>
    ifb (4 ≤ v2)
      (some 0)
      (bnd1 (f_Land_stepsHome S R I v0 ((v1 * 4) + v2)) fun x2 =>
      ifb (x2 = (-1))
        (l_Land_hasWayFrom_2 S R I v0 v1 f (v2 + 1))
        (some 1))
set_option maxRecDepth 100000 in
set_option maxHeartbeats 4000000 in
theorem xl_Land_hasWayFrom_2 {E : Env} (hE : OKE E) {tg : Bool} {d : Nat} (hd : 1 ≤ d) {S : MS} {I : MI} {L : ML} {R : MR} {n : Nat} {v0 : Nat} {v1 : Int32} :
    ∀ {f : Nat}  {v2 : Int32} {v : Int32}, (S v0).1 = 2 → l_Land_hasWayFrom_2 S R I v0 v1 f v2 = some v → X E y_Land_hasWayFrom b_Land_hasWayFrom 3 (some .boolean) tg d 0 0 2 [some (.ref (e_b E + v0)), some (.int v1), some (.int v2)] [] S I L R n (Kq (some (.int v)) S I L R n) := by
  intro f
  induction f with
  | zero =>
    intro v2 v hS h
    rw [l_Land_hasWayFrom_2] at h
    cases h
  | succ f ih =>
    intro v2 v hS h
    rw [l_Land_hasWayFrom_2] at h
    refine X.iload_2 (pc := 2) (by decide +kernel) ?_
    refine X.iconst (pc := 3) (i := 4) (v := 4) ic_4 (by decide +kernel) ?_
    rcases ifb_some h with ⟨hq1, h⟩ | ⟨hq1, h⟩
    · refine X.icmp_ge_t (pc := 4) (off := 24) (tgt := 28) hq1 rfl (by decide +kernel) ?_
      refine X.iconst (pc := 28) (i := 0) (v := 0) ic_0 (by decide +kernel) ?_
      have j0 := Option.some.inj h
      subst j0
      exact X.ireturn (pc := 29) (by decide +kernel) ⟨_, rfl, nz01 (Or.inl rfl)⟩ ⟨rfl, rfl, rfl, rfl, rfl, rfl⟩
    · refine X.icmp_ge_f (pc := 4) (off := 24) (tgt := 28) hq1 rfl (by decide +kernel) ?_
      refine X.aload_0 (pc := 7) (by decide +kernel) ?_
      refine X.iload_1 (pc := 8) (by decide +kernel) ?_
      refine X.iconst (pc := 9) (i := 4) (v := 4) ic_4 (by decide +kernel) ?_
      refine X.imul (pc := 10) (by decide +kernel) ?_
      refine X.iload_2 (pc := 11) (by decide +kernel) ?_
      refine X.iadd (pc := 12) (by decide +kernel) ?_
      obtain ⟨x2, hv3, h⟩ := bnd1_some h
      refine X.callVi (pc := 13) (nc := 0) (ns := 0) (c_Land_stepsHome hE (dle hd (Nat.le_of_ble_eq_true rfl)) hS hv3) cv_Land_76 (by decide +kernel) hS ⟨by decide, rfl⟩ (ddd hd (Nat.le_of_ble_eq_true rfl)) rfl (Nat.le_of_ble_eq_true rfl) rfl rfl ?_
      refine X.iconst (pc := 16) (i := (-1)) (v := (-1)) ic_m1 (by decide +kernel) ?_
      rcases ifb_some h with ⟨hq4, h⟩ | ⟨hq4, h⟩
      · refine X.icmp_eq_t (pc := 17) (off := 5) (tgt := 22) hq4 rfl (by decide +kernel) ?_
        refine X.iinc_2 (pc := 22) (z := 1) (v := 1) ic_1 (by decide +kernel) (by decide) rfl ?_
        refine X.goto (pc := 25) (off := (-23)) (tgt := 2) (by decide +kernel) rfl ?_
        exact ih hS h
      · refine X.icmp_eq_f (pc := 17) (off := 5) (tgt := 22) hq4 rfl (by decide +kernel) ?_
        refine X.iconst (pc := 20) (i := 1) (v := 1) ic_1 (by decide +kernel) ?_
        have j0 := Option.some.inj h
        subst j0
        exact X.ireturn (pc := 21) (by decide +kernel) ⟨_, rfl, nz01 (Or.inr rfl)⟩ ⟨rfl, rfl, rfl, rfl, rfl, rfl⟩
set_option maxRecDepth 100000 in
noncomputable def f_Land_hasWayFrom (g : Nat) (S : MS) (R : MR) (I : MI) (t : Nat) (p1 : Int32) : Option Int32 :=
  l_Land_hasWayFrom_2 S R I t p1 g 0
set_option maxRecDepth 100000 in
set_option maxHeartbeats 4000000 in
theorem c_Land_hasWayFrom {E : Env} (hE : OKE E) {tg : Bool} {d : Nat} (hd : 1 ≤ d) {g : Nat} {S : MS} {I : MI} {L : ML} {R : MR} {n : Nat} {t : Nat} {p1 : Int32} {v : Int32} (hS : (S t).1 = 2) (h : f_Land_hasWayFrom g S R I t p1 = some v) : C E y_Land_hasWayFrom b_Land_hasWayFrom 3 (some .boolean) tg d 0 0 [.ref (e_b E + t), .int p1] S I L R n (Kq (some (.int v)) S I L R n) := by
  refine C.of (o := [some (.ref (e_b E + t)), some (.int p1), none]) (by decide) rfl (Nat.le_of_ble_eq_true rfl) ?_
  rw [f_Land_hasWayFrom] at h
  refine X.iconst (pc := 0) (i := 0) (v := 0) ic_0 (by decide +kernel) ?_
  refine X.istore_2 (pc := 1) (by decide +kernel) (by decide) rfl ?_
  exact xl_Land_hasWayFrom_2 hE hd hS h
set_option maxRecDepth 100000 in
noncomputable def l_GWL_warned_14 (g : Nat) (S : MS) (R : MR) (v0 : Nat) : Nat → MI → Int32 → Int32 → Int32 → Option (Int32 × Int32 × MI)
  | 0, _, _, _, _ => none
  | f + 1, I, v1, v2, v3 =>
    bnd1 (R v0 2) fun b5 =>
    asrt ((S b5).1 = 2) <|
    bnd1 (f_Land_size S I b5) fun x7 =>
    ifb (x7 ≤ v3)
      (some (v1, v2, I))
      (bnd1 (R v0 3) fun b10 =>
      asrt ((S b10).1 = 5) <|
      bnd1 (f_Party_trackFrom S R I b10 v3) fun x12 =>
      bnd3 (ifb (x12 = (-1))
          (some (v1, v2, I))
          (bnd1 (R v0 16) fun b20 =>
          asrt ((S b20).1 = 10) <|
          bnd2 (f_Trail_misleads g S R I b20 v3) fun x22 I23 =>
          ifb (x22 = 0)
            (some (v1, v2, I23))
            (bnd1 (f_Land_hasWayFrom g S R I23 b5 v3) fun x26 =>
            ifb (x26 = 0)
              (some (v1, v2, I23))
              (bnd1 (ifb (v2 = 0)
                  (some v3)
                  (some v1)) fun (y30 : Int32) =>
              some (y30, v2 + 1, I23))))) fun (z15 : Int32) (z16 : Int32) (I17 : MI) =>
      l_GWL_warned_14 g S R v0 f I17 z15 z16 (v3 + 1))
set_option maxRecDepth 100000 in
set_option maxHeartbeats 4000000 in
theorem xl_GWL_warned_14 {E : Env} (hE : OKE E) {tg : Bool} {d : Nat} (hd : 4 ≤ d) {g : Nat} {S : MS} {L : ML} {R : MR} {n : Nat} {v0 : Nat} {K : KT} :
    ∀ {f : Nat} {I : MI} {v1 : Int32} {v2 : Int32} {v3 : Int32} {o1 : Int32} {o2 : Int32} {I' : MI}, (S v0).1 = 11 → l_GWL_warned_14 g S R v0 f I v1 v2 v3 = some (o1, o2, I') → X E y_GWL_warned b_GWL_warned 4 (some .int) tg d 0 0 78 [some (.ref (e_b E + v0)), some (.int o1), some (.int o2), none] [] S I' L R n K → X E y_GWL_warned b_GWL_warned 4 (some .int) tg d 0 0 14 [some (.ref (e_b E + v0)), some (.int v1), some (.int v2), some (.int v3)] [] S I L R n K := by
  intro f
  induction f with
  | zero =>
    intro I v1 v2 v3 o1 o2 I' hS h hk
    rw [l_GWL_warned_14] at h
    cases h
  | succ f ih =>
    intro I v1 v2 v3 o1 o2 I' hS h hk
    rw [l_GWL_warned_14] at h
    refine X.iload_3 (pc := 14) (by decide +kernel) ?_
    refine X.aload_0 (pc := 15) (by decide +kernel) ?_
    obtain ⟨b5, hb5, h⟩ := bnd1_some h
    refine X.getR (pc := 16) (k := 2) fw_GWL_83 (by decide +kernel) (fun _ => rfl) hS hb5 ?_
    obtain ⟨hc6, h⟩ := asrt_some h
    obtain ⟨x7, hv8, h⟩ := bnd1_some h
    refine X.callVi (pc := 19) (nc := 0) (ns := 0) (c_Land_size hE (dle hd (Nat.le_of_ble_eq_true rfl)) hc6 hv8) cv_GWL_159 (by decide +kernel) hc6 ⟨by decide, rfl⟩ (ddd hd (Nat.le_of_ble_eq_true rfl)) rfl (Nat.le_of_ble_eq_true rfl) rfl rfl ?_
    rcases ifb_some h with ⟨hq9, h⟩ | ⟨hq9, h⟩
    · refine X.icmp_ge_t (pc := 22) (off := 56) (tgt := 78) hq9 rfl (by decide +kernel) ?_
      have j0 := Option.some.inj h
      obtain ⟨i0, j1⟩ := Prod.mk.inj j0
      obtain ⟨i1, j2⟩ := Prod.mk.inj j1
      subst i0
      subst i1
      subst j2
      refine X.fgt (o' := [some (.ref (e_b E + v0)), some (.int v1), some (.int v2), none]) ⟨rfl, ⟨rfl, ⟨rfl, trivial⟩⟩⟩ ?_
      exact hk
    · refine X.icmp_ge_f (pc := 22) (off := 56) (tgt := 78) hq9 rfl (by decide +kernel) ?_
      refine X.aload_0 (pc := 25) (by decide +kernel) ?_
      obtain ⟨b10, hb10, h⟩ := bnd1_some h
      refine X.getR (pc := 26) (k := 3) fw_GWL_87 (by decide +kernel) (fun _ => rfl) hS hb10 ?_
      refine X.iload_3 (pc := 29) (by decide +kernel) ?_
      obtain ⟨hc11, h⟩ := asrt_some h
      obtain ⟨x12, hv13, h⟩ := bnd1_some h
      refine X.callVi (pc := 30) (nc := 0) (ns := 0) (c_Party_trackFrom hE (dle hd (Nat.le_of_ble_eq_true rfl)) hc11 hv13) cv_GWL_332 (by decide +kernel) hc11 ⟨by decide, rfl⟩ (ddd hd (Nat.le_of_ble_eq_true rfl)) rfl (Nat.le_of_ble_eq_true rfl) rfl rfl ?_
      refine X.iconst (pc := 33) (i := (-1)) (v := (-1)) ic_m1 (by decide +kernel) ?_
      obtain ⟨z15, z16, I17, hr18, h⟩ := bnd3_some h
      have hj19 : X E y_GWL_warned b_GWL_warned 4 (some .int) tg d 0 0 72 [some (.ref (e_b E + v0)), some (.int z15), some (.int z16), some (.int v3)] [] S I17 L R n K := by
        refine X.iinc_3 (pc := 72) (z := 1) (v := 1) ic_1 (by decide +kernel) (by decide) rfl ?_
        refine X.goto (pc := 75) (off := (-61)) (tgt := 14) (by decide +kernel) rfl ?_
        exact ih hS h hk
      have h := hr18
      rcases ifb_some h with ⟨hq14, h⟩ | ⟨hq14, h⟩
      · refine X.icmp_eq_t (pc := 34) (off := 38) (tgt := 72) hq14 rfl (by decide +kernel) ?_
        have j0 := Option.some.inj h
        obtain ⟨i0, j1⟩ := Prod.mk.inj j0
        obtain ⟨i1, j2⟩ := Prod.mk.inj j1
        subst i0
        subst i1
        subst j2
        exact hj19
      · refine X.icmp_eq_f (pc := 34) (off := 38) (tgt := 72) hq14 rfl (by decide +kernel) ?_
        refine X.aload_0 (pc := 37) (by decide +kernel) ?_
        obtain ⟨b20, hb20, h⟩ := bnd1_some h
        refine X.getR (pc := 38) (k := 16) fw_GWL_108 (by decide +kernel) (fun _ => rfl) hS hb20 ?_
        refine X.iload_3 (pc := 41) (by decide +kernel) ?_
        obtain ⟨hc21, h⟩ := asrt_some h
        obtain ⟨x22, I23, hv24, h⟩ := bnd2_some h
        refine X.callVi (pc := 42) (nc := 0) (ns := 0) (c_Trail_misleads hE (dle hd (Nat.le_of_ble_eq_true rfl)) hc21 hv24) cv_GWL_349 (by decide +kernel) hc21 ⟨by decide, rfl⟩ (ddd hd (Nat.le_of_ble_eq_true rfl)) rfl (Nat.le_of_ble_eq_true rfl) rfl rfl ?_
        rcases ifb_some h with ⟨hq25, h⟩ | ⟨hq25, h⟩
        · refine X.if_eq_t (pc := 45) (off := 27) (tgt := 72) hq25 rfl (by decide +kernel) ?_
          have j0 := Option.some.inj h
          obtain ⟨i0, j1⟩ := Prod.mk.inj j0
          obtain ⟨i1, j2⟩ := Prod.mk.inj j1
          subst i0
          subst i1
          subst j2
          exact hj19
        · refine X.if_eq_f (pc := 45) (off := 27) (tgt := 72) hq25 rfl (by decide +kernel) ?_
          refine X.aload_0 (pc := 48) (by decide +kernel) ?_
          refine X.getR (pc := 49) (k := 2) fw_GWL_83 (by decide +kernel) (fun _ => rfl) hS hb5 ?_
          refine X.iload_3 (pc := 52) (by decide +kernel) ?_
          obtain ⟨x26, hv27, h⟩ := bnd1_some h
          refine X.callVi (pc := 53) (nc := 0) (ns := 0) (c_Land_hasWayFrom hE (dle hd (Nat.le_of_ble_eq_true rfl)) hc6 hv27) cv_GWL_352 (by decide +kernel) hc6 ⟨by decide, rfl⟩ (ddd hd (Nat.le_of_ble_eq_true rfl)) rfl (Nat.le_of_ble_eq_true rfl) rfl rfl ?_
          rcases ifb_some h with ⟨hq28, h⟩ | ⟨hq28, h⟩
          · refine X.if_eq_t (pc := 56) (off := 16) (tgt := 72) hq28 rfl (by decide +kernel) ?_
            have j0 := Option.some.inj h
            obtain ⟨i0, j1⟩ := Prod.mk.inj j0
            obtain ⟨i1, j2⟩ := Prod.mk.inj j1
            subst i0
            subst i1
            subst j2
            exact hj19
          · refine X.if_eq_f (pc := 56) (off := 16) (tgt := 72) hq28 rfl (by decide +kernel) ?_
            refine X.iload_2 (pc := 59) (by decide +kernel) ?_
            obtain ⟨y30, hr31, h⟩ := bnd1_some h
            have hj32 : X E y_GWL_warned b_GWL_warned 4 (some .int) tg d 0 0 68 [some (.ref (e_b E + v0)), none, some (.int v2), some (.int v3)] [.int y30] S I23 L R n K := by
              refine X.istore_1 (pc := 68) (by decide +kernel) (by decide) rfl ?_
              refine X.iinc_2 (pc := 69) (z := 1) (v := 1) ic_1 (by decide +kernel) (by decide) rfl ?_
              have j0 := Option.some.inj h
              obtain ⟨i0, j1⟩ := Prod.mk.inj j0
              obtain ⟨i1, j2⟩ := Prod.mk.inj j1
              subst i0
              subst i1
              subst j2
              exact hj19
            have h := hr31
            rcases ifb_some h with ⟨hq29, h⟩ | ⟨hq29, h⟩
            · refine X.if_ne_f (pc := 60) (off := 7) (tgt := 67) hq29 rfl (by decide +kernel) ?_
              refine X.iload_3 (pc := 63) (by decide +kernel) ?_
              refine X.goto (pc := 64) (off := 4) (tgt := 68) (by decide +kernel) rfl ?_
              have j0 := Option.some.inj h
              subst j0
              refine X.fgt (o' := [some (.ref (e_b E + v0)), none, some (.int v2), some (.int v3)]) ⟨rfl, ⟨rfl, ⟨rfl, trivial⟩⟩⟩ ?_
              exact hj32
            · refine X.if_ne_t (pc := 60) (off := 7) (tgt := 67) hq29 rfl (by decide +kernel) ?_
              refine X.iload_1 (pc := 67) (by decide +kernel) ?_
              have j0 := Option.some.inj h
              subst j0
              refine X.fgt (o' := [some (.ref (e_b E + v0)), none, some (.int v2), some (.int v3)]) ⟨rfl, ⟨rfl, ⟨rfl, trivial⟩⟩⟩ ?_
              exact hj32
set_option maxRecDepth 100000 in
noncomputable def f_GWL_warned (g : Nat) (S : MS) (R : MR) (I : MI) (L : ML) (t : Nat) : Option (Int32 × MI × ML) :=
  bnd1 (R t 2) fun b1 =>
  asrt ((S b1).1 = 2) <|
  bnd1 (f_Land_measure g S R I b1) fun I3 =>
  bnd3 (l_GWL_warned_14 g S R t g I3 (-2) 0 0) fun x33 x34 I35 =>
  bnd2 (ifb (x34 ≤ 0)
      (some (I35, L))
      (bnd1 (R t 1) fun b42 =>
      asrt ((S b42).1 = 4) <|
      bnd1 (f_Numbers_begin S I35 b42) fun I44 =>
      bnd2 (f_Numbers_add S R I44 L b42 (Int32.toInt64 x34)) fun I46 L47 =>
      some (I46, L47))) fun (I38 : MI) (L39 : ML) =>
  some (x33, I38, L39)
set_option maxRecDepth 100000 in
set_option maxHeartbeats 4000000 in
theorem c_GWL_warned {E : Env} (hE : OKE E) {tg : Bool} {d : Nat} (hd : 4 ≤ d) {g : Nat} {S : MS} {I : MI} {L : ML} {R : MR} {n : Nat} {t : Nat} {v : Int32} {I' : MI} {L' : ML} (hS : (S t).1 = 11) (h : f_GWL_warned g S R I L t = some (v, I', L')) : C E y_GWL_warned b_GWL_warned 4 (some .int) tg d 0 0 [.ref (e_b E + t)] S I L R n (Kq (some (.int v)) S I' L' R n) := by
  refine C.of (o := [some (.ref (e_b E + t)), none, none, none]) (by decide) rfl (Nat.le_of_ble_eq_true rfl) ?_
  rw [f_GWL_warned] at h
  refine X.aload_0 (pc := 0) (by decide +kernel) ?_
  obtain ⟨b1, hb1, h⟩ := bnd1_some h
  refine X.getR (pc := 1) (k := 2) fw_GWL_83 (by decide +kernel) (fun _ => rfl) hS hb1 ?_
  obtain ⟨hc2, h⟩ := asrt_some h
  obtain ⟨I3, hv4, h⟩ := bnd1_some h
  refine X.callVv (pc := 4) (nc := 0) (ns := 0) (c_Land_measure hE (dle hd (Nat.le_of_ble_eq_true rfl)) hc2 hv4) cv_GWL_250 (by decide +kernel) hc2 ⟨by decide, rfl⟩ (ddd hd (Nat.le_of_ble_eq_true rfl)) rfl (Nat.le_of_ble_eq_true rfl) rfl rfl ?_
  refine X.bipush (pc := 7) (i := (-2)) (v := (-2)) bp_m2 (by decide +kernel) ?_
  refine X.istore_1 (pc := 9) (by decide +kernel) (by decide) rfl ?_
  refine X.iconst (pc := 10) (i := 0) (v := 0) ic_0 (by decide +kernel) ?_
  refine X.istore_2 (pc := 11) (by decide +kernel) (by decide) rfl ?_
  refine X.iconst (pc := 12) (i := 0) (v := 0) ic_0 (by decide +kernel) ?_
  refine X.istore_3 (pc := 13) (by decide +kernel) (by decide) rfl ?_
  obtain ⟨x33, x34, I35, hv36, h⟩ := bnd3_some h
  refine xl_GWL_warned_14 hE hd hS hv36 ?_
  refine X.iload_2 (pc := 78) (by decide +kernel) ?_
  obtain ⟨I38, L39, hr40, h⟩ := bnd2_some h
  have hj41 : X E y_GWL_warned b_GWL_warned 4 (some .int) tg d 0 0 98 [none, some (.int x33), none, none] [] S I38 L39 R n (Kq (some (.int v)) S I' L' R n) := by
    refine X.iload_1 (pc := 98) (by decide +kernel) ?_
    have j0 := Option.some.inj h
    obtain ⟨i0, j1⟩ := Prod.mk.inj j0
    obtain ⟨i1, j2⟩ := Prod.mk.inj j1
    subst i0
    subst i1
    subst j2
    exact X.ireturn (pc := 99) (by decide +kernel) ⟨_, rfl, rfl⟩ ⟨rfl, rfl, rfl, rfl, rfl, rfl⟩
  have h := hr40
  rcases ifb_some h with ⟨hq37, h⟩ | ⟨hq37, h⟩
  · refine X.if_le_t (pc := 79) (off := 19) (tgt := 98) hq37 rfl (by decide +kernel) ?_
    have j0 := Option.some.inj h
    obtain ⟨i0, j1⟩ := Prod.mk.inj j0
    subst i0
    subst j1
    refine X.fgt (o' := [none, some (.int x33), none, none]) ⟨rfl, trivial⟩ ?_
    exact hj41
  · refine X.if_le_f (pc := 79) (off := 19) (tgt := 98) hq37 rfl (by decide +kernel) ?_
    refine X.aload_0 (pc := 82) (by decide +kernel) ?_
    obtain ⟨b42, hb42, h⟩ := bnd1_some h
    refine X.getR (pc := 83) (k := 1) fw_GWL_19 (by decide +kernel) (fun _ => rfl) hS hb42 ?_
    obtain ⟨hc43, h⟩ := asrt_some h
    obtain ⟨I44, hv45, h⟩ := bnd1_some h
    refine X.callVv (pc := 86) (nc := 0) (ns := 0) (c_Numbers_begin hE (dle hd (Nat.le_of_ble_eq_true rfl)) hc43 hv45) cv_GWL_207 (by decide +kernel) hc43 ⟨by decide, rfl⟩ (ddd hd (Nat.le_of_ble_eq_true rfl)) rfl (Nat.le_of_ble_eq_true rfl) rfl rfl ?_
    refine X.aload_0 (pc := 89) (by decide +kernel) ?_
    refine X.getR (pc := 90) (k := 1) fw_GWL_19 (by decide +kernel) (fun _ => rfl) hS hb42 ?_
    refine X.iload_2 (pc := 93) (by decide +kernel) ?_
    refine X.i2l (pc := 94) (by decide +kernel) ?_
    obtain ⟨I46, L47, hv48, h⟩ := bnd2_some h
    refine X.callVv (pc := 95) (nc := 0) (ns := 0) (c_Numbers_add hE (dle hd (Nat.le_of_ble_eq_true rfl)) hc43 hv48) cv_GWL_209 (by decide +kernel) hc43 ⟨by decide, rfl⟩ (ddd hd (Nat.le_of_ble_eq_true rfl)) rfl (Nat.le_of_ble_eq_true rfl) rfl rfl ?_
    have j0 := Option.some.inj h
    obtain ⟨i0, j1⟩ := Prod.mk.inj j0
    subst i0
    subst j1
    refine X.fgt (o' := [none, some (.int x33), none, none]) ⟨rfl, trivial⟩ ?_
    exact hj41
set_option maxRecDepth 100000 in
noncomputable def f_JInt_bitCount (p1 : Int32) : Option Int32 :=
  lt (p1 - ((ius p1 1) &&& 1431655765)) fun (x1 : Int32) =>
  lt ((x1 &&& 858993459) + ((ius x1 2) &&& 858993459)) fun (x2 : Int32) =>
  lt ((x2 + (ius x2 4)) &&& 252645135) fun (x3 : Int32) =>
  lt (x3 + (ius x3 8)) fun (x4 : Int32) =>
  lt (x4 + (ius x4 16)) fun (x5 : Int32) =>
  lt (x5 &&& 63) fun (x6 : Int32) =>
  some x6
set_option maxRecDepth 100000 in
set_option maxHeartbeats 4000000 in
theorem c_JInt_bitCount {E : Env} (hE : OKE E) {tg : Bool} {d : Nat} (hd : 0 ≤ d) {S : MS} {I : MI} {L : ML} {R : MR} {n : Nat} {p1 : Int32} {v : Int32} (h : f_JInt_bitCount p1 = some v) : C E y_JInt_bitCount b_JInt_bitCount 1 (some .int) tg d 0 0 [.int p1] S I L R n (Kq (some (.int v)) S I L R n) := by
  refine C.of (o := [some (.int p1)]) (by decide) rfl (Nat.le_of_ble_eq_true rfl) ?_
  rw [f_JInt_bitCount] at h
  refine X.iload_0 (pc := 0) (by decide +kernel) ?_
  refine X.iload_0 (pc := 1) (by decide +kernel) ?_
  refine X.iconst (pc := 2) (i := 1) (v := 1) ic_1 (by decide +kernel) ?_
  refine X.iushr (pc := 3) (by decide +kernel) ?_
  refine X.ldcw (pc := 4) (x := 265) (v := 1431655765) ld_JInt_265 (by decide +kernel) ?_
  refine X.iand (pc := 7) (by decide +kernel) ?_
  refine X.isub (pc := 8) (by decide +kernel) ?_
  refine X.nameI (fun x1 hx1 => ?_)
  have h := lt_at hx1 h
  refine X.istore_0 (pc := 9) (by decide +kernel) (by decide) ?_
  refine X.iload_0 (pc := 10) (by decide +kernel) ?_
  refine X.ldcw (pc := 11) (x := 266) (v := 858993459) ld_JInt_266 (by decide +kernel) ?_
  refine X.iand (pc := 14) (by decide +kernel) ?_
  refine X.iload_0 (pc := 15) (by decide +kernel) ?_
  refine X.iconst (pc := 16) (i := 2) (v := 2) ic_2 (by decide +kernel) ?_
  refine X.iushr (pc := 17) (by decide +kernel) ?_
  refine X.ldcw (pc := 18) (x := 266) (v := 858993459) ld_JInt_266 (by decide +kernel) ?_
  refine X.iand (pc := 21) (by decide +kernel) ?_
  refine X.iadd (pc := 22) (by decide +kernel) ?_
  refine X.nameI (fun x2 hx2 => ?_)
  have h := lt_at hx2 h
  refine X.istore_0 (pc := 23) (by decide +kernel) (by decide) ?_
  refine X.iload_0 (pc := 24) (by decide +kernel) ?_
  refine X.iload_0 (pc := 25) (by decide +kernel) ?_
  refine X.iconst (pc := 26) (i := 4) (v := 4) ic_4 (by decide +kernel) ?_
  refine X.iushr (pc := 27) (by decide +kernel) ?_
  refine X.iadd (pc := 28) (by decide +kernel) ?_
  refine X.ldcw (pc := 29) (x := 267) (v := 252645135) ld_JInt_267 (by decide +kernel) ?_
  refine X.iand (pc := 32) (by decide +kernel) ?_
  refine X.nameI (fun x3 hx3 => ?_)
  have h := lt_at hx3 h
  refine X.istore_0 (pc := 33) (by decide +kernel) (by decide) ?_
  refine X.iload_0 (pc := 34) (by decide +kernel) ?_
  refine X.iload_0 (pc := 35) (by decide +kernel) ?_
  refine X.bipush (pc := 36) (i := 8) (v := 8) bp_8 (by decide +kernel) ?_
  refine X.iushr (pc := 38) (by decide +kernel) ?_
  refine X.iadd (pc := 39) (by decide +kernel) ?_
  refine X.nameI (fun x4 hx4 => ?_)
  have h := lt_at hx4 h
  refine X.istore_0 (pc := 40) (by decide +kernel) (by decide) ?_
  refine X.iload_0 (pc := 41) (by decide +kernel) ?_
  refine X.iload_0 (pc := 42) (by decide +kernel) ?_
  refine X.bipush (pc := 43) (i := 16) (v := 16) bp_16 (by decide +kernel) ?_
  refine X.iushr (pc := 45) (by decide +kernel) ?_
  refine X.iadd (pc := 46) (by decide +kernel) ?_
  refine X.nameI (fun x5 hx5 => ?_)
  have h := lt_at hx5 h
  refine X.istore_0 (pc := 47) (by decide +kernel) (by decide) ?_
  refine X.iload_0 (pc := 48) (by decide +kernel) ?_
  refine X.bipush (pc := 49) (i := 63) (v := 63) bp_63 (by decide +kernel) ?_
  refine X.iand (pc := 51) (by decide +kernel) ?_
  refine X.nameI (fun x6 hx6 => ?_)
  have h := lt_at hx6 h
  have j0 := Option.some.inj h
  subst j0
  exact X.ireturn (pc := 52) (by decide +kernel) ⟨_, rfl, rfl⟩ ⟨rfl, rfl, rfl, rfl, rfl, rfl⟩
set_option maxRecDepth 100000 in
noncomputable def l_GWL_isFarFromAll_2 (v0 : Int32) (v1 : Int32) (v2 : Int32) : Nat → Int32 → Option Int32
  | 0, _ => none
  | f + 1, v3 =>
    ifb (v0 ≤ v3)
      (some 1)
      (ifb (((ius v1 v3) &&& 1) = 0)
        (l_GWL_isFarFromAll_2 v0 v1 v2 f (v3 + 1))
        (bnd1 (f_JInt_bitCount (v0 ^^^ v3)) fun x3 =>
        ifb (v2 ≤ x3)
          (l_GWL_isFarFromAll_2 v0 v1 v2 f (v3 + 1))
          (some 0)))
set_option maxRecDepth 100000 in
set_option maxHeartbeats 4000000 in
theorem xl_GWL_isFarFromAll_2 {E : Env} (hE : OKE E) {tg : Bool} {d : Nat} (hd : 1 ≤ d) {S : MS} {I : MI} {L : ML} {R : MR} {n : Nat} {v0 : Int32} {v1 : Int32} {v2 : Int32} :
    ∀ {f : Nat}  {v3 : Int32} {v : Int32}, l_GWL_isFarFromAll_2 v0 v1 v2 f v3 = some v → X E y_GWL_isFarFromAll b_GWL_isFarFromAll 4 (some .boolean) tg d 0 0 2 [some (.int v0), some (.int v1), some (.int v2), some (.int v3)] [] S I L R n (Kq (some (.int v)) S I L R n) := by
  intro f
  induction f with
  | zero =>
    intro v3 v h
    rw [l_GWL_isFarFromAll_2] at h
    cases h
  | succ f ih =>
    intro v3 v h
    rw [l_GWL_isFarFromAll_2] at h
    refine X.iload_3 (pc := 2) (by decide +kernel) ?_
    refine X.iload_0 (pc := 3) (by decide +kernel) ?_
    rcases ifb_some h with ⟨hq1, h⟩ | ⟨hq1, h⟩
    · refine X.icmp_ge_t (pc := 4) (off := 29) (tgt := 33) hq1 rfl (by decide +kernel) ?_
      refine X.iconst (pc := 33) (i := 1) (v := 1) ic_1 (by decide +kernel) ?_
      have j0 := Option.some.inj h
      subst j0
      exact X.ireturn (pc := 34) (by decide +kernel) ⟨_, rfl, nz01 (Or.inr rfl)⟩ ⟨rfl, rfl, rfl, rfl, rfl, rfl⟩
    · refine X.icmp_ge_f (pc := 4) (off := 29) (tgt := 33) hq1 rfl (by decide +kernel) ?_
      refine X.iload_1 (pc := 7) (by decide +kernel) ?_
      refine X.iload_3 (pc := 8) (by decide +kernel) ?_
      refine X.iushr (pc := 9) (by decide +kernel) ?_
      refine X.iconst (pc := 10) (i := 1) (v := 1) ic_1 (by decide +kernel) ?_
      refine X.iand (pc := 11) (by decide +kernel) ?_
      rcases ifb_some h with ⟨hq2, h⟩ | ⟨hq2, h⟩
      · refine X.if_eq_t (pc := 12) (off := 15) (tgt := 27) hq2 rfl (by decide +kernel) ?_
        refine X.iinc_3 (pc := 27) (z := 1) (v := 1) ic_1 (by decide +kernel) (by decide) rfl ?_
        refine X.goto (pc := 30) (off := (-28)) (tgt := 2) (by decide +kernel) rfl ?_
        exact ih h
      · refine X.if_eq_f (pc := 12) (off := 15) (tgt := 27) hq2 rfl (by decide +kernel) ?_
        refine X.iload_0 (pc := 15) (by decide +kernel) ?_
        refine X.iload_3 (pc := 16) (by decide +kernel) ?_
        refine X.ixor (pc := 17) (by decide +kernel) ?_
        obtain ⟨x3, hv4, h⟩ := bnd1_some h
        refine X.callSi (pc := 18) (nc := 0) (ns := 0) (c_JInt_bitCount hE (dle hd (Nat.le_of_ble_eq_true rfl)) hv4) cv_GWL_413 (by decide +kernel) (ddd hd (Nat.le_of_ble_eq_true rfl)) rfl (Nat.le_of_ble_eq_true rfl) rfl rfl ?_
        refine X.iload_2 (pc := 21) (by decide +kernel) ?_
        rcases ifb_some h with ⟨hq5, h⟩ | ⟨hq5, h⟩
        · refine X.icmp_ge_t (pc := 22) (off := 5) (tgt := 27) hq5 rfl (by decide +kernel) ?_
          refine X.iinc_3 (pc := 27) (z := 1) (v := 1) ic_1 (by decide +kernel) (by decide) rfl ?_
          refine X.goto (pc := 30) (off := (-28)) (tgt := 2) (by decide +kernel) rfl ?_
          exact ih h
        · refine X.icmp_ge_f (pc := 22) (off := 5) (tgt := 27) hq5 rfl (by decide +kernel) ?_
          refine X.iconst (pc := 25) (i := 0) (v := 0) ic_0 (by decide +kernel) ?_
          have j0 := Option.some.inj h
          subst j0
          exact X.ireturn (pc := 26) (by decide +kernel) ⟨_, rfl, nz01 (Or.inl rfl)⟩ ⟨rfl, rfl, rfl, rfl, rfl, rfl⟩
set_option maxRecDepth 100000 in
noncomputable def f_GWL_isFarFromAll (g : Nat) (p1 : Int32) (p2 : Int32) (p3 : Int32) : Option Int32 :=
  l_GWL_isFarFromAll_2 p1 p2 p3 g 0
set_option maxRecDepth 100000 in
set_option maxHeartbeats 4000000 in
theorem c_GWL_isFarFromAll {E : Env} (hE : OKE E) {tg : Bool} {d : Nat} (hd : 1 ≤ d) {g : Nat} {S : MS} {I : MI} {L : ML} {R : MR} {n : Nat} {p1 : Int32} {p2 : Int32} {p3 : Int32} {v : Int32} (h : f_GWL_isFarFromAll g p1 p2 p3 = some v) : C E y_GWL_isFarFromAll b_GWL_isFarFromAll 4 (some .boolean) tg d 0 0 [.int p1, .int p2, .int p3] S I L R n (Kq (some (.int v)) S I L R n) := by
  refine C.of (o := [some (.int p1), some (.int p2), some (.int p3), none]) (by decide) rfl (Nat.le_of_ble_eq_true rfl) ?_
  rw [f_GWL_isFarFromAll] at h
  refine X.iconst (pc := 0) (i := 0) (v := 0) ic_0 (by decide +kernel) ?_
  refine X.istore_3 (pc := 1) (by decide +kernel) (by decide) rfl ?_
  exact xl_GWL_isFarFromAll_2 hE hd h
set_option maxRecDepth 100000 in
noncomputable def l_GWL_codes_37 (g : Nat) (S : MS) (R : MR) (v0 : Nat) (v1 : Int32) (v2 : Int32) : Nat → MI → ML → Int32 → Int32 → Int32 → Option (Int32 × MI × ML)
  | 0, _, _, _, _, _ => none
  | f + 1, I, L, v3, v4, v5 =>
    ifb ((isl 1 v1) ≤ v5)
      (some (v4, I, L))
      (bnd1 (f_GWL_isFarFromAll g v5 v3 v2) fun x10 =>
      bnd4 (ifb (x10 = 0)
          (some (v3, v4, I, L))
          (lt (v3 ||| (isl 1 v5)) fun (x19 : Int32) =>
          ifb (16 < (v4 + 1))
            (some (x19, v4 + 1, I, L))
            (bnd1 (R v0 1) fun b21 =>
            asrt ((S b21).1 = 4) <|
            bnd2 (f_Numbers_add S R I L b21 (Int32.toInt64 v5)) fun I23 L24 =>
            some (x19, v4 + 1, I23, L24)))) fun (z13 : Int32) (z14 : Int32) (I15 : MI) (L16 : ML) =>
      l_GWL_codes_37 g S R v0 v1 v2 f I15 L16 z13 z14 (v5 + 1))
set_option maxRecDepth 100000 in
set_option maxHeartbeats 4000000 in
theorem xl_GWL_codes_37 {E : Env} (hE : OKE E) {tg : Bool} {d : Nat} (hd : 2 ≤ d) {g : Nat} {S : MS} {R : MR} {n : Nat} {v0 : Nat} {v1 : Int32} {v2 : Int32} {K : KT} :
    ∀ {f : Nat} {I : MI} {L : ML} {v3 : Int32} {v4 : Int32} {v5 : Int32} {o4 : Int32} {I' : MI} {L' : ML}, (S v0).1 = 11 → l_GWL_codes_37 g S R v0 v1 v2 f I L v3 v4 v5 = some (o4, I', L') → X E y_GWL_codes b_GWL_codes 6 (some .int) tg d 0 0 88 [none, none, none, none, some (.int o4), none] [] S I' L' R n K → X E y_GWL_codes b_GWL_codes 6 (some .int) tg d 0 0 37 [some (.ref (e_b E + v0)), some (.int v1), some (.int v2), some (.int v3), some (.int v4), some (.int v5)] [] S I L R n K := by
  intro f
  induction f with
  | zero =>
    intro I L v3 v4 v5 o4 I' L' hS h hk
    rw [l_GWL_codes_37] at h
    cases h
  | succ f ih =>
    intro I L v3 v4 v5 o4 I' L' hS h hk
    rw [l_GWL_codes_37] at h
    refine X.iload_5 (pc := 37) (by decide +kernel) ?_
    refine X.iconst (pc := 39) (i := 1) (v := 1) ic_1 (by decide +kernel) ?_
    refine X.iload_1 (pc := 40) (by decide +kernel) ?_
    refine X.ishl (pc := 41) (by decide +kernel) ?_
    rcases ifb_some h with ⟨hq9, h⟩ | ⟨hq9, h⟩
    · refine X.icmp_ge_t (pc := 42) (off := 46) (tgt := 88) hq9 rfl (by decide +kernel) ?_
      have j0 := Option.some.inj h
      obtain ⟨i0, j1⟩ := Prod.mk.inj j0
      obtain ⟨i1, j2⟩ := Prod.mk.inj j1
      subst i0
      subst i1
      subst j2
      refine X.fgt (o' := [none, none, none, none, some (.int v4), none]) ⟨rfl, trivial⟩ ?_
      exact hk
    · refine X.icmp_ge_f (pc := 42) (off := 46) (tgt := 88) hq9 rfl (by decide +kernel) ?_
      refine X.iload_5 (pc := 45) (by decide +kernel) ?_
      refine X.iload_3 (pc := 47) (by decide +kernel) ?_
      refine X.iload_2 (pc := 48) (by decide +kernel) ?_
      obtain ⟨x10, hv11, h⟩ := bnd1_some h
      refine X.callSi (pc := 49) (nc := 0) (ns := 0) (c_GWL_isFarFromAll hE (dle hd (Nat.le_of_ble_eq_true rfl)) hv11) cv_GWL_355 (by decide +kernel) (ddd hd (Nat.le_of_ble_eq_true rfl)) rfl (Nat.le_of_ble_eq_true rfl) rfl rfl ?_
      obtain ⟨z13, z14, I15, L16, hr17, h⟩ := bnd4_some h
      have hj18 : X E y_GWL_codes b_GWL_codes 6 (some .int) tg d 0 0 82 [some (.ref (e_b E + v0)), some (.int v1), some (.int v2), some (.int z13), some (.int z14), some (.int v5)] [] S I15 L16 R n K := by
        refine X.iinc_5 (pc := 82) (z := 1) (v := 1) ic_1 (by decide +kernel) (by decide) rfl ?_
        refine X.goto (pc := 85) (off := (-48)) (tgt := 37) (by decide +kernel) rfl ?_
        exact ih hS h hk
      have h := hr17
      rcases ifb_some h with ⟨hq12, h⟩ | ⟨hq12, h⟩
      · refine X.if_eq_t (pc := 52) (off := 30) (tgt := 82) hq12 rfl (by decide +kernel) ?_
        have j0 := Option.some.inj h
        obtain ⟨i0, j1⟩ := Prod.mk.inj j0
        obtain ⟨i1, j2⟩ := Prod.mk.inj j1
        obtain ⟨i2, j3⟩ := Prod.mk.inj j2
        subst i0
        subst i1
        subst i2
        subst j3
        exact hj18
      · refine X.if_eq_f (pc := 52) (off := 30) (tgt := 82) hq12 rfl (by decide +kernel) ?_
        refine X.iload_3 (pc := 55) (by decide +kernel) ?_
        refine X.iconst (pc := 56) (i := 1) (v := 1) ic_1 (by decide +kernel) ?_
        refine X.iload_5 (pc := 57) (by decide +kernel) ?_
        refine X.ishl (pc := 59) (by decide +kernel) ?_
        refine X.ior (pc := 60) (by decide +kernel) ?_
        refine X.nameI (fun x19 hx19 => ?_)
        have h := lt_at hx19 h
        refine X.istore_3 (pc := 61) (by decide +kernel) (by decide) rfl ?_
        refine X.iinc_4 (pc := 62) (z := 1) (v := 1) ic_1 (by decide +kernel) (by decide) rfl ?_
        refine X.iload_4 (pc := 65) (by decide +kernel) ?_
        refine X.bipush (pc := 67) (i := 16) (v := 16) bp_16 (by decide +kernel) ?_
        rcases ifb_some h with ⟨hq20, h⟩ | ⟨hq20, h⟩
        · refine X.icmp_gt_t (pc := 69) (off := 13) (tgt := 82) hq20 rfl (by decide +kernel) ?_
          have j0 := Option.some.inj h
          obtain ⟨i0, j1⟩ := Prod.mk.inj j0
          obtain ⟨i1, j2⟩ := Prod.mk.inj j1
          obtain ⟨i2, j3⟩ := Prod.mk.inj j2
          subst i0
          subst i1
          subst i2
          subst j3
          exact hj18
        · refine X.icmp_gt_f (pc := 69) (off := 13) (tgt := 82) hq20 rfl (by decide +kernel) ?_
          refine X.aload_0 (pc := 72) (by decide +kernel) ?_
          obtain ⟨b21, hb21, h⟩ := bnd1_some h
          refine X.getR (pc := 73) (k := 1) fw_GWL_19 (by decide +kernel) (fun _ => rfl) hS hb21 ?_
          refine X.iload_5 (pc := 76) (by decide +kernel) ?_
          refine X.i2l (pc := 78) (by decide +kernel) ?_
          obtain ⟨hc22, h⟩ := asrt_some h
          obtain ⟨I23, L24, hv25, h⟩ := bnd2_some h
          refine X.callVv (pc := 79) (nc := 0) (ns := 0) (c_Numbers_add hE (dle hd (Nat.le_of_ble_eq_true rfl)) hc22 hv25) cv_GWL_209 (by decide +kernel) hc22 ⟨by decide, rfl⟩ (ddd hd (Nat.le_of_ble_eq_true rfl)) rfl (Nat.le_of_ble_eq_true rfl) rfl rfl ?_
          have j0 := Option.some.inj h
          obtain ⟨i0, j1⟩ := Prod.mk.inj j0
          obtain ⟨i1, j2⟩ := Prod.mk.inj j1
          obtain ⟨i2, j3⟩ := Prod.mk.inj j2
          subst i0
          subst i1
          subst i2
          subst j3
          exact hj18
set_option maxRecDepth 100000 in
noncomputable def f_GWL_codes (g : Nat) (S : MS) (R : MR) (I : MI) (L : ML) (t : Nat) (p1 : Int32) (p2 : Int32) : Option (Int32 × MI × ML) :=
  ifb (p1 < 1)
    (some ((-1), I, L))
    (ifb (5 < p1)
      (some ((-1), I, L))
      (ifb (p2 < 1)
        (some ((-1), I, L))
        (ifb (p2 ≤ p1)
          (bnd1 (R t 1) fun b5 =>
          asrt ((S b5).1 = 4) <|
          bnd1 (f_Numbers_begin S I b5) fun I7 =>
          bnd3 (l_GWL_codes_37 g S R t p1 p2 g I7 L 0 0 0) fun x26 I27 L28 =>
          some (x26, I27, L28))
          (some ((-1), I, L)))))
set_option maxRecDepth 100000 in
set_option maxHeartbeats 4000000 in
theorem c_GWL_codes {E : Env} (hE : OKE E) {tg : Bool} {d : Nat} (hd : 2 ≤ d) {g : Nat} {S : MS} {I : MI} {L : ML} {R : MR} {n : Nat} {t : Nat} {p1 : Int32} {p2 : Int32} {v : Int32} {I' : MI} {L' : ML} (hS : (S t).1 = 11) (h : f_GWL_codes g S R I L t p1 p2 = some (v, I', L')) : C E y_GWL_codes b_GWL_codes 6 (some .int) tg d 0 0 [.ref (e_b E + t), .int p1, .int p2] S I L R n (Kq (some (.int v)) S I' L' R n) := by
  refine C.of (o := [some (.ref (e_b E + t)), some (.int p1), some (.int p2), none, none, none]) (by decide) rfl (Nat.le_of_ble_eq_true rfl) ?_
  rw [f_GWL_codes] at h
  refine X.iload_1 (pc := 0) (by decide +kernel) ?_
  refine X.iconst (pc := 1) (i := 1) (v := 1) ic_1 (by decide +kernel) ?_
  rcases ifb_some h with ⟨hq1, h⟩ | ⟨hq1, h⟩
  · refine X.icmp_lt_t (pc := 2) (off := 18) (tgt := 20) hq1 rfl (by decide +kernel) ?_
    refine X.iconst (pc := 20) (i := (-1)) (v := (-1)) ic_m1 (by decide +kernel) ?_
    have j0 := Option.some.inj h
    obtain ⟨i0, j1⟩ := Prod.mk.inj j0
    obtain ⟨i1, j2⟩ := Prod.mk.inj j1
    subst i0
    subst i1
    subst j2
    exact X.ireturn (pc := 21) (by decide +kernel) ⟨_, rfl, rfl⟩ ⟨rfl, rfl, rfl, rfl, rfl, rfl⟩
  · refine X.icmp_lt_f (pc := 2) (off := 18) (tgt := 20) hq1 rfl (by decide +kernel) ?_
    refine X.iload_1 (pc := 5) (by decide +kernel) ?_
    refine X.iconst (pc := 6) (i := 5) (v := 5) ic_5 (by decide +kernel) ?_
    rcases ifb_some h with ⟨hq2, h⟩ | ⟨hq2, h⟩
    · refine X.icmp_gt_t (pc := 7) (off := 13) (tgt := 20) hq2 rfl (by decide +kernel) ?_
      refine X.iconst (pc := 20) (i := (-1)) (v := (-1)) ic_m1 (by decide +kernel) ?_
      have j0 := Option.some.inj h
      obtain ⟨i0, j1⟩ := Prod.mk.inj j0
      obtain ⟨i1, j2⟩ := Prod.mk.inj j1
      subst i0
      subst i1
      subst j2
      exact X.ireturn (pc := 21) (by decide +kernel) ⟨_, rfl, rfl⟩ ⟨rfl, rfl, rfl, rfl, rfl, rfl⟩
    · refine X.icmp_gt_f (pc := 7) (off := 13) (tgt := 20) hq2 rfl (by decide +kernel) ?_
      refine X.iload_2 (pc := 10) (by decide +kernel) ?_
      refine X.iconst (pc := 11) (i := 1) (v := 1) ic_1 (by decide +kernel) ?_
      rcases ifb_some h with ⟨hq3, h⟩ | ⟨hq3, h⟩
      · refine X.icmp_lt_t (pc := 12) (off := 8) (tgt := 20) hq3 rfl (by decide +kernel) ?_
        refine X.iconst (pc := 20) (i := (-1)) (v := (-1)) ic_m1 (by decide +kernel) ?_
        have j0 := Option.some.inj h
        obtain ⟨i0, j1⟩ := Prod.mk.inj j0
        obtain ⟨i1, j2⟩ := Prod.mk.inj j1
        subst i0
        subst i1
        subst j2
        exact X.ireturn (pc := 21) (by decide +kernel) ⟨_, rfl, rfl⟩ ⟨rfl, rfl, rfl, rfl, rfl, rfl⟩
      · refine X.icmp_lt_f (pc := 12) (off := 8) (tgt := 20) hq3 rfl (by decide +kernel) ?_
        refine X.iload_2 (pc := 15) (by decide +kernel) ?_
        refine X.iload_1 (pc := 16) (by decide +kernel) ?_
        rcases ifb_some h with ⟨hq4, h⟩ | ⟨hq4, h⟩
        · refine X.icmp_le_t (pc := 17) (off := 5) (tgt := 22) hq4 rfl (by decide +kernel) ?_
          refine X.iconst (pc := 22) (i := 0) (v := 0) ic_0 (by decide +kernel) ?_
          refine X.istore_3 (pc := 23) (by decide +kernel) (by decide) rfl ?_
          refine X.iconst (pc := 24) (i := 0) (v := 0) ic_0 (by decide +kernel) ?_
          refine X.istore_4 (pc := 25) (by decide +kernel) (by decide) rfl ?_
          refine X.aload_0 (pc := 27) (by decide +kernel) ?_
          obtain ⟨b5, hb5, h⟩ := bnd1_some h
          refine X.getR (pc := 28) (k := 1) fw_GWL_19 (by decide +kernel) (fun _ => rfl) hS hb5 ?_
          obtain ⟨hc6, h⟩ := asrt_some h
          obtain ⟨I7, hv8, h⟩ := bnd1_some h
          refine X.callVv (pc := 31) (nc := 0) (ns := 0) (c_Numbers_begin hE (dle hd (Nat.le_of_ble_eq_true rfl)) hc6 hv8) cv_GWL_207 (by decide +kernel) hc6 ⟨by decide, rfl⟩ (ddd hd (Nat.le_of_ble_eq_true rfl)) rfl (Nat.le_of_ble_eq_true rfl) rfl rfl ?_
          refine X.iconst (pc := 34) (i := 0) (v := 0) ic_0 (by decide +kernel) ?_
          refine X.istore_5 (pc := 35) (by decide +kernel) (by decide) rfl ?_
          obtain ⟨x26, I27, L28, hv29, h⟩ := bnd3_some h
          refine xl_GWL_codes_37 hE hd hS hv29 ?_
          refine X.iload_4 (pc := 88) (by decide +kernel) ?_
          have j0 := Option.some.inj h
          obtain ⟨i0, j1⟩ := Prod.mk.inj j0
          obtain ⟨i1, j2⟩ := Prod.mk.inj j1
          subst i0
          subst i1
          subst j2
          exact X.ireturn (pc := 90) (by decide +kernel) ⟨_, rfl, rfl⟩ ⟨rfl, rfl, rfl, rfl, rfl, rfl⟩
        · refine X.icmp_le_f (pc := 17) (off := 5) (tgt := 22) hq4 rfl (by decide +kernel) ?_
          refine X.iconst (pc := 20) (i := (-1)) (v := (-1)) ic_m1 (by decide +kernel) ?_
          have j0 := Option.some.inj h
          obtain ⟨i0, j1⟩ := Prod.mk.inj j0
          obtain ⟨i1, j2⟩ := Prod.mk.inj j1
          subst i0
          subst i1
          subst j2
          exact X.ireturn (pc := 21) (by decide +kernel) ⟨_, rfl, rfl⟩ ⟨rfl, rfl, rfl, rfl, rfl, rfl⟩
set_option maxRecDepth 100000 in
noncomputable def l_GWL_meant_70 (v2 : Int32) (v3 : Int32) (v4 : Int32) (v5 : Int32) : Nat → Int32 → Int32 → Option Int32
  | 0, _, _ => none
  | f + 1, v7, v8 =>
    ifb (v5 ≤ v8)
      (some v7)
      (bnd1 (ifb (((v8 ^^^ v2) &&& (v3 ^^^ (-1))) = 0)
          (lt (v7 ||| (isl 1 v8)) fun (x19 : Int32) =>
          some x19)
          (some v7)) fun (z16 : Int32) =>
      l_GWL_meant_70 v2 v3 v4 v5 f z16 (v8 + 1))
set_option maxRecDepth 100000 in
set_option maxHeartbeats 4000000 in
theorem xl_GWL_meant_70 {E : Env} (hE : OKE E) {tg : Bool} {d : Nat} (hd : 0 ≤ d) {S : MS} {I : MI} {L : ML} {R : MR} {n : Nat} {v2 : Int32} {v3 : Int32} {v4 : Int32} {v5 : Int32} {K : KT} :
    ∀ {f : Nat}  {v7 : Int32} {v8 : Int32} {o7 : Int32}, l_GWL_meant_70 v2 v3 v4 v5 f v7 v8 = some o7 → X E y_GWL_meant b_GWL_meant 9 (some .int) tg d 0 0 103 [none, none, none, none, some (.int v4), none, none, some (.int o7), none] [] S I L R n K → X E y_GWL_meant b_GWL_meant 9 (some .int) tg d 0 0 70 [none, none, some (.int v2), some (.int v3), some (.int v4), some (.int v5), none, some (.int v7), some (.int v8)] [] S I L R n K := by
  intro f
  induction f with
  | zero =>
    intro v7 v8 o7 h hk
    rw [l_GWL_meant_70] at h
    cases h
  | succ f ih =>
    intro v7 v8 o7 h hk
    rw [l_GWL_meant_70] at h
    refine X.iload_8 (pc := 70) (by decide +kernel) ?_
    refine X.iload_5 (pc := 72) (by decide +kernel) ?_
    rcases ifb_some h with ⟨hq14, h⟩ | ⟨hq14, h⟩
    · refine X.icmp_ge_t (pc := 74) (off := 29) (tgt := 103) hq14 rfl (by decide +kernel) ?_
      have j0 := Option.some.inj h
      subst j0
      refine X.fgt (o' := [none, none, none, none, some (.int v4), none, none, some (.int v7), none]) ⟨rfl, ⟨rfl, trivial⟩⟩ ?_
      exact hk
    · refine X.icmp_ge_f (pc := 74) (off := 29) (tgt := 103) hq14 rfl (by decide +kernel) ?_
      refine X.iload_8 (pc := 77) (by decide +kernel) ?_
      refine X.iload_2 (pc := 79) (by decide +kernel) ?_
      refine X.ixor (pc := 80) (by decide +kernel) ?_
      refine X.iload_3 (pc := 81) (by decide +kernel) ?_
      refine X.iconst (pc := 82) (i := (-1)) (v := (-1)) ic_m1 (by decide +kernel) ?_
      refine X.ixor (pc := 83) (by decide +kernel) ?_
      refine X.iand (pc := 84) (by decide +kernel) ?_
      obtain ⟨z16, hr17, h⟩ := bnd1_some h
      have hj18 : X E y_GWL_meant b_GWL_meant 9 (some .int) tg d 0 0 97 [none, none, some (.int v2), some (.int v3), some (.int v4), some (.int v5), none, some (.int z16), some (.int v8)] [] S I L R n K := by
        refine X.iinc_8 (pc := 97) (z := 1) (v := 1) ic_1 (by decide +kernel) (by decide) rfl ?_
        refine X.goto (pc := 100) (off := (-30)) (tgt := 70) (by decide +kernel) rfl ?_
        exact ih h hk
      have h := hr17
      rcases ifb_some h with ⟨hq15, h⟩ | ⟨hq15, h⟩
      · refine X.if_ne_f (pc := 85) (off := 12) (tgt := 97) hq15 rfl (by decide +kernel) ?_
        refine X.iload_7 (pc := 88) (by decide +kernel) ?_
        refine X.iconst (pc := 90) (i := 1) (v := 1) ic_1 (by decide +kernel) ?_
        refine X.iload_8 (pc := 91) (by decide +kernel) ?_
        refine X.ishl (pc := 93) (by decide +kernel) ?_
        refine X.ior (pc := 94) (by decide +kernel) ?_
        refine X.nameI (fun x19 hx19 => ?_)
        have h := lt_at hx19 h
        refine X.istore_7 (pc := 95) (by decide +kernel) (by decide) rfl ?_
        have j0 := Option.some.inj h
        subst j0
        exact hj18
      · refine X.if_ne_t (pc := 85) (off := 12) (tgt := 97) hq15 rfl (by decide +kernel) ?_
        have j0 := Option.some.inj h
        subst j0
        exact hj18
set_option maxRecDepth 100000 in
noncomputable def f_GWL_meant (g : Nat) (t : Nat) (p1 : Int32) (p2 : Int32) (p3 : Int32) (p4 : Int32) : Option Int32 :=
  ifb (p1 < 1)
    (some (-1))
    (ifb (p1 ≤ 5)
      (lt (isl 1 p1) fun (x3 : Int32) =>
      bnd1 (ifb (5 ≤ p1)
          (some 0)
          (ifb ((ius p4 x3) = 0)
            (some 0)
            (some 1))) fun (y5 : Int32) =>
      ifb (p2 < 0)
        (some (-1))
        (ifb (x3 ≤ p2)
          (some (-1))
          (ifb (p3 < 0)
            (some (-1))
            (ifb (x3 ≤ p3)
              (some (-1))
              (ifb (y5 = 0)
                (bnd1 (l_GWL_meant_70 p2 p3 p4 x3 g 0 0) fun x20 =>
                lt (x20 &&& p4) fun (x22 : Int32) =>
                some x22)
                (some (-1)))))))
      (some (-1)))
set_option maxRecDepth 100000 in
set_option maxHeartbeats 4000000 in
theorem c_GWL_meant {E : Env} (hE : OKE E) {tg : Bool} {d : Nat} (hd : 0 ≤ d) {g : Nat} {S : MS} {I : MI} {L : ML} {R : MR} {n : Nat} {t : Nat} {p1 : Int32} {p2 : Int32} {p3 : Int32} {p4 : Int32} {v : Int32} (hS : (S t).1 = 11) (h : f_GWL_meant g t p1 p2 p3 p4 = some v) : C E y_GWL_meant b_GWL_meant 9 (some .int) tg d 0 0 [.ref (e_b E + t), .int p1, .int p2, .int p3, .int p4] S I L R n (Kq (some (.int v)) S I L R n) := by
  refine C.of (o := [some (.ref (e_b E + t)), some (.int p1), some (.int p2), some (.int p3), some (.int p4), none, none, none, none]) (by decide) rfl (Nat.le_of_ble_eq_true rfl) ?_
  rw [f_GWL_meant] at h
  refine X.iload_1 (pc := 0) (by decide +kernel) ?_
  refine X.iconst (pc := 1) (i := 1) (v := 1) ic_1 (by decide +kernel) ?_
  rcases ifb_some h with ⟨hq1, h⟩ | ⟨hq1, h⟩
  · refine X.icmp_lt_t (pc := 2) (off := 8) (tgt := 10) hq1 rfl (by decide +kernel) ?_
    refine X.iconst (pc := 10) (i := (-1)) (v := (-1)) ic_m1 (by decide +kernel) ?_
    have j0 := Option.some.inj h
    subst j0
    exact X.ireturn (pc := 11) (by decide +kernel) ⟨_, rfl, rfl⟩ ⟨rfl, rfl, rfl, rfl, rfl, rfl⟩
  · refine X.icmp_lt_f (pc := 2) (off := 8) (tgt := 10) hq1 rfl (by decide +kernel) ?_
    refine X.iload_1 (pc := 5) (by decide +kernel) ?_
    refine X.iconst (pc := 6) (i := 5) (v := 5) ic_5 (by decide +kernel) ?_
    rcases ifb_some h with ⟨hq2, h⟩ | ⟨hq2, h⟩
    · refine X.icmp_le_t (pc := 7) (off := 5) (tgt := 12) hq2 rfl (by decide +kernel) ?_
      refine X.iconst (pc := 12) (i := 1) (v := 1) ic_1 (by decide +kernel) ?_
      refine X.iload_1 (pc := 13) (by decide +kernel) ?_
      refine X.ishl (pc := 14) (by decide +kernel) ?_
      refine X.nameI (fun x3 hx3 => ?_)
      have h := lt_at hx3 h
      refine X.istore_5 (pc := 15) (by decide +kernel) (by decide) rfl ?_
      refine X.iload_1 (pc := 17) (by decide +kernel) ?_
      refine X.iconst (pc := 18) (i := 5) (v := 5) ic_5 (by decide +kernel) ?_
      obtain ⟨y5, hr6, h⟩ := bnd1_some h
      have hj7 : X E y_GWL_meant b_GWL_meant 9 (some .int) tg d 0 0 35 [none, none, some (.int p2), some (.int p3), some (.int p4), some (.int x3), none, none, none] [.int y5] S I L R n (Kq (some (.int v)) S I L R n) := by
        refine X.istore_6 (pc := 35) (by decide +kernel) (by decide) rfl ?_
        refine X.iload_2 (pc := 37) (by decide +kernel) ?_
        rcases ifb_some h with ⟨hq9, h⟩ | ⟨hq9, h⟩
        · refine X.if_lt_t (pc := 38) (off := 24) (tgt := 62) hq9 rfl (by decide +kernel) ?_
          refine X.iconst (pc := 62) (i := (-1)) (v := (-1)) ic_m1 (by decide +kernel) ?_
          have j0 := Option.some.inj h
          subst j0
          exact X.ireturn (pc := 63) (by decide +kernel) ⟨_, rfl, rfl⟩ ⟨rfl, rfl, rfl, rfl, rfl, rfl⟩
        · refine X.if_lt_f (pc := 38) (off := 24) (tgt := 62) hq9 rfl (by decide +kernel) ?_
          refine X.iload_2 (pc := 41) (by decide +kernel) ?_
          refine X.iload_5 (pc := 42) (by decide +kernel) ?_
          rcases ifb_some h with ⟨hq10, h⟩ | ⟨hq10, h⟩
          · refine X.icmp_ge_t (pc := 44) (off := 18) (tgt := 62) hq10 rfl (by decide +kernel) ?_
            refine X.iconst (pc := 62) (i := (-1)) (v := (-1)) ic_m1 (by decide +kernel) ?_
            have j0 := Option.some.inj h
            subst j0
            exact X.ireturn (pc := 63) (by decide +kernel) ⟨_, rfl, rfl⟩ ⟨rfl, rfl, rfl, rfl, rfl, rfl⟩
          · refine X.icmp_ge_f (pc := 44) (off := 18) (tgt := 62) hq10 rfl (by decide +kernel) ?_
            refine X.iload_3 (pc := 47) (by decide +kernel) ?_
            rcases ifb_some h with ⟨hq11, h⟩ | ⟨hq11, h⟩
            · refine X.if_lt_t (pc := 48) (off := 14) (tgt := 62) hq11 rfl (by decide +kernel) ?_
              refine X.iconst (pc := 62) (i := (-1)) (v := (-1)) ic_m1 (by decide +kernel) ?_
              have j0 := Option.some.inj h
              subst j0
              exact X.ireturn (pc := 63) (by decide +kernel) ⟨_, rfl, rfl⟩ ⟨rfl, rfl, rfl, rfl, rfl, rfl⟩
            · refine X.if_lt_f (pc := 48) (off := 14) (tgt := 62) hq11 rfl (by decide +kernel) ?_
              refine X.iload_3 (pc := 51) (by decide +kernel) ?_
              refine X.iload_5 (pc := 52) (by decide +kernel) ?_
              rcases ifb_some h with ⟨hq12, h⟩ | ⟨hq12, h⟩
              · refine X.icmp_ge_t (pc := 54) (off := 8) (tgt := 62) hq12 rfl (by decide +kernel) ?_
                refine X.iconst (pc := 62) (i := (-1)) (v := (-1)) ic_m1 (by decide +kernel) ?_
                have j0 := Option.some.inj h
                subst j0
                exact X.ireturn (pc := 63) (by decide +kernel) ⟨_, rfl, rfl⟩ ⟨rfl, rfl, rfl, rfl, rfl, rfl⟩
              · refine X.icmp_ge_f (pc := 54) (off := 8) (tgt := 62) hq12 rfl (by decide +kernel) ?_
                refine X.iload_6 (pc := 57) (by decide +kernel) ?_
                rcases ifb_some h with ⟨hq13, h⟩ | ⟨hq13, h⟩
                · refine X.if_eq_t (pc := 59) (off := 5) (tgt := 64) hq13 rfl (by decide +kernel) ?_
                  refine X.iconst (pc := 64) (i := 0) (v := 0) ic_0 (by decide +kernel) ?_
                  refine X.istore_7 (pc := 65) (by decide +kernel) (by decide) rfl ?_
                  refine X.iconst (pc := 67) (i := 0) (v := 0) ic_0 (by decide +kernel) ?_
                  refine X.istore_8 (pc := 68) (by decide +kernel) (by decide) rfl ?_
                  obtain ⟨x20, hv21, h⟩ := bnd1_some h
                  refine X.fgt (o' := [none, none, some (.int p2), some (.int p3), some (.int p4), some (.int x3), none, some (.int 0), some (.int 0)]) ⟨rfl, ⟨rfl, ⟨rfl, ⟨rfl, ⟨rfl, ⟨rfl, trivial⟩⟩⟩⟩⟩⟩ ?_
                  refine xl_GWL_meant_70 hE hd hv21 ?_
                  refine X.iload_7 (pc := 103) (by decide +kernel) ?_
                  refine X.iload_4 (pc := 105) (by decide +kernel) ?_
                  refine X.iand (pc := 107) (by decide +kernel) ?_
                  refine X.nameI (fun x22 hx22 => ?_)
                  have h := lt_at hx22 h
                  have j0 := Option.some.inj h
                  subst j0
                  exact X.ireturn (pc := 108) (by decide +kernel) ⟨_, rfl, rfl⟩ ⟨rfl, rfl, rfl, rfl, rfl, rfl⟩
                · refine X.if_eq_f (pc := 59) (off := 5) (tgt := 64) hq13 rfl (by decide +kernel) ?_
                  refine X.iconst (pc := 62) (i := (-1)) (v := (-1)) ic_m1 (by decide +kernel) ?_
                  have j0 := Option.some.inj h
                  subst j0
                  exact X.ireturn (pc := 63) (by decide +kernel) ⟨_, rfl, rfl⟩ ⟨rfl, rfl, rfl, rfl, rfl, rfl⟩
      have h := hr6
      rcases ifb_some h with ⟨hq4, h⟩ | ⟨hq4, h⟩
      · refine X.icmp_ge_t (pc := 19) (off := 15) (tgt := 34) hq4 rfl (by decide +kernel) ?_
        refine X.iconst (pc := 34) (i := 0) (v := 0) ic_0 (by decide +kernel) ?_
        have j0 := Option.some.inj h
        subst j0
        refine X.fgt (o' := [none, none, some (.int p2), some (.int p3), some (.int p4), some (.int x3), none, none, none]) ⟨rfl, ⟨rfl, ⟨rfl, ⟨rfl, trivial⟩⟩⟩⟩ ?_
        exact hj7
      · refine X.icmp_ge_f (pc := 19) (off := 15) (tgt := 34) hq4 rfl (by decide +kernel) ?_
        refine X.iload_4 (pc := 22) (by decide +kernel) ?_
        refine X.iload_5 (pc := 24) (by decide +kernel) ?_
        refine X.iushr (pc := 26) (by decide +kernel) ?_
        rcases ifb_some h with ⟨hq8, h⟩ | ⟨hq8, h⟩
        · refine X.if_eq_t (pc := 27) (off := 7) (tgt := 34) hq8 rfl (by decide +kernel) ?_
          refine X.iconst (pc := 34) (i := 0) (v := 0) ic_0 (by decide +kernel) ?_
          have j0 := Option.some.inj h
          subst j0
          refine X.fgt (o' := [none, none, some (.int p2), some (.int p3), some (.int p4), some (.int x3), none, none, none]) ⟨rfl, ⟨rfl, ⟨rfl, ⟨rfl, trivial⟩⟩⟩⟩ ?_
          exact hj7
        · refine X.if_eq_f (pc := 27) (off := 7) (tgt := 34) hq8 rfl (by decide +kernel) ?_
          refine X.iconst (pc := 30) (i := 1) (v := 1) ic_1 (by decide +kernel) ?_
          refine X.goto (pc := 31) (off := 4) (tgt := 35) (by decide +kernel) rfl ?_
          have j0 := Option.some.inj h
          subst j0
          refine X.fgt (o' := [none, none, some (.int p2), some (.int p3), some (.int p4), some (.int x3), none, none, none]) ⟨rfl, ⟨rfl, ⟨rfl, ⟨rfl, trivial⟩⟩⟩⟩ ?_
          exact hj7
    · refine X.icmp_le_f (pc := 7) (off := 5) (tgt := 12) hq2 rfl (by decide +kernel) ?_
      refine X.iconst (pc := 10) (i := (-1)) (v := (-1)) ic_m1 (by decide +kernel) ?_
      have j0 := Option.some.inj h
      subst j0
      exact X.ireturn (pc := 11) (by decide +kernel) ⟨_, rfl, rfl⟩ ⟨rfl, rfl, rfl, rfl, rfl, rfl⟩
set_option maxRecDepth 100000 in
noncomputable def f_Prints_cellAt (S : MS) (R : MR) (I : MI) (t : Nat) (p1 : Int32) : Option Int32 :=
  bnd1 (ifb (p1 < 0)
      (some (-1))
      (ifb ((I t 6) ≤ p1)
        (some (-1))
        (ifb (12 ≤ p1)
          (some (-1))
          (bnd1 (R t 2) fun b7 =>
          asrt ((S b7).1 = 20) <|
          asrt (vp_in p1 (S b7).2) <|
          some (I b7 (Int32.toNatClampNeg p1)))))) fun (y2 : Int32) =>
  some y2
set_option maxRecDepth 100000 in
set_option maxHeartbeats 4000000 in
theorem c_Prints_cellAt {E : Env} (hE : OKE E) {tg : Bool} {d : Nat} (hd : 0 ≤ d) {S : MS} {I : MI} {L : ML} {R : MR} {n : Nat} {t : Nat} {p1 : Int32} {v : Int32} (hS : (S t).1 = 7) (h : f_Prints_cellAt S R I t p1 = some v) : C E y_Prints_cellAt b_Prints_cellAt 2 (some .int) tg d 0 0 [.ref (e_b E + t), .int p1] S I L R n (Kq (some (.int v)) S I L R n) := by
  refine C.of (o := [some (.ref (e_b E + t)), some (.int p1)]) (by decide) rfl (Nat.le_of_ble_eq_true rfl) ?_
  rw [f_Prints_cellAt] at h
  refine X.iload_1 (pc := 0) (by decide +kernel) ?_
  obtain ⟨y2, hr3, h⟩ := bnd1_some h
  have hj4 : X E y_Prints_cellAt b_Prints_cellAt 2 (some .int) tg d 0 0 28 [none, none] [.int y2] S I L R n (Kq (some (.int v)) S I L R n) := by
    have j0 := Option.some.inj h
    subst j0
    exact X.ireturn (pc := 28) (by decide +kernel) ⟨_, rfl, rfl⟩ ⟨rfl, rfl, rfl, rfl, rfl, rfl⟩
  have h := hr3
  rcases ifb_some h with ⟨hq1, h⟩ | ⟨hq1, h⟩
  · refine X.if_lt_t (pc := 1) (off := 26) (tgt := 27) hq1 rfl (by decide +kernel) ?_
    refine X.iconst (pc := 27) (i := (-1)) (v := (-1)) ic_m1 (by decide +kernel) ?_
    have j0 := Option.some.inj h
    subst j0
    refine X.fgt (o' := [none, none]) trivial ?_
    exact hj4
  · refine X.if_lt_f (pc := 1) (off := 26) (tgt := 27) hq1 rfl (by decide +kernel) ?_
    refine X.iload_1 (pc := 4) (by decide +kernel) ?_
    refine X.aload_0 (pc := 5) (by decide +kernel) ?_
    refine X.getI (pc := 6) (k := 6) fw_Prints_29 (by decide +kernel) (fun _ => rfl) hS ?_
    rcases ifb_some h with ⟨hq5, h⟩ | ⟨hq5, h⟩
    · refine X.icmp_ge_t (pc := 9) (off := 18) (tgt := 27) hq5 rfl (by decide +kernel) ?_
      refine X.iconst (pc := 27) (i := (-1)) (v := (-1)) ic_m1 (by decide +kernel) ?_
      have j0 := Option.some.inj h
      subst j0
      refine X.fgt (o' := [none, none]) trivial ?_
      exact hj4
    · refine X.icmp_ge_f (pc := 9) (off := 18) (tgt := 27) hq5 rfl (by decide +kernel) ?_
      refine X.iload_1 (pc := 12) (by decide +kernel) ?_
      refine X.bipush (pc := 13) (i := 12) (v := 12) bp_12 (by decide +kernel) ?_
      rcases ifb_some h with ⟨hq6, h⟩ | ⟨hq6, h⟩
      · refine X.icmp_ge_t (pc := 15) (off := 12) (tgt := 27) hq6 rfl (by decide +kernel) ?_
        refine X.iconst (pc := 27) (i := (-1)) (v := (-1)) ic_m1 (by decide +kernel) ?_
        have j0 := Option.some.inj h
        subst j0
        refine X.fgt (o' := [none, none]) trivial ?_
        exact hj4
      · refine X.icmp_ge_f (pc := 15) (off := 12) (tgt := 27) hq6 rfl (by decide +kernel) ?_
        refine X.aload_0 (pc := 18) (by decide +kernel) ?_
        obtain ⟨b7, hb7, h⟩ := bnd1_some h
        refine X.getR (pc := 19) (k := 2) fw_Prints_9 (by decide +kernel) (fun _ => rfl) hS hb7 ?_
        refine X.iload_1 (pc := 22) (by decide +kernel) ?_
        obtain ⟨hc9, h⟩ := asrt_some h
        obtain ⟨hi8, h⟩ := asrt_some h
        refine X.iaload (pc := 23) (by decide +kernel) hc9 hi8 ?_
        refine X.goto (pc := 24) (off := 4) (tgt := 28) (by decide +kernel) rfl ?_
        have j0 := Option.some.inj h
        subst j0
        refine X.fgt (o' := [none, none]) trivial ?_
        exact hj4
set_option maxRecDepth 100000 in
noncomputable def f_Prints_isStepOn (S : MS) (R : MR) (I : MI) (t : Nat) (p1 : Int32) (p2 : Int32) : Option Int32 :=
  bnd1 (R t 0) fun b1 =>
  asrt ((S b1).1 = 2) <|
  lt (I b1 0) fun (x3 : Int32) =>
  ifb (1 ≤ x3)
    (asrt (¬ x3 = 0) <|
    asrt (¬ x3 = 0) <|
    lt ((irm p1 x3) - (irm p2 x3)) fun (x7 : Int32) =>
    asrt (¬ x3 = 0) <|
    asrt (¬ x3 = 0) <|
    lt ((p1 / x3) - (p2 / x3)) fun (x10 : Int32) =>
    bnd1 (ifb (1 < ((x7 * x7) + (x10 * x10)))
        (some 0)
        (some 1)) fun (y12 : Int32) =>
    asrt (y12 = 0 ∨ y12 = 1) <|
    some y12)
    (some 0)
set_option maxRecDepth 100000 in
set_option maxHeartbeats 4000000 in
theorem c_Prints_isStepOn {E : Env} (hE : OKE E) {tg : Bool} {d : Nat} (hd : 0 ≤ d) {S : MS} {I : MI} {L : ML} {R : MR} {n : Nat} {t : Nat} {p1 : Int32} {p2 : Int32} {v : Int32} (hS : (S t).1 = 7) (h : f_Prints_isStepOn S R I t p1 p2 = some v) : C E y_Prints_isStepOn b_Prints_isStepOn 6 (some .boolean) tg d 0 0 [.ref (e_b E + t), .int p1, .int p2] S I L R n (Kq (some (.int v)) S I L R n) := by
  refine C.of (o := [some (.ref (e_b E + t)), some (.int p1), some (.int p2), none, none, none]) (by decide) rfl (Nat.le_of_ble_eq_true rfl) ?_
  rw [f_Prints_isStepOn] at h
  refine X.aload_0 (pc := 0) (by decide +kernel) ?_
  obtain ⟨b1, hb1, h⟩ := bnd1_some h
  refine X.getR (pc := 1) (k := 0) fw_Prints_22 (by decide +kernel) (fun _ => rfl) hS hb1 ?_
  obtain ⟨hc2, h⟩ := asrt_some h
  refine X.getI (pc := 4) (k := 0) fw_Prints_50 (by decide +kernel) (fun _ => rfl) hc2 ?_
  refine X.nameI (fun x3 hx3 => ?_)
  have h := lt_at hx3 h
  refine X.istore_3 (pc := 7) (by decide +kernel) (by decide) rfl ?_
  refine X.iload_3 (pc := 8) (by decide +kernel) ?_
  refine X.iconst (pc := 9) (i := 1) (v := 1) ic_1 (by decide +kernel) ?_
  rcases ifb_some h with ⟨hq4, h⟩ | ⟨hq4, h⟩
  · refine X.icmp_ge_t (pc := 10) (off := 5) (tgt := 15) hq4 rfl (by decide +kernel) ?_
    refine X.iload_1 (pc := 15) (by decide +kernel) ?_
    refine X.iload_3 (pc := 16) (by decide +kernel) ?_
    obtain ⟨hz5, h⟩ := asrt_some h
    refine X.irem (pc := 17) hz5 (by decide +kernel) ?_
    refine X.iload_2 (pc := 18) (by decide +kernel) ?_
    refine X.iload_3 (pc := 19) (by decide +kernel) ?_
    obtain ⟨hz6, h⟩ := asrt_some h
    refine X.irem (pc := 20) hz6 (by decide +kernel) ?_
    refine X.isub (pc := 21) (by decide +kernel) ?_
    refine X.nameI (fun x7 hx7 => ?_)
    have h := lt_at hx7 h
    refine X.istore_4 (pc := 22) (by decide +kernel) (by decide) rfl ?_
    refine X.iload_1 (pc := 24) (by decide +kernel) ?_
    refine X.iload_3 (pc := 25) (by decide +kernel) ?_
    obtain ⟨hz8, h⟩ := asrt_some h
    refine X.idiv (pc := 26) hz8 (by decide +kernel) ?_
    refine X.iload_2 (pc := 27) (by decide +kernel) ?_
    refine X.iload_3 (pc := 28) (by decide +kernel) ?_
    obtain ⟨hz9, h⟩ := asrt_some h
    refine X.idiv (pc := 29) hz9 (by decide +kernel) ?_
    refine X.isub (pc := 30) (by decide +kernel) ?_
    refine X.nameI (fun x10 hx10 => ?_)
    have h := lt_at hx10 h
    refine X.istore_5 (pc := 31) (by decide +kernel) (by decide) rfl ?_
    refine X.iload_4 (pc := 33) (by decide +kernel) ?_
    refine X.iload_4 (pc := 35) (by decide +kernel) ?_
    refine X.imul (pc := 37) (by decide +kernel) ?_
    refine X.iload_5 (pc := 38) (by decide +kernel) ?_
    refine X.iload_5 (pc := 40) (by decide +kernel) ?_
    refine X.imul (pc := 42) (by decide +kernel) ?_
    refine X.iadd (pc := 43) (by decide +kernel) ?_
    refine X.iconst (pc := 44) (i := 1) (v := 1) ic_1 (by decide +kernel) ?_
    obtain ⟨y12, hr13, h⟩ := bnd1_some h
    have hj14 : X E y_Prints_isStepOn b_Prints_isStepOn 6 (some .boolean) tg d 0 0 53 [none, none, none, none, none, none] [.int y12] S I L R n (Kq (some (.int v)) S I L R n) := by
      obtain ⟨hb15, h⟩ := asrt_some h
      have j0 := Option.some.inj h
      subst j0
      exact X.ireturn (pc := 53) (by decide +kernel) ⟨_, rfl, nz01 hb15⟩ ⟨rfl, rfl, rfl, rfl, rfl, rfl⟩
    have h := hr13
    rcases ifb_some h with ⟨hq11, h⟩ | ⟨hq11, h⟩
    · refine X.icmp_gt_t (pc := 45) (off := 7) (tgt := 52) hq11 rfl (by decide +kernel) ?_
      refine X.iconst (pc := 52) (i := 0) (v := 0) ic_0 (by decide +kernel) ?_
      have j0 := Option.some.inj h
      subst j0
      refine X.fgt (o' := [none, none, none, none, none, none]) trivial ?_
      exact hj14
    · refine X.icmp_gt_f (pc := 45) (off := 7) (tgt := 52) hq11 rfl (by decide +kernel) ?_
      refine X.iconst (pc := 48) (i := 1) (v := 1) ic_1 (by decide +kernel) ?_
      refine X.goto (pc := 49) (off := 4) (tgt := 53) (by decide +kernel) rfl ?_
      have j0 := Option.some.inj h
      subst j0
      refine X.fgt (o' := [none, none, none, none, none, none]) trivial ?_
      exact hj14
  · refine X.icmp_ge_f (pc := 10) (off := 5) (tgt := 15) hq4 rfl (by decide +kernel) ?_
    refine X.iconst (pc := 13) (i := 0) (v := 0) ic_0 (by decide +kernel) ?_
    have j0 := Option.some.inj h
    subst j0
    exact X.ireturn (pc := 14) (by decide +kernel) ⟨_, rfl, nz01 (Or.inl rfl)⟩ ⟨rfl, rfl, rfl, rfl, rfl, rfl⟩
set_option maxRecDepth 100000 in
noncomputable def f_Prints_tell (S : MS) (R : MR) (I : MI) (t : Nat) (p1 : Int32) (p2 : Int32) : Option (Int32 × MI) :=
  bnd1 (ifb ((I t 6) = 0)
      (ifb (p2 < 0)
        (some 0)
        (ifb (4 ≤ p2)
          (some 0)
          (some 1)))
      (bnd1 (f_Prints_cellAt S R I t ((I t 6) - 1)) fun x7 =>
      bnd1 (f_Prints_isStepOn S R I t x7 p1) fun x9 =>
      some x9)) fun (y2 : Int32) =>
  bnd1 (R t 0) fun b11 =>
  asrt ((S b11).1 = 2) <|
  bnd1 (f_Land_has S I b11 p1) fun x13 =>
  ifb (x13 = 0)
    (some (0, I))
    (ifb (y2 = 0)
      (some (0, I))
      (ifb ((I t 6) < 12)
        (bnd1 (ifb ((I t 6) = 0)
            (some p2)
            (some (I t 5))) fun (y19 : Int32) =>
        lt (wI I t 5 y19) fun (I22 : MI) =>
        bnd1 (R t 2) fun b23 =>
        asrt ((S b23).1 = 20) <|
        asrt (vp_in (I22 t 6) (S b23).2) <|
        lt (wI I22 b23 (Int32.toNatClampNeg (I22 t 6)) p1) fun (I26 : MI) =>
        lt ((I26 t 6) + 1) fun (x27 : Int32) =>
        lt (wI I26 t 6 x27) fun (I28 : MI) =>
        some (1, I28))
        (some (0, I))))
set_option maxRecDepth 100000 in
set_option maxHeartbeats 4000000 in
theorem c_Prints_tell {E : Env} (hE : OKE E) {tg : Bool} {d : Nat} (hd : 1 ≤ d) {S : MS} {I : MI} {L : ML} {R : MR} {n : Nat} {t : Nat} {p1 : Int32} {p2 : Int32} {v : Int32} {I' : MI} (hS : (S t).1 = 7) (h : f_Prints_tell S R I t p1 p2 = some (v, I')) : C E y_Prints_tell b_Prints_tell 4 (some .boolean) tg d 0 0 [.ref (e_b E + t), .int p1, .int p2] S I L R n (Kq (some (.int v)) S I' L R n) := by
  refine C.of (o := [some (.ref (e_b E + t)), some (.int p1), some (.int p2), none]) (by decide) rfl (Nat.le_of_ble_eq_true rfl) ?_
  rw [f_Prints_tell] at h
  refine X.aload_0 (pc := 0) (by decide +kernel) ?_
  refine X.getI (pc := 1) (k := 6) fw_Prints_29 (by decide +kernel) (fun _ => rfl) hS ?_
  obtain ⟨y2, hr3, h⟩ := bnd1_some h
  have hj4 : X E y_Prints_tell b_Prints_tell 4 (some .boolean) tg d 0 0 39 [some (.ref (e_b E + t)), some (.int p1), some (.int p2), none] [.int y2] S I L R n (Kq (some (.int v)) S I' L R n) := by
    refine X.istore_3 (pc := 39) (by decide +kernel) (by decide) rfl ?_
    refine X.aload_0 (pc := 40) (by decide +kernel) ?_
    obtain ⟨b11, hb11, h⟩ := bnd1_some h
    refine X.getR (pc := 41) (k := 0) fw_Prints_22 (by decide +kernel) (fun _ => rfl) hS hb11 ?_
    refine X.iload_1 (pc := 44) (by decide +kernel) ?_
    obtain ⟨hc12, h⟩ := asrt_some h
    obtain ⟨x13, hv14, h⟩ := bnd1_some h
    refine X.callVi (pc := 45) (nc := 0) (ns := 0) (c_Land_has hE (dle hd (Nat.le_of_ble_eq_true rfl)) hc12 hv14) cv_Prints_41 (by decide +kernel) hc12 ⟨by decide, rfl⟩ (ddd hd (Nat.le_of_ble_eq_true rfl)) rfl (Nat.le_of_ble_eq_true rfl) rfl rfl ?_
    rcases ifb_some h with ⟨hq15, h⟩ | ⟨hq15, h⟩
    · refine X.if_eq_t (pc := 48) (off := 16) (tgt := 64) hq15 rfl (by decide +kernel) ?_
      refine X.iconst (pc := 64) (i := 0) (v := 0) ic_0 (by decide +kernel) ?_
      have j0 := Option.some.inj h
      obtain ⟨i0, j1⟩ := Prod.mk.inj j0
      subst i0
      subst j1
      exact X.ireturn (pc := 65) (by decide +kernel) ⟨_, rfl, nz01 (Or.inl rfl)⟩ ⟨rfl, rfl, rfl, rfl, rfl, rfl⟩
    · refine X.if_eq_f (pc := 48) (off := 16) (tgt := 64) hq15 rfl (by decide +kernel) ?_
      refine X.iload_3 (pc := 51) (by decide +kernel) ?_
      rcases ifb_some h with ⟨hq16, h⟩ | ⟨hq16, h⟩
      · refine X.if_eq_t (pc := 52) (off := 12) (tgt := 64) hq16 rfl (by decide +kernel) ?_
        refine X.iconst (pc := 64) (i := 0) (v := 0) ic_0 (by decide +kernel) ?_
        have j0 := Option.some.inj h
        obtain ⟨i0, j1⟩ := Prod.mk.inj j0
        subst i0
        subst j1
        exact X.ireturn (pc := 65) (by decide +kernel) ⟨_, rfl, nz01 (Or.inl rfl)⟩ ⟨rfl, rfl, rfl, rfl, rfl, rfl⟩
      · refine X.if_eq_f (pc := 52) (off := 12) (tgt := 64) hq16 rfl (by decide +kernel) ?_
        refine X.aload_0 (pc := 55) (by decide +kernel) ?_
        refine X.getI (pc := 56) (k := 6) fw_Prints_29 (by decide +kernel) (fun _ => rfl) hS ?_
        refine X.bipush (pc := 59) (i := 12) (v := 12) bp_12 (by decide +kernel) ?_
        rcases ifb_some h with ⟨hq17, h⟩ | ⟨hq17, h⟩
        · refine X.icmp_lt_t (pc := 61) (off := 5) (tgt := 66) hq17 rfl (by decide +kernel) ?_
          refine X.aload_0 (pc := 66) (by decide +kernel) ?_
          refine X.aload_0 (pc := 67) (by decide +kernel) ?_
          refine X.getI (pc := 68) (k := 6) fw_Prints_29 (by decide +kernel) (fun _ => rfl) hS ?_
          obtain ⟨y19, hr20, h⟩ := bnd1_some h
          have hj21 : X E y_Prints_tell b_Prints_tell 4 (some .boolean) tg d 0 0 82 [some (.ref (e_b E + t)), some (.int p1), none, none] [.int y19, .ref (e_b E + t)] S I L R n (Kq (some (.int v)) S I' L R n) := by
            refine X.putI (pc := 82) (k := 5) fw_Prints_47 (by decide +kernel) rfl rfl hS ?_
            refine X.nameMI (fun I22 hI22 => ?_)
            have h := lt_at hI22 h
            refine X.aload_0 (pc := 85) (by decide +kernel) ?_
            obtain ⟨b23, hb23, h⟩ := bnd1_some h
            refine X.getR (pc := 86) (k := 2) fw_Prints_9 (by decide +kernel) (fun _ => rfl) hS hb23 ?_
            refine X.aload_0 (pc := 89) (by decide +kernel) ?_
            refine X.getI (pc := 90) (k := 6) fw_Prints_29 (by decide +kernel) (fun _ => rfl) hS ?_
            refine X.iload_1 (pc := 93) (by decide +kernel) ?_
            obtain ⟨hc24, h⟩ := asrt_some h
            obtain ⟨hi25, h⟩ := asrt_some h
            refine X.iastore (pc := 94) (by decide +kernel) hc24 hi25 ?_
            refine X.nameMI (fun I26 hI26 => ?_)
            have h := lt_at hI26 h
            refine X.aload_0 (pc := 95) (by decide +kernel) ?_
            refine X.dupr (pc := 96) (by decide +kernel) ?_
            refine X.getI (pc := 97) (k := 6) fw_Prints_29 (by decide +kernel) (fun _ => rfl) hS ?_
            refine X.iconst (pc := 100) (i := 1) (v := 1) ic_1 (by decide +kernel) ?_
            refine X.iadd (pc := 101) (by decide +kernel) ?_
            refine X.nameI (fun x27 hx27 => ?_)
            have h := lt_at hx27 h
            refine X.putI (pc := 102) (k := 6) fw_Prints_29 (by decide +kernel) rfl rfl hS ?_
            refine X.nameMI (fun I28 hI28 => ?_)
            have h := lt_at hI28 h
            refine X.iconst (pc := 105) (i := 1) (v := 1) ic_1 (by decide +kernel) ?_
            have j0 := Option.some.inj h
            obtain ⟨i0, j1⟩ := Prod.mk.inj j0
            subst i0
            subst j1
            exact X.ireturn (pc := 106) (by decide +kernel) ⟨_, rfl, nz01 (Or.inr rfl)⟩ ⟨rfl, rfl, rfl, rfl, rfl, rfl⟩
          have h := hr20
          rcases ifb_some h with ⟨hq18, h⟩ | ⟨hq18, h⟩
          · refine X.if_ne_f (pc := 71) (off := 7) (tgt := 78) hq18 rfl (by decide +kernel) ?_
            refine X.iload_2 (pc := 74) (by decide +kernel) ?_
            refine X.goto (pc := 75) (off := 7) (tgt := 82) (by decide +kernel) rfl ?_
            have j0 := Option.some.inj h
            subst j0
            refine X.fgt (o' := [some (.ref (e_b E + t)), some (.int p1), none, none]) ⟨rfl, ⟨rfl, trivial⟩⟩ ?_
            exact hj21
          · refine X.if_ne_t (pc := 71) (off := 7) (tgt := 78) hq18 rfl (by decide +kernel) ?_
            refine X.aload_0 (pc := 78) (by decide +kernel) ?_
            refine X.getI (pc := 79) (k := 5) fw_Prints_47 (by decide +kernel) (fun _ => rfl) hS ?_
            have j0 := Option.some.inj h
            subst j0
            refine X.fgt (o' := [some (.ref (e_b E + t)), some (.int p1), none, none]) ⟨rfl, ⟨rfl, trivial⟩⟩ ?_
            exact hj21
        · refine X.icmp_lt_f (pc := 61) (off := 5) (tgt := 66) hq17 rfl (by decide +kernel) ?_
          refine X.iconst (pc := 64) (i := 0) (v := 0) ic_0 (by decide +kernel) ?_
          have j0 := Option.some.inj h
          obtain ⟨i0, j1⟩ := Prod.mk.inj j0
          subst i0
          subst j1
          exact X.ireturn (pc := 65) (by decide +kernel) ⟨_, rfl, nz01 (Or.inl rfl)⟩ ⟨rfl, rfl, rfl, rfl, rfl, rfl⟩
  have h := hr3
  rcases ifb_some h with ⟨hq1, h⟩ | ⟨hq1, h⟩
  · refine X.if_ne_f (pc := 4) (off := 20) (tgt := 24) hq1 rfl (by decide +kernel) ?_
    refine X.iload_2 (pc := 7) (by decide +kernel) ?_
    rcases ifb_some h with ⟨hq5, h⟩ | ⟨hq5, h⟩
    · refine X.if_lt_t (pc := 8) (off := 12) (tgt := 20) hq5 rfl (by decide +kernel) ?_
      refine X.iconst (pc := 20) (i := 0) (v := 0) ic_0 (by decide +kernel) ?_
      refine X.goto (pc := 21) (off := 18) (tgt := 39) (by decide +kernel) rfl ?_
      have j0 := Option.some.inj h
      subst j0
      exact hj4
    · refine X.if_lt_f (pc := 8) (off := 12) (tgt := 20) hq5 rfl (by decide +kernel) ?_
      refine X.iload_2 (pc := 11) (by decide +kernel) ?_
      refine X.iconst (pc := 12) (i := 4) (v := 4) ic_4 (by decide +kernel) ?_
      rcases ifb_some h with ⟨hq6, h⟩ | ⟨hq6, h⟩
      · refine X.icmp_ge_t (pc := 13) (off := 7) (tgt := 20) hq6 rfl (by decide +kernel) ?_
        refine X.iconst (pc := 20) (i := 0) (v := 0) ic_0 (by decide +kernel) ?_
        refine X.goto (pc := 21) (off := 18) (tgt := 39) (by decide +kernel) rfl ?_
        have j0 := Option.some.inj h
        subst j0
        exact hj4
      · refine X.icmp_ge_f (pc := 13) (off := 7) (tgt := 20) hq6 rfl (by decide +kernel) ?_
        refine X.iconst (pc := 16) (i := 1) (v := 1) ic_1 (by decide +kernel) ?_
        refine X.goto (pc := 17) (off := 22) (tgt := 39) (by decide +kernel) rfl ?_
        have j0 := Option.some.inj h
        subst j0
        exact hj4
  · refine X.if_ne_t (pc := 4) (off := 20) (tgt := 24) hq1 rfl (by decide +kernel) ?_
    refine X.aload_0 (pc := 24) (by decide +kernel) ?_
    refine X.aload_0 (pc := 25) (by decide +kernel) ?_
    refine X.aload_0 (pc := 26) (by decide +kernel) ?_
    refine X.getI (pc := 27) (k := 6) fw_Prints_29 (by decide +kernel) (fun _ => rfl) hS ?_
    refine X.iconst (pc := 30) (i := 1) (v := 1) ic_1 (by decide +kernel) ?_
    refine X.isub (pc := 31) (by decide +kernel) ?_
    obtain ⟨x7, hv8, h⟩ := bnd1_some h
    refine X.callVi (pc := 32) (nc := 0) (ns := 0) (c_Prints_cellAt hE (dle hd (Nat.le_of_ble_eq_true rfl)) hS hv8) cv_Prints_33 (by decide +kernel) hS ⟨by decide, rfl⟩ (ddd hd (Nat.le_of_ble_eq_true rfl)) rfl (Nat.le_of_ble_eq_true rfl) rfl rfl ?_
    refine X.iload_1 (pc := 35) (by decide +kernel) ?_
    obtain ⟨x9, hv10, h⟩ := bnd1_some h
    refine X.callVi (pc := 36) (nc := 0) (ns := 0) (c_Prints_isStepOn hE (dle hd (Nat.le_of_ble_eq_true rfl)) hS hv10) cv_Prints_37 (by decide +kernel) hS ⟨by decide, rfl⟩ (ddd hd (Nat.le_of_ble_eq_true rfl)) rfl (Nat.le_of_ble_eq_true rfl) rfl rfl ?_
    have j0 := Option.some.inj h
    subst j0
    exact hj4
set_option maxRecDepth 100000 in
noncomputable def f_GWL_print (S : MS) (R : MR) (I : MI) (t : Nat) (p1 : Int32) (p2 : Int32) : Option (Int32 × MI) :=
  bnd1 (R t 17) fun b1 =>
  asrt ((S b1).1 = 7) <|
  bnd2 (f_Prints_tell S R I b1 p1 p2) fun x3 I4 =>
  bnd1 (ifb (x3 = 0)
      (some (-1))
      (some (I4 b1 6))) fun (y7 : Int32) =>
  some (y7, I4)
set_option maxRecDepth 100000 in
set_option maxHeartbeats 4000000 in
theorem c_GWL_print {E : Env} (hE : OKE E) {tg : Bool} {d : Nat} (hd : 2 ≤ d) {S : MS} {I : MI} {L : ML} {R : MR} {n : Nat} {t : Nat} {p1 : Int32} {p2 : Int32} {v : Int32} {I' : MI} (hS : (S t).1 = 11) (h : f_GWL_print S R I t p1 p2 = some (v, I')) : C E y_GWL_print b_GWL_print 3 (some .int) tg d 0 0 [.ref (e_b E + t), .int p1, .int p2] S I L R n (Kq (some (.int v)) S I' L R n) := by
  refine C.of (o := [some (.ref (e_b E + t)), some (.int p1), some (.int p2)]) (by decide) rfl (Nat.le_of_ble_eq_true rfl) ?_
  rw [f_GWL_print] at h
  refine X.aload_0 (pc := 0) (by decide +kernel) ?_
  obtain ⟨b1, hb1, h⟩ := bnd1_some h
  refine X.getR (pc := 1) (k := 17) fw_GWL_115 (by decide +kernel) (fun _ => rfl) hS hb1 ?_
  refine X.iload_1 (pc := 4) (by decide +kernel) ?_
  refine X.iload_2 (pc := 5) (by decide +kernel) ?_
  obtain ⟨hc2, h⟩ := asrt_some h
  obtain ⟨x3, I4, hv5, h⟩ := bnd2_some h
  refine X.callVi (pc := 6) (nc := 0) (ns := 0) (c_Prints_tell hE (dle hd (Nat.le_of_ble_eq_true rfl)) hc2 hv5) cv_GWL_359 (by decide +kernel) hc2 ⟨by decide, rfl⟩ (ddd hd (Nat.le_of_ble_eq_true rfl)) rfl (Nat.le_of_ble_eq_true rfl) rfl rfl ?_
  obtain ⟨y7, hr8, h⟩ := bnd1_some h
  have hj9 : X E y_GWL_print b_GWL_print 3 (some .int) tg d 0 0 23 [none, none, none] [.int y7] S I4 L R n (Kq (some (.int v)) S I' L R n) := by
    have j0 := Option.some.inj h
    obtain ⟨i0, j1⟩ := Prod.mk.inj j0
    subst i0
    subst j1
    exact X.ireturn (pc := 23) (by decide +kernel) ⟨_, rfl, rfl⟩ ⟨rfl, rfl, rfl, rfl, rfl, rfl⟩
  have h := hr8
  rcases ifb_some h with ⟨hq6, h⟩ | ⟨hq6, h⟩
  · refine X.if_eq_t (pc := 9) (off := 13) (tgt := 22) hq6 rfl (by decide +kernel) ?_
    refine X.iconst (pc := 22) (i := (-1)) (v := (-1)) ic_m1 (by decide +kernel) ?_
    have j0 := Option.some.inj h
    subst j0
    refine X.fgt (o' := [none, none, none]) trivial ?_
    exact hj9
  · refine X.if_eq_f (pc := 9) (off := 13) (tgt := 22) hq6 rfl (by decide +kernel) ?_
    refine X.aload_0 (pc := 12) (by decide +kernel) ?_
    refine X.getR (pc := 13) (k := 17) fw_GWL_115 (by decide +kernel) (fun _ => rfl) hS hb1 ?_
    refine X.getI (pc := 16) (k := 6) fw_GWL_362 (by decide +kernel) (fun _ => rfl) hc2 ?_
    refine X.goto (pc := 19) (off := 4) (tgt := 23) (by decide +kernel) rfl ?_
    have j0 := Option.some.inj h
    subst j0
    refine X.fgt (o' := [none, none, none]) trivial ?_
    exact hj9
set_option maxRecDepth 100000 in
noncomputable def f_GWL_wipe (S : MS) (R : MR) (I : MI) (t : Nat) : Option (Int32 × MI) :=
  bnd1 (R t 17) fun b1 =>
  asrt ((S b1).1 = 7) <|
  bnd2 (f_Prints_forget S I b1) fun x3 I4 =>
  some (x3, I4)
set_option maxRecDepth 100000 in
set_option maxHeartbeats 4000000 in
theorem c_GWL_wipe {E : Env} (hE : OKE E) {tg : Bool} {d : Nat} (hd : 1 ≤ d) {S : MS} {I : MI} {L : ML} {R : MR} {n : Nat} {t : Nat} {v : Int32} {I' : MI} (hS : (S t).1 = 11) (h : f_GWL_wipe S R I t = some (v, I')) : C E y_GWL_wipe b_GWL_wipe 1 (some .int) tg d 0 0 [.ref (e_b E + t)] S I L R n (Kq (some (.int v)) S I' L R n) := by
  refine C.of (o := [some (.ref (e_b E + t))]) (by decide) rfl (Nat.le_of_ble_eq_true rfl) ?_
  rw [f_GWL_wipe] at h
  refine X.aload_0 (pc := 0) (by decide +kernel) ?_
  obtain ⟨b1, hb1, h⟩ := bnd1_some h
  refine X.getR (pc := 1) (k := 17) fw_GWL_115 (by decide +kernel) (fun _ => rfl) hS hb1 ?_
  obtain ⟨hc2, h⟩ := asrt_some h
  obtain ⟨x3, I4, hv5, h⟩ := bnd2_some h
  refine X.callVi (pc := 4) (nc := 0) (ns := 0) (c_Prints_forget hE (dle hd (Nat.le_of_ble_eq_true rfl)) hc2 hv5) cv_GWL_145 (by decide +kernel) hc2 ⟨by decide, rfl⟩ (ddd hd (Nat.le_of_ble_eq_true rfl)) rfl (Nat.le_of_ble_eq_true rfl) rfl rfl ?_
  have j0 := Option.some.inj h
  obtain ⟨i0, j1⟩ := Prod.mk.inj j0
  subst i0
  subst j1
  exact X.ireturn (pc := 7) (by decide +kernel) ⟨_, rfl, rfl⟩ ⟨rfl, rfl, rfl, rfl, rfl, rfl⟩
set_option maxRecDepth 100000 in
noncomputable def f_Prints_placeBehind (S : MS) (R : MR) (I : MI) (t : Nat) (p1 : Int32) (p2 : Int32) (p3 : Int32) : Option Int32 :=
  bnd1 (f_Prints_cellAt S R I t p1) fun x1 =>
  bnd1 (R t 0) fun b3 =>
  asrt ((S b3).1 = 2) <|
  bnd1 (f_Land_after S R I b3 ((x1 * 4) + p2) p3) fun x5 =>
  bnd1 (f_Land_endsAt S R I b3 x1) fun x7 =>
  bnd1 (ifb (x7 = 0)
      (bnd1 (f_GWL_cellOf x5) fun x13 =>
      bnd1 (f_Prints_cellAt S R I t (p1 + 1)) fun x15 =>
      ifb (x13 = x15)
        (some 1)
        (some 0))
      (some 0)) fun (y10 : Int32) =>
  bnd1 (ifb (y10 = 0)
      (some (-1))
      (some (((p1 + 1) * 4) + (x5 &&& 3)))) fun (y19 : Int32) =>
  some y19
set_option maxRecDepth 100000 in
set_option maxHeartbeats 4000000 in
theorem c_Prints_placeBehind {E : Env} (hE : OKE E) {tg : Bool} {d : Nat} (hd : 2 ≤ d) {S : MS} {I : MI} {L : ML} {R : MR} {n : Nat} {t : Nat} {p1 : Int32} {p2 : Int32} {p3 : Int32} {v : Int32} (hS : (S t).1 = 7) (h : f_Prints_placeBehind S R I t p1 p2 p3 = some v) : C E y_Prints_placeBehind b_Prints_placeBehind 7 (some .int) tg d 0 0 [.ref (e_b E + t), .int p1, .int p2, .int p3] S I L R n (Kq (some (.int v)) S I L R n) := by
  refine C.of (o := [some (.ref (e_b E + t)), some (.int p1), some (.int p2), some (.int p3), none, none, none]) (by decide) rfl (Nat.le_of_ble_eq_true rfl) ?_
  rw [f_Prints_placeBehind] at h
  refine X.aload_0 (pc := 0) (by decide +kernel) ?_
  refine X.iload_1 (pc := 1) (by decide +kernel) ?_
  obtain ⟨x1, hv2, h⟩ := bnd1_some h
  refine X.callVi (pc := 2) (nc := 0) (ns := 0) (c_Prints_cellAt hE (dle hd (Nat.le_of_ble_eq_true rfl)) hS hv2) cv_Prints_33 (by decide +kernel) hS ⟨by decide, rfl⟩ (ddd hd (Nat.le_of_ble_eq_true rfl)) rfl (Nat.le_of_ble_eq_true rfl) rfl rfl ?_
  refine X.istore_4 (pc := 5) (by decide +kernel) (by decide) rfl ?_
  refine X.aload_0 (pc := 7) (by decide +kernel) ?_
  obtain ⟨b3, hb3, h⟩ := bnd1_some h
  refine X.getR (pc := 8) (k := 0) fw_Prints_22 (by decide +kernel) (fun _ => rfl) hS hb3 ?_
  refine X.iload_4 (pc := 11) (by decide +kernel) ?_
  refine X.iconst (pc := 13) (i := 4) (v := 4) ic_4 (by decide +kernel) ?_
  refine X.imul (pc := 14) (by decide +kernel) ?_
  refine X.iload_2 (pc := 15) (by decide +kernel) ?_
  refine X.iadd (pc := 16) (by decide +kernel) ?_
  refine X.iload_3 (pc := 17) (by decide +kernel) ?_
  obtain ⟨hc4, h⟩ := asrt_some h
  obtain ⟨x5, hv6, h⟩ := bnd1_some h
  refine X.callVi (pc := 18) (nc := 0) (ns := 0) (c_Land_after hE (dle hd (Nat.le_of_ble_eq_true rfl)) hc4 hv6) cv_Prints_71 (by decide +kernel) hc4 ⟨by decide, rfl⟩ (ddd hd (Nat.le_of_ble_eq_true rfl)) rfl (Nat.le_of_ble_eq_true rfl) rfl rfl ?_
  refine X.istore_5 (pc := 21) (by decide +kernel) (by decide) rfl ?_
  refine X.aload_0 (pc := 23) (by decide +kernel) ?_
  refine X.getR (pc := 24) (k := 0) fw_Prints_22 (by decide +kernel) (fun _ => rfl) hS hb3 ?_
  refine X.iload_4 (pc := 27) (by decide +kernel) ?_
  obtain ⟨x7, hv8, h⟩ := bnd1_some h
  refine X.callVi (pc := 29) (nc := 0) (ns := 0) (c_Land_endsAt hE (dle hd (Nat.le_of_ble_eq_true rfl)) hc4 hv8) cv_Prints_75 (by decide +kernel) hc4 ⟨by decide, rfl⟩ (ddd hd (Nat.le_of_ble_eq_true rfl)) rfl (Nat.le_of_ble_eq_true rfl) rfl rfl ?_
  obtain ⟨y10, hr11, h⟩ := bnd1_some h
  have hj12 : X E y_Prints_placeBehind b_Prints_placeBehind 7 (some .int) tg d 0 0 55 [none, some (.int p1), none, none, none, some (.int x5), none] [.int y10] S I L R n (Kq (some (.int v)) S I L R n) := by
    refine X.istore_6 (pc := 55) (by decide +kernel) (by decide) rfl ?_
    refine X.iload_6 (pc := 57) (by decide +kernel) ?_
    obtain ⟨y19, hr20, h⟩ := bnd1_some h
    have hj21 : X E y_Prints_placeBehind b_Prints_placeBehind 7 (some .int) tg d 0 0 76 [none, none, none, none, none, none, none] [.int y19] S I L R n (Kq (some (.int v)) S I L R n) := by
      have j0 := Option.some.inj h
      subst j0
      exact X.ireturn (pc := 76) (by decide +kernel) ⟨_, rfl, rfl⟩ ⟨rfl, rfl, rfl, rfl, rfl, rfl⟩
    have h := hr20
    rcases ifb_some h with ⟨hq18, h⟩ | ⟨hq18, h⟩
    · refine X.if_eq_t (pc := 59) (off := 16) (tgt := 75) hq18 rfl (by decide +kernel) ?_
      refine X.iconst (pc := 75) (i := (-1)) (v := (-1)) ic_m1 (by decide +kernel) ?_
      have j0 := Option.some.inj h
      subst j0
      refine X.fgt (o' := [none, none, none, none, none, none, none]) trivial ?_
      exact hj21
    · refine X.if_eq_f (pc := 59) (off := 16) (tgt := 75) hq18 rfl (by decide +kernel) ?_
      refine X.iload_1 (pc := 62) (by decide +kernel) ?_
      refine X.iconst (pc := 63) (i := 1) (v := 1) ic_1 (by decide +kernel) ?_
      refine X.iadd (pc := 64) (by decide +kernel) ?_
      refine X.iconst (pc := 65) (i := 4) (v := 4) ic_4 (by decide +kernel) ?_
      refine X.imul (pc := 66) (by decide +kernel) ?_
      refine X.iload_5 (pc := 67) (by decide +kernel) ?_
      refine X.iconst (pc := 69) (i := 3) (v := 3) ic_3 (by decide +kernel) ?_
      refine X.iand (pc := 70) (by decide +kernel) ?_
      refine X.iadd (pc := 71) (by decide +kernel) ?_
      refine X.goto (pc := 72) (off := 4) (tgt := 76) (by decide +kernel) rfl ?_
      have j0 := Option.some.inj h
      subst j0
      refine X.fgt (o' := [none, none, none, none, none, none, none]) trivial ?_
      exact hj21
  have h := hr11
  rcases ifb_some h with ⟨hq9, h⟩ | ⟨hq9, h⟩
  · refine X.if_ne_f (pc := 32) (off := 22) (tgt := 54) hq9 rfl (by decide +kernel) ?_
    refine X.iload_5 (pc := 35) (by decide +kernel) ?_
    obtain ⟨x13, hv14, h⟩ := bnd1_some h
    refine X.callSi (pc := 37) (nc := 0) (ns := 0) (c_GWL_cellOf hE (dle hd (Nat.le_of_ble_eq_true rfl)) hv14) cv_Prints_78 (by decide +kernel) (ddd hd (Nat.le_of_ble_eq_true rfl)) rfl (Nat.le_of_ble_eq_true rfl) rfl rfl ?_
    refine X.aload_0 (pc := 40) (by decide +kernel) ?_
    refine X.iload_1 (pc := 41) (by decide +kernel) ?_
    refine X.iconst (pc := 42) (i := 1) (v := 1) ic_1 (by decide +kernel) ?_
    refine X.iadd (pc := 43) (by decide +kernel) ?_
    obtain ⟨x15, hv16, h⟩ := bnd1_some h
    refine X.callVi (pc := 44) (nc := 0) (ns := 0) (c_Prints_cellAt hE (dle hd (Nat.le_of_ble_eq_true rfl)) hS hv16) cv_Prints_33 (by decide +kernel) hS ⟨by decide, rfl⟩ (ddd hd (Nat.le_of_ble_eq_true rfl)) rfl (Nat.le_of_ble_eq_true rfl) rfl rfl ?_
    rcases ifb_some h with ⟨hq17, h⟩ | ⟨hq17, h⟩
    · refine X.icmp_ne_f (pc := 47) (off := 7) (tgt := 54) hq17 rfl (by decide +kernel) ?_
      refine X.iconst (pc := 50) (i := 1) (v := 1) ic_1 (by decide +kernel) ?_
      refine X.goto (pc := 51) (off := 4) (tgt := 55) (by decide +kernel) rfl ?_
      have j0 := Option.some.inj h
      subst j0
      refine X.fgt (o' := [none, some (.int p1), none, none, none, some (.int x5), none]) ⟨rfl, ⟨rfl, trivial⟩⟩ ?_
      exact hj12
    · refine X.icmp_ne_t (pc := 47) (off := 7) (tgt := 54) hq17 rfl (by decide +kernel) ?_
      refine X.iconst (pc := 54) (i := 0) (v := 0) ic_0 (by decide +kernel) ?_
      have j0 := Option.some.inj h
      subst j0
      refine X.fgt (o' := [none, some (.int p1), none, none, none, some (.int x5), none]) ⟨rfl, ⟨rfl, trivial⟩⟩ ?_
      exact hj12
  · refine X.if_ne_t (pc := 32) (off := 22) (tgt := 54) hq9 rfl (by decide +kernel) ?_
    refine X.iconst (pc := 54) (i := 0) (v := 0) ic_0 (by decide +kernel) ?_
    have j0 := Option.some.inj h
    subst j0
    refine X.fgt (o' := [none, some (.int p1), none, none, none, some (.int x5), none]) ⟨rfl, ⟨rfl, trivial⟩⟩ ?_
    exact hj12
