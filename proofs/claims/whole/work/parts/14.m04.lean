set_option maxRecDepth 100000 in
noncomputable def f_Mod_readsThing (g : Nat) (S : MS) (R : MR) (I : MI) (t : Nat) (p1 : Int32) : Option (Int32 × MI) :=
  bnd1 (ifb ((I t 19) ≤ (I t 18))
      (some (-1))
      (bnd1 (R t 16) fun b5 =>
      lt (I t 18) fun (x6 : Int32) =>
      asrt ((S b5).1 = 20) <|
      asrt (vp_in x6 (S b5).2) <|
      bnd1 (f_Mod_among g 7 (I b5 (Int32.toNatClampNeg x6))) fun x9 =>
      some x9)) fun (y2 : Int32) =>
  ifb (y2 < 0)
    (bnd1 (f_Mod_isDigit S R I t) fun x12 =>
    ifb (x12 = 0)
      (some (0, I))
      (bnd1 (R t 16) fun b15 =>
      lt (I t 18) fun (x16 : Int32) =>
      asrt ((S b15).1 = 20) <|
      asrt (vp_in x16 (S b15).2) <|
      lt ((I b15 (Int32.toNatClampNeg x16)) - 48) fun (x19 : Int32) =>
      lt ((I t 18) + 1) fun (x20 : Int32) =>
      lt (wI I t 18 x20) fun (I21 : MI) =>
      bnd1 (f_Mod_isDigit S R I21 t) fun x22 =>
      bnd2 (ifb (x22 = 0)
          (some (x19, I21))
          (lt (I21 t 18) fun (x29 : Int32) =>
          asrt (vp_in x29 (S b15).2) <|
          lt (((10 * x19) + (I21 b15 (Int32.toNatClampNeg x29))) - 48) fun (x31 : Int32) =>
          lt ((I21 t 18) + 1) fun (x32 : Int32) =>
          lt (wI I21 t 18 x32) fun (I33 : MI) =>
          some (x31, I33))) fun (z25 : Int32) (I26 : MI) =>
      bnd2 (f_Mod_takes S R I26 t 42) fun x34 I35 =>
      ifb (x34 = 0)
        (bnd1 (R t 22) fun b38 =>
        asrt ((S b38).1 = 20) <|
        asrt (vp_in 0 (S b38).2) <|
        lt ((I35 b38 (Int32.toNatClampNeg 0)) + (p1 * z25)) fun (x41 : Int32) =>
        asrt (vp_in 0 (S b38).2) <|
        lt (wI I35 b38 (Int32.toNatClampNeg 0) x41) fun (I43 : MI) =>
        some (1, I43))
        (bnd1 (ifb ((I35 t 19) ≤ (I35 t 18))
            (some 0)
            (lt (I35 t 18) fun (x48 : Int32) =>
            asrt (vp_in x48 (S b15).2) <|
            bnd1 (f_Mod_among g 7 (I35 b15 (Int32.toNatClampNeg x48))) fun x50 =>
            some (1 + x50))) fun (y45 : Int32) =>
        ifb (y45 = 0)
          (some (0, I35))
          (lt ((I35 t 18) + 1) fun (x53 : Int32) =>
          lt (wI I35 t 18 x53) fun (I54 : MI) =>
          bnd1 (R t 22) fun b55 =>
          asrt ((S b55).1 = 20) <|
          asrt (vp_in y45 (S b55).2) <|
          lt ((I54 b55 (Int32.toNatClampNeg y45)) + (p1 * z25)) fun (x58 : Int32) =>
          asrt (vp_in y45 (S b55).2) <|
          lt (wI I54 b55 (Int32.toNatClampNeg y45) x58) fun (I60 : MI) =>
          some (1, I60)))))
    (lt ((I t 18) + 1) fun (x61 : Int32) =>
    lt (wI I t 18 x61) fun (I62 : MI) =>
    bnd1 (R t 22) fun b63 =>
    lt (1 + y2) fun (x64 : Int32) =>
    asrt ((S b63).1 = 20) <|
    asrt (vp_in x64 (S b63).2) <|
    lt ((I62 b63 (Int32.toNatClampNeg x64)) + p1) fun (x67 : Int32) =>
    asrt (vp_in x64 (S b63).2) <|
    lt (wI I62 b63 (Int32.toNatClampNeg x64) x67) fun (I69 : MI) =>
    some (1, I69))
set_option maxRecDepth 100000 in
set_option maxHeartbeats 4000000 in
theorem c_Mod_readsThing {E : Env} (hE : OKE E) {tg : Bool} {d : Nat} (hd : 5 ≤ d) {g : Nat} {S : MS} {I : MI} {L : ML} {R : MR} {n : Nat} {t : Nat} {p1 : Int32} {v : Int32} {I' : MI} (hS : (S t).1 = 12) (h : f_Mod_readsThing g S R I t p1 = some (v, I')) : C E y_Mod_readsThing b_Mod_readsThing 5 (some .boolean) tg d 0 0 [.ref (e_b E + t), .int p1] S I L R n (Kq (some (.int v)) S I' L R n) := by
  refine C.of (o := [some (.ref (e_b E + t)), some (.int p1), none, none, none]) (by decide) rfl (Nat.le_of_ble_eq_true rfl) ?_
  rw [f_Mod_readsThing] at h
  refine X.aload_0 (pc := 0) (by decide +kernel) ?_
  refine X.getI (pc := 1) (k := 18) fw_Mod_162 (by decide +kernel) (fun _ => rfl) hS ?_
  refine X.aload_0 (pc := 4) (by decide +kernel) ?_
  refine X.getI (pc := 5) (k := 19) fw_Mod_169 (by decide +kernel) (fun _ => rfl) hS ?_
  obtain ⟨y2, hr3, h⟩ := bnd1_some h
  have hj4 : X E y_Mod_readsThing b_Mod_readsThing 5 (some .boolean) tg d 0 0 29 [some (.ref (e_b E + t)), some (.int p1), none, none, none] [.int y2] S I L R n (Kq (some (.int v)) S I' L R n) := by
    refine X.istore_2 (pc := 29) (by decide +kernel) (by decide) rfl ?_
    refine X.iload_2 (pc := 30) (by decide +kernel) ?_
    rcases ifb_some h with ⟨hq11, h⟩ | ⟨hq11, h⟩
    · refine X.if_lt_t (pc := 31) (off := 27) (tgt := 58) hq11 rfl (by decide +kernel) ?_
      refine X.aload_0 (pc := 58) (by decide +kernel) ?_
      obtain ⟨x12, hv13, h⟩ := bnd1_some h
      refine X.callVi (pc := 59) (nc := 0) (ns := 0) (c_Mod_isDigit hE (dle hd (Nat.le_of_ble_eq_true rfl)) hS hv13) cv_Mod_221 (by decide +kernel) hS ⟨by decide, rfl⟩ (ddd hd (Nat.le_of_ble_eq_true rfl)) rfl (Nat.le_of_ble_eq_true rfl) rfl rfl ?_
      rcases ifb_some h with ⟨hq14, h⟩ | ⟨hq14, h⟩
      · refine X.if_ne_f (pc := 62) (off := 5) (tgt := 67) hq14 rfl (by decide +kernel) ?_
        refine X.iconst (pc := 65) (i := 0) (v := 0) ic_0 (by decide +kernel) ?_
        have j0 := Option.some.inj h
        obtain ⟨i0, j1⟩ := Prod.mk.inj j0
        subst i0
        subst j1
        exact X.ireturn (pc := 66) (by decide +kernel) ⟨_, rfl, nz01 (Or.inl rfl)⟩ ⟨rfl, rfl, rfl, rfl, rfl, rfl⟩
      · refine X.if_ne_t (pc := 62) (off := 5) (tgt := 67) hq14 rfl (by decide +kernel) ?_
        refine X.aload_0 (pc := 67) (by decide +kernel) ?_
        obtain ⟨b15, hb15, h⟩ := bnd1_some h
        refine X.getR (pc := 68) (k := 16) fw_Mod_59 (by decide +kernel) (fun _ => rfl) hS hb15 ?_
        refine X.aload_0 (pc := 71) (by decide +kernel) ?_
        refine X.getI (pc := 72) (k := 18) fw_Mod_162 (by decide +kernel) (fun _ => rfl) hS ?_
        refine X.nameI (fun x16 hx16 => ?_)
        have h := lt_at hx16 h
        obtain ⟨hc18, h⟩ := asrt_some h
        obtain ⟨hi17, h⟩ := asrt_some h
        refine X.iaload (pc := 75) (by decide +kernel) hc18 hi17 ?_
        refine X.bipush (pc := 76) (i := 48) (v := 48) bp_48 (by decide +kernel) ?_
        refine X.isub (pc := 78) (by decide +kernel) ?_
        refine X.nameI (fun x19 hx19 => ?_)
        have h := lt_at hx19 h
        refine X.istore_3 (pc := 79) (by decide +kernel) (by decide) rfl ?_
        refine X.aload_0 (pc := 80) (by decide +kernel) ?_
        refine X.dupr (pc := 81) (by decide +kernel) ?_
        refine X.getI (pc := 82) (k := 18) fw_Mod_162 (by decide +kernel) (fun _ => rfl) hS ?_
        refine X.iconst (pc := 85) (i := 1) (v := 1) ic_1 (by decide +kernel) ?_
        refine X.iadd (pc := 86) (by decide +kernel) ?_
        refine X.nameI (fun x20 hx20 => ?_)
        have h := lt_at hx20 h
        refine X.putI (pc := 87) (k := 18) fw_Mod_162 (by decide +kernel) rfl rfl hS ?_
        refine X.nameMI (fun I21 hI21 => ?_)
        have h := lt_at hI21 h
        refine X.aload_0 (pc := 90) (by decide +kernel) ?_
        obtain ⟨x22, hv23, h⟩ := bnd1_some h
        refine X.callVi (pc := 91) (nc := 0) (ns := 0) (c_Mod_isDigit hE (dle hd (Nat.le_of_ble_eq_true rfl)) hS hv23) cv_Mod_221 (by decide +kernel) hS ⟨by decide, rfl⟩ (ddd hd (Nat.le_of_ble_eq_true rfl)) rfl (Nat.le_of_ble_eq_true rfl) rfl rfl ?_
        obtain ⟨z25, I26, hr27, h⟩ := bnd2_some h
        have hj28 : X E y_Mod_readsThing b_Mod_readsThing 5 (some .boolean) tg d 0 0 125 [some (.ref (e_b E + t)), some (.int p1), none, some (.int z25), none] [] S I26 L R n (Kq (some (.int v)) S I' L R n) := by
          refine X.iconst (pc := 125) (i := 0) (v := 0) ic_0 (by decide +kernel) ?_
          refine X.istore_4 (pc := 126) (by decide +kernel) (by decide) rfl ?_
          refine X.aload_0 (pc := 128) (by decide +kernel) ?_
          refine X.bipush (pc := 129) (i := 42) (v := 42) bp_42 (by decide +kernel) ?_
          obtain ⟨x34, I35, hv36, h⟩ := bnd2_some h
          refine X.callVi (pc := 131) (nc := 0) (ns := 0) (c_Mod_takes hE (dle hd (Nat.le_of_ble_eq_true rfl)) hS hv36) cv_Mod_191 (by decide +kernel) hS ⟨by decide, rfl⟩ (ddd hd (Nat.le_of_ble_eq_true rfl)) rfl (Nat.le_of_ble_eq_true rfl) rfl rfl ?_
          rcases ifb_some h with ⟨hq37, h⟩ | ⟨hq37, h⟩
          · refine X.if_eq_t (pc := 134) (off := 53) (tgt := 187) hq37 rfl (by decide +kernel) ?_
            refine X.aload_0 (pc := 187) (by decide +kernel) ?_
            obtain ⟨b38, hb38, h⟩ := bnd1_some h
            refine X.getR (pc := 188) (k := 22) fw_Mod_68 (by decide +kernel) (fun _ => rfl) hS hb38 ?_
            refine X.iload_4 (pc := 191) (by decide +kernel) ?_
            refine X.dup2ir (pc := 193) (by decide +kernel) ?_
            obtain ⟨hc40, h⟩ := asrt_some h
            obtain ⟨hi39, h⟩ := asrt_some h
            refine X.iaload (pc := 194) (by decide +kernel) hc40 hi39 ?_
            refine X.iload_1 (pc := 195) (by decide +kernel) ?_
            refine X.iload_3 (pc := 196) (by decide +kernel) ?_
            refine X.imul (pc := 197) (by decide +kernel) ?_
            refine X.iadd (pc := 198) (by decide +kernel) ?_
            refine X.nameI (fun x41 hx41 => ?_)
            have h := lt_at hx41 h
            obtain ⟨hi42, h⟩ := asrt_some h
            refine X.iastore (pc := 199) (by decide +kernel) hc40 hi42 ?_
            refine X.nameMI (fun I43 hI43 => ?_)
            have h := lt_at hI43 h
            refine X.iconst (pc := 200) (i := 1) (v := 1) ic_1 (by decide +kernel) ?_
            have j0 := Option.some.inj h
            obtain ⟨i0, j1⟩ := Prod.mk.inj j0
            subst i0
            subst j1
            exact X.ireturn (pc := 201) (by decide +kernel) ⟨_, rfl, nz01 (Or.inr rfl)⟩ ⟨rfl, rfl, rfl, rfl, rfl, rfl⟩
          · refine X.if_eq_f (pc := 134) (off := 53) (tgt := 187) hq37 rfl (by decide +kernel) ?_
            refine X.aload_0 (pc := 137) (by decide +kernel) ?_
            refine X.getI (pc := 138) (k := 18) fw_Mod_162 (by decide +kernel) (fun _ => rfl) hS ?_
            refine X.aload_0 (pc := 141) (by decide +kernel) ?_
            refine X.getI (pc := 142) (k := 19) fw_Mod_169 (by decide +kernel) (fun _ => rfl) hS ?_
            obtain ⟨y45, hr46, h⟩ := bnd1_some h
            have hj47 : X E y_Mod_readsThing b_Mod_readsThing 5 (some .boolean) tg d 0 0 168 [some (.ref (e_b E + t)), some (.int p1), none, some (.int z25), none] [.int y45] S I35 L R n (Kq (some (.int v)) S I' L R n) := by
              refine X.istore_4 (pc := 168) (by decide +kernel) (by decide) rfl ?_
              refine X.iload_4 (pc := 170) (by decide +kernel) ?_
              rcases ifb_some h with ⟨hq52, h⟩ | ⟨hq52, h⟩
              · refine X.if_ne_f (pc := 172) (off := 5) (tgt := 177) hq52 rfl (by decide +kernel) ?_
                refine X.iconst (pc := 175) (i := 0) (v := 0) ic_0 (by decide +kernel) ?_
                have j0 := Option.some.inj h
                obtain ⟨i0, j1⟩ := Prod.mk.inj j0
                subst i0
                subst j1
                exact X.ireturn (pc := 176) (by decide +kernel) ⟨_, rfl, nz01 (Or.inl rfl)⟩ ⟨rfl, rfl, rfl, rfl, rfl, rfl⟩
              · refine X.if_ne_t (pc := 172) (off := 5) (tgt := 177) hq52 rfl (by decide +kernel) ?_
                refine X.aload_0 (pc := 177) (by decide +kernel) ?_
                refine X.dupr (pc := 178) (by decide +kernel) ?_
                refine X.getI (pc := 179) (k := 18) fw_Mod_162 (by decide +kernel) (fun _ => rfl) hS ?_
                refine X.iconst (pc := 182) (i := 1) (v := 1) ic_1 (by decide +kernel) ?_
                refine X.iadd (pc := 183) (by decide +kernel) ?_
                refine X.nameI (fun x53 hx53 => ?_)
                have h := lt_at hx53 h
                refine X.putI (pc := 184) (k := 18) fw_Mod_162 (by decide +kernel) rfl rfl hS ?_
                refine X.nameMI (fun I54 hI54 => ?_)
                have h := lt_at hI54 h
                refine X.aload_0 (pc := 187) (by decide +kernel) ?_
                obtain ⟨b55, hb55, h⟩ := bnd1_some h
                refine X.getR (pc := 188) (k := 22) fw_Mod_68 (by decide +kernel) (fun _ => rfl) hS hb55 ?_
                refine X.iload_4 (pc := 191) (by decide +kernel) ?_
                refine X.dup2ir (pc := 193) (by decide +kernel) ?_
                obtain ⟨hc57, h⟩ := asrt_some h
                obtain ⟨hi56, h⟩ := asrt_some h
                refine X.iaload (pc := 194) (by decide +kernel) hc57 hi56 ?_
                refine X.iload_1 (pc := 195) (by decide +kernel) ?_
                refine X.iload_3 (pc := 196) (by decide +kernel) ?_
                refine X.imul (pc := 197) (by decide +kernel) ?_
                refine X.iadd (pc := 198) (by decide +kernel) ?_
                refine X.nameI (fun x58 hx58 => ?_)
                have h := lt_at hx58 h
                obtain ⟨hi59, h⟩ := asrt_some h
                refine X.iastore (pc := 199) (by decide +kernel) hc57 hi59 ?_
                refine X.nameMI (fun I60 hI60 => ?_)
                have h := lt_at hI60 h
                refine X.iconst (pc := 200) (i := 1) (v := 1) ic_1 (by decide +kernel) ?_
                have j0 := Option.some.inj h
                obtain ⟨i0, j1⟩ := Prod.mk.inj j0
                subst i0
                subst j1
                exact X.ireturn (pc := 201) (by decide +kernel) ⟨_, rfl, nz01 (Or.inr rfl)⟩ ⟨rfl, rfl, rfl, rfl, rfl, rfl⟩
            have h := hr46
            rcases ifb_some h with ⟨hq44, h⟩ | ⟨hq44, h⟩
            · refine X.icmp_ge_t (pc := 145) (off := 22) (tgt := 167) hq44 rfl (by decide +kernel) ?_
              refine X.iconst (pc := 167) (i := 0) (v := 0) ic_0 (by decide +kernel) ?_
              have j0 := Option.some.inj h
              subst j0
              refine X.fgt (o' := [some (.ref (e_b E + t)), some (.int p1), none, some (.int z25), none]) ⟨rfl, ⟨rfl, ⟨rfl, trivial⟩⟩⟩ ?_
              exact hj47
            · refine X.icmp_ge_f (pc := 145) (off := 22) (tgt := 167) hq44 rfl (by decide +kernel) ?_
              refine X.iconst (pc := 148) (i := 1) (v := 1) ic_1 (by decide +kernel) ?_
              refine X.ldcS (pc := 149) (x := 219) (ix := 7) (tx := "hxsa") (by decide +kernel) (by decide +kernel) ?_
              refine X.aload_0 (pc := 151) (by decide +kernel) ?_
              refine X.getR (pc := 152) (k := 16) fw_Mod_59 (by decide +kernel) (fun _ => rfl) hS hb15 ?_
              refine X.aload_0 (pc := 155) (by decide +kernel) ?_
              refine X.getI (pc := 156) (k := 18) fw_Mod_162 (by decide +kernel) (fun _ => rfl) hS ?_
              refine X.nameI (fun x48 hx48 => ?_)
              have h := lt_at hx48 h
              obtain ⟨hi49, h⟩ := asrt_some h
              refine X.iaload (pc := 159) (by decide +kernel) hc18 hi49 ?_
              obtain ⟨x50, hv51, h⟩ := bnd1_some h
              refine X.callSi (pc := 160) (nc := 0) (ns := 0) (c_Mod_among hE (dle hd (Nat.le_of_ble_eq_true rfl)) hv51) cv_Mod_187 (by decide +kernel) (ddd hd (Nat.le_of_ble_eq_true rfl)) rfl (Nat.le_of_ble_eq_true rfl) rfl rfl ?_
              refine X.iadd (pc := 163) (by decide +kernel) ?_
              refine X.goto (pc := 164) (off := 4) (tgt := 168) (by decide +kernel) rfl ?_
              have j0 := Option.some.inj h
              subst j0
              refine X.fgt (o' := [some (.ref (e_b E + t)), some (.int p1), none, some (.int z25), none]) ⟨rfl, ⟨rfl, ⟨rfl, trivial⟩⟩⟩ ?_
              exact hj47
        have h := hr27
        rcases ifb_some h with ⟨hq24, h⟩ | ⟨hq24, h⟩
        · refine X.if_eq_t (pc := 94) (off := 31) (tgt := 125) hq24 rfl (by decide +kernel) ?_
          have j0 := Option.some.inj h
          obtain ⟨i0, j1⟩ := Prod.mk.inj j0
          subst i0
          subst j1
          refine X.fgt (o' := [some (.ref (e_b E + t)), some (.int p1), none, some (.int x19), none]) ⟨rfl, ⟨rfl, ⟨rfl, trivial⟩⟩⟩ ?_
          exact hj28
        · refine X.if_eq_f (pc := 94) (off := 31) (tgt := 125) hq24 rfl (by decide +kernel) ?_
          refine X.bipush (pc := 97) (i := 10) (v := 10) bp_10 (by decide +kernel) ?_
          refine X.iload_3 (pc := 99) (by decide +kernel) ?_
          refine X.imul (pc := 100) (by decide +kernel) ?_
          refine X.aload_0 (pc := 101) (by decide +kernel) ?_
          refine X.getR (pc := 102) (k := 16) fw_Mod_59 (by decide +kernel) (fun _ => rfl) hS hb15 ?_
          refine X.aload_0 (pc := 105) (by decide +kernel) ?_
          refine X.getI (pc := 106) (k := 18) fw_Mod_162 (by decide +kernel) (fun _ => rfl) hS ?_
          refine X.nameI (fun x29 hx29 => ?_)
          have h := lt_at hx29 h
          obtain ⟨hi30, h⟩ := asrt_some h
          refine X.iaload (pc := 109) (by decide +kernel) hc18 hi30 ?_
          refine X.iadd (pc := 110) (by decide +kernel) ?_
          refine X.bipush (pc := 111) (i := 48) (v := 48) bp_48 (by decide +kernel) ?_
          refine X.isub (pc := 113) (by decide +kernel) ?_
          refine X.nameI (fun x31 hx31 => ?_)
          have h := lt_at hx31 h
          refine X.istore_3 (pc := 114) (by decide +kernel) (by decide) rfl ?_
          refine X.aload_0 (pc := 115) (by decide +kernel) ?_
          refine X.dupr (pc := 116) (by decide +kernel) ?_
          refine X.getI (pc := 117) (k := 18) fw_Mod_162 (by decide +kernel) (fun _ => rfl) hS ?_
          refine X.iconst (pc := 120) (i := 1) (v := 1) ic_1 (by decide +kernel) ?_
          refine X.iadd (pc := 121) (by decide +kernel) ?_
          refine X.nameI (fun x32 hx32 => ?_)
          have h := lt_at hx32 h
          refine X.putI (pc := 122) (k := 18) fw_Mod_162 (by decide +kernel) rfl rfl hS ?_
          refine X.nameMI (fun I33 hI33 => ?_)
          have h := lt_at hI33 h
          have j0 := Option.some.inj h
          obtain ⟨i0, j1⟩ := Prod.mk.inj j0
          subst i0
          subst j1
          refine X.fgt (o' := [some (.ref (e_b E + t)), some (.int p1), none, some (.int x31), none]) ⟨rfl, ⟨rfl, ⟨rfl, trivial⟩⟩⟩ ?_
          exact hj28
    · refine X.if_lt_f (pc := 31) (off := 27) (tgt := 58) hq11 rfl (by decide +kernel) ?_
      refine X.aload_0 (pc := 34) (by decide +kernel) ?_
      refine X.dupr (pc := 35) (by decide +kernel) ?_
      refine X.getI (pc := 36) (k := 18) fw_Mod_162 (by decide +kernel) (fun _ => rfl) hS ?_
      refine X.iconst (pc := 39) (i := 1) (v := 1) ic_1 (by decide +kernel) ?_
      refine X.iadd (pc := 40) (by decide +kernel) ?_
      refine X.nameI (fun x61 hx61 => ?_)
      have h := lt_at hx61 h
      refine X.putI (pc := 41) (k := 18) fw_Mod_162 (by decide +kernel) rfl rfl hS ?_
      refine X.nameMI (fun I62 hI62 => ?_)
      have h := lt_at hI62 h
      refine X.aload_0 (pc := 44) (by decide +kernel) ?_
      obtain ⟨b63, hb63, h⟩ := bnd1_some h
      refine X.getR (pc := 45) (k := 22) fw_Mod_68 (by decide +kernel) (fun _ => rfl) hS hb63 ?_
      refine X.iconst (pc := 48) (i := 1) (v := 1) ic_1 (by decide +kernel) ?_
      refine X.iload_2 (pc := 49) (by decide +kernel) ?_
      refine X.iadd (pc := 50) (by decide +kernel) ?_
      refine X.nameI (fun x64 hx64 => ?_)
      have h := lt_at hx64 h
      refine X.dup2ir (pc := 51) (by decide +kernel) ?_
      obtain ⟨hc66, h⟩ := asrt_some h
      obtain ⟨hi65, h⟩ := asrt_some h
      refine X.iaload (pc := 52) (by decide +kernel) hc66 hi65 ?_
      refine X.iload_1 (pc := 53) (by decide +kernel) ?_
      refine X.iadd (pc := 54) (by decide +kernel) ?_
      refine X.nameI (fun x67 hx67 => ?_)
      have h := lt_at hx67 h
      obtain ⟨hi68, h⟩ := asrt_some h
      refine X.iastore (pc := 55) (by decide +kernel) hc66 hi68 ?_
      refine X.nameMI (fun I69 hI69 => ?_)
      have h := lt_at hI69 h
      refine X.iconst (pc := 56) (i := 1) (v := 1) ic_1 (by decide +kernel) ?_
      have j0 := Option.some.inj h
      obtain ⟨i0, j1⟩ := Prod.mk.inj j0
      subst i0
      subst j1
      exact X.ireturn (pc := 57) (by decide +kernel) ⟨_, rfl, nz01 (Or.inr rfl)⟩ ⟨rfl, rfl, rfl, rfl, rfl, rfl⟩
  have h := hr3
  rcases ifb_some h with ⟨hq1, h⟩ | ⟨hq1, h⟩
  · refine X.icmp_ge_t (pc := 8) (off := 20) (tgt := 28) hq1 rfl (by decide +kernel) ?_
    refine X.iconst (pc := 28) (i := (-1)) (v := (-1)) ic_m1 (by decide +kernel) ?_
    have j0 := Option.some.inj h
    subst j0
    exact hj4
  · refine X.icmp_ge_f (pc := 8) (off := 20) (tgt := 28) hq1 rfl (by decide +kernel) ?_
    refine X.ldcS (pc := 11) (x := 219) (ix := 7) (tx := "hxsa") (by decide +kernel) (by decide +kernel) ?_
    refine X.aload_0 (pc := 13) (by decide +kernel) ?_
    obtain ⟨b5, hb5, h⟩ := bnd1_some h
    refine X.getR (pc := 14) (k := 16) fw_Mod_59 (by decide +kernel) (fun _ => rfl) hS hb5 ?_
    refine X.aload_0 (pc := 17) (by decide +kernel) ?_
    refine X.getI (pc := 18) (k := 18) fw_Mod_162 (by decide +kernel) (fun _ => rfl) hS ?_
    refine X.nameI (fun x6 hx6 => ?_)
    have h := lt_at hx6 h
    obtain ⟨hc8, h⟩ := asrt_some h
    obtain ⟨hi7, h⟩ := asrt_some h
    refine X.iaload (pc := 21) (by decide +kernel) hc8 hi7 ?_
    obtain ⟨x9, hv10, h⟩ := bnd1_some h
    refine X.callSi (pc := 22) (nc := 0) (ns := 0) (c_Mod_among hE (dle hd (Nat.le_of_ble_eq_true rfl)) hv10) cv_Mod_187 (by decide +kernel) (ddd hd (Nat.le_of_ble_eq_true rfl)) rfl (Nat.le_of_ble_eq_true rfl) rfl rfl ?_
    refine X.goto (pc := 25) (off := 4) (tgt := 29) (by decide +kernel) rfl ?_
    have j0 := Option.some.inj h
    subst j0
    exact hj4
set_option maxRecDepth 100000 in
noncomputable def f_Mod_faultOf (S : MS) (I : MI) (t : Nat) (p1 : Int32) (p2 : Int32) (p3 : Int32) : Option Int32 :=
  bnd1 (ifb (p3 = 0)
      (some 0)
      (ifb ((I t 18) = (I t 19))
        (some 1)
        (some 0))) fun (y2 : Int32) =>
  ifb (p1 ≤ p2)
    (bnd1 (ifb (y2 = 0)
        (some ((-1) - (I t 18)))
        (some 0)) fun (y8 : Int32) =>
    some y8)
    (ifb (y2 = 0)
      (ifb ((I t 18) < p2)
        (bnd1 (ifb (y2 = 0)
            (some ((-1) - (I t 18)))
            (some 0)) fun (y14 : Int32) =>
        some y14)
        (lt ((-1) - p2) fun (x17 : Int32) =>
        some x17))
      (lt ((-1) - p2) fun (x18 : Int32) =>
      some x18))
set_option maxRecDepth 100000 in
set_option maxHeartbeats 4000000 in
theorem c_Mod_faultOf {E : Env} (hE : OKE E) {tg : Bool} {d : Nat} (hd : 0 ≤ d) {S : MS} {I : MI} {L : ML} {R : MR} {n : Nat} {t : Nat} {p1 : Int32} {p2 : Int32} {p3 : Int32} {v : Int32} (hS : (S t).1 = 12) (h : f_Mod_faultOf S I t p1 p2 p3 = some v) : C E y_Mod_faultOf b_Mod_faultOf 5 (some .int) tg d 0 0 [.ref (e_b E + t), .int p1, .int p2, .int p3] S I L R n (Kq (some (.int v)) S I L R n) := by
  refine C.of (o := [some (.ref (e_b E + t)), some (.int p1), some (.int p2), some (.int p3), none]) (by decide) rfl (Nat.le_of_ble_eq_true rfl) ?_
  rw [f_Mod_faultOf] at h
  refine X.iload_3 (pc := 0) (by decide +kernel) ?_
  obtain ⟨y2, hr3, h⟩ := bnd1_some h
  have hj4 : X E y_Mod_faultOf b_Mod_faultOf 5 (some .int) tg d 0 0 20 [some (.ref (e_b E + t)), some (.int p1), some (.int p2), none, none] [.int y2] S I L R n (Kq (some (.int v)) S I L R n) := by
    refine X.istore_4 (pc := 20) (by decide +kernel) (by decide) rfl ?_
    refine X.iload_1 (pc := 22) (by decide +kernel) ?_
    refine X.iload_2 (pc := 23) (by decide +kernel) ?_
    rcases ifb_some h with ⟨hq6, h⟩ | ⟨hq6, h⟩
    · refine X.icmp_le_t (pc := 24) (off := 20) (tgt := 44) hq6 rfl (by decide +kernel) ?_
      refine X.iload_4 (pc := 44) (by decide +kernel) ?_
      obtain ⟨y8, hr9, h⟩ := bnd1_some h
      have hj10 : X E y_Mod_faultOf b_Mod_faultOf 5 (some .int) tg d 0 0 59 [none, none, none, none, none] [.int y8] S I L R n (Kq (some (.int v)) S I L R n) := by
        have j0 := Option.some.inj h
        subst j0
        exact X.ireturn (pc := 59) (by decide +kernel) ⟨_, rfl, rfl⟩ ⟨rfl, rfl, rfl, rfl, rfl, rfl⟩
      have h := hr9
      rcases ifb_some h with ⟨hq7, h⟩ | ⟨hq7, h⟩
      · refine X.if_eq_t (pc := 46) (off := 7) (tgt := 53) hq7 rfl (by decide +kernel) ?_
        refine X.iconst (pc := 53) (i := (-1)) (v := (-1)) ic_m1 (by decide +kernel) ?_
        refine X.aload_0 (pc := 54) (by decide +kernel) ?_
        refine X.getI (pc := 55) (k := 18) fw_Mod_162 (by decide +kernel) (fun _ => rfl) hS ?_
        refine X.isub (pc := 58) (by decide +kernel) ?_
        have j0 := Option.some.inj h
        subst j0
        refine X.fgt (o' := [none, none, none, none, none]) trivial ?_
        exact hj10
      · refine X.if_eq_f (pc := 46) (off := 7) (tgt := 53) hq7 rfl (by decide +kernel) ?_
        refine X.iconst (pc := 49) (i := 0) (v := 0) ic_0 (by decide +kernel) ?_
        refine X.goto (pc := 50) (off := 9) (tgt := 59) (by decide +kernel) rfl ?_
        have j0 := Option.some.inj h
        subst j0
        refine X.fgt (o' := [none, none, none, none, none]) trivial ?_
        exact hj10
    · refine X.icmp_le_f (pc := 24) (off := 20) (tgt := 44) hq6 rfl (by decide +kernel) ?_
      refine X.iload_4 (pc := 27) (by decide +kernel) ?_
      rcases ifb_some h with ⟨hq11, h⟩ | ⟨hq11, h⟩
      · refine X.if_ne_f (pc := 29) (off := 11) (tgt := 40) hq11 rfl (by decide +kernel) ?_
        refine X.aload_0 (pc := 32) (by decide +kernel) ?_
        refine X.getI (pc := 33) (k := 18) fw_Mod_162 (by decide +kernel) (fun _ => rfl) hS ?_
        refine X.iload_2 (pc := 36) (by decide +kernel) ?_
        rcases ifb_some h with ⟨hq12, h⟩ | ⟨hq12, h⟩
        · refine X.icmp_lt_t (pc := 37) (off := 7) (tgt := 44) hq12 rfl (by decide +kernel) ?_
          refine X.iload_4 (pc := 44) (by decide +kernel) ?_
          obtain ⟨y14, hr15, h⟩ := bnd1_some h
          have hj16 : X E y_Mod_faultOf b_Mod_faultOf 5 (some .int) tg d 0 0 59 [none, none, none, none, none] [.int y14] S I L R n (Kq (some (.int v)) S I L R n) := by
            have j0 := Option.some.inj h
            subst j0
            exact X.ireturn (pc := 59) (by decide +kernel) ⟨_, rfl, rfl⟩ ⟨rfl, rfl, rfl, rfl, rfl, rfl⟩
          have h := hr15
          rcases ifb_some h with ⟨hq13, h⟩ | ⟨hq13, h⟩
          · refine X.if_eq_t (pc := 46) (off := 7) (tgt := 53) hq13 rfl (by decide +kernel) ?_
            refine X.iconst (pc := 53) (i := (-1)) (v := (-1)) ic_m1 (by decide +kernel) ?_
            refine X.aload_0 (pc := 54) (by decide +kernel) ?_
            refine X.getI (pc := 55) (k := 18) fw_Mod_162 (by decide +kernel) (fun _ => rfl) hS ?_
            refine X.isub (pc := 58) (by decide +kernel) ?_
            have j0 := Option.some.inj h
            subst j0
            refine X.fgt (o' := [none, none, none, none, none]) trivial ?_
            exact hj16
          · refine X.if_eq_f (pc := 46) (off := 7) (tgt := 53) hq13 rfl (by decide +kernel) ?_
            refine X.iconst (pc := 49) (i := 0) (v := 0) ic_0 (by decide +kernel) ?_
            refine X.goto (pc := 50) (off := 9) (tgt := 59) (by decide +kernel) rfl ?_
            have j0 := Option.some.inj h
            subst j0
            refine X.fgt (o' := [none, none, none, none, none]) trivial ?_
            exact hj16
        · refine X.icmp_lt_f (pc := 37) (off := 7) (tgt := 44) hq12 rfl (by decide +kernel) ?_
          refine X.iconst (pc := 40) (i := (-1)) (v := (-1)) ic_m1 (by decide +kernel) ?_
          refine X.iload_2 (pc := 41) (by decide +kernel) ?_
          refine X.isub (pc := 42) (by decide +kernel) ?_
          refine X.nameI (fun x17 hx17 => ?_)
          have h := lt_at hx17 h
          have j0 := Option.some.inj h
          subst j0
          exact X.ireturn (pc := 43) (by decide +kernel) ⟨_, rfl, rfl⟩ ⟨rfl, rfl, rfl, rfl, rfl, rfl⟩
      · refine X.if_ne_t (pc := 29) (off := 11) (tgt := 40) hq11 rfl (by decide +kernel) ?_
        refine X.iconst (pc := 40) (i := (-1)) (v := (-1)) ic_m1 (by decide +kernel) ?_
        refine X.iload_2 (pc := 41) (by decide +kernel) ?_
        refine X.isub (pc := 42) (by decide +kernel) ?_
        refine X.nameI (fun x18 hx18 => ?_)
        have h := lt_at hx18 h
        have j0 := Option.some.inj h
        subst j0
        exact X.ireturn (pc := 43) (by decide +kernel) ⟨_, rfl, rfl⟩ ⟨rfl, rfl, rfl, rfl, rfl, rfl⟩
  have h := hr3
  rcases ifb_some h with ⟨hq1, h⟩ | ⟨hq1, h⟩
  · refine X.if_eq_t (pc := 1) (off := 18) (tgt := 19) hq1 rfl (by decide +kernel) ?_
    refine X.iconst (pc := 19) (i := 0) (v := 0) ic_0 (by decide +kernel) ?_
    have j0 := Option.some.inj h
    subst j0
    refine X.fgt (o' := [some (.ref (e_b E + t)), some (.int p1), some (.int p2), none, none]) ⟨rfl, ⟨rfl, ⟨rfl, trivial⟩⟩⟩ ?_
    exact hj4
  · refine X.if_eq_f (pc := 1) (off := 18) (tgt := 19) hq1 rfl (by decide +kernel) ?_
    refine X.aload_0 (pc := 4) (by decide +kernel) ?_
    refine X.getI (pc := 5) (k := 18) fw_Mod_162 (by decide +kernel) (fun _ => rfl) hS ?_
    refine X.aload_0 (pc := 8) (by decide +kernel) ?_
    refine X.getI (pc := 9) (k := 19) fw_Mod_169 (by decide +kernel) (fun _ => rfl) hS ?_
    rcases ifb_some h with ⟨hq5, h⟩ | ⟨hq5, h⟩
    · refine X.icmp_ne_f (pc := 12) (off := 7) (tgt := 19) hq5 rfl (by decide +kernel) ?_
      refine X.iconst (pc := 15) (i := 1) (v := 1) ic_1 (by decide +kernel) ?_
      refine X.goto (pc := 16) (off := 4) (tgt := 20) (by decide +kernel) rfl ?_
      have j0 := Option.some.inj h
      subst j0
      refine X.fgt (o' := [some (.ref (e_b E + t)), some (.int p1), some (.int p2), none, none]) ⟨rfl, ⟨rfl, ⟨rfl, trivial⟩⟩⟩ ?_
      exact hj4
    · refine X.icmp_ne_t (pc := 12) (off := 7) (tgt := 19) hq5 rfl (by decide +kernel) ?_
      refine X.iconst (pc := 19) (i := 0) (v := 0) ic_0 (by decide +kernel) ?_
      have j0 := Option.some.inj h
      subst j0
      refine X.fgt (o' := [some (.ref (e_b E + t)), some (.int p1), some (.int p2), none, none]) ⟨rfl, ⟨rfl, ⟨rfl, trivial⟩⟩⟩ ?_
      exact hj4
set_option maxRecDepth 100000 in
noncomputable def l_Mod_fee_14 (S : MS) (R : MR) (v0 : Nat) (v1 : Int32) : Nat → MI → Int32 → Option MI
  | 0, _, _ => none
  | f + 1, I, v2 =>
    ifb (5 ≤ v2)
      (some I)
      (bnd1 (R v0 22) fun b6 =>
      asrt ((S b6).1 = 20) <|
      asrt (vp_in v2 (S b6).2) <|
      lt (wI I b6 (Int32.toNatClampNeg v2) 0) fun (I9 : MI) =>
      l_Mod_fee_14 S R v0 v1 f I9 (v2 + 1))
set_option maxRecDepth 100000 in
set_option maxHeartbeats 4000000 in
theorem xl_Mod_fee_14 {E : Env} (hE : OKE E) {tg : Bool} {d : Nat} (hd : 6 ≤ d) {S : MS} {L : ML} {R : MR} {n : Nat} {v0 : Nat} {v1 : Int32} {K : KT} :
    ∀ {f : Nat} {I : MI} {v2 : Int32} {I' : MI}, (S v0).1 = 12 → l_Mod_fee_14 S R v0 v1 f I v2 = some I' → X E y_Mod_fee b_Mod_fee 6 (some .int) tg d 0 0 32 [some (.ref (e_b E + v0)), some (.int v1), none, none, none, none] [] S I' L R n K → X E y_Mod_fee b_Mod_fee 6 (some .int) tg d 0 0 14 [some (.ref (e_b E + v0)), some (.int v1), some (.int v2), none, none, none] [] S I L R n K := by
  intro f
  induction f with
  | zero =>
    intro I v2 I' hS h hk
    rw [l_Mod_fee_14] at h
    cases h
  | succ f ih =>
    intro I v2 I' hS h hk
    rw [l_Mod_fee_14] at h
    refine X.iload_2 (pc := 14) (by decide +kernel) ?_
    refine X.iconst (pc := 15) (i := 5) (v := 5) ic_5 (by decide +kernel) ?_
    rcases ifb_some h with ⟨hq5, h⟩ | ⟨hq5, h⟩
    · refine X.icmp_ge_t (pc := 16) (off := 16) (tgt := 32) hq5 rfl (by decide +kernel) ?_
      have j0 := Option.some.inj h
      subst j0
      refine X.fgt (o' := [some (.ref (e_b E + v0)), some (.int v1), none, none, none, none]) ⟨rfl, ⟨rfl, trivial⟩⟩ ?_
      exact hk
    · refine X.icmp_ge_f (pc := 16) (off := 16) (tgt := 32) hq5 rfl (by decide +kernel) ?_
      refine X.aload_0 (pc := 19) (by decide +kernel) ?_
      obtain ⟨b6, hb6, h⟩ := bnd1_some h
      refine X.getR (pc := 20) (k := 22) fw_Mod_68 (by decide +kernel) (fun _ => rfl) hS hb6 ?_
      refine X.iload_2 (pc := 23) (by decide +kernel) ?_
      refine X.iconst (pc := 24) (i := 0) (v := 0) ic_0 (by decide +kernel) ?_
      obtain ⟨hc7, h⟩ := asrt_some h
      obtain ⟨hi8, h⟩ := asrt_some h
      refine X.iastore (pc := 25) (by decide +kernel) hc7 hi8 ?_
      refine X.nameMI (fun I9 hI9 => ?_)
      have h := lt_at hI9 h
      refine X.iinc_2 (pc := 26) (z := 1) (v := 1) ic_1 (by decide +kernel) (by decide) rfl ?_
      refine X.goto (pc := 29) (off := (-15)) (tgt := 14) (by decide +kernel) rfl ?_
      exact ih hS h hk
set_option maxRecDepth 100000 in
noncomputable def l_Mod_fee_60 (g : Nat) (S : MS) (R : MR) (v0 : Nat) (v1 : Int32) : Nat → MI → Int32 → Int32 → Option (Int32 × MI)
  | 0, _, _, _ => none
  | f + 1, I, v2, v3 =>
    ifb (v2 = 0)
      (some (v2, I))
      (ifb (v3 = 0)
        (some (v2, I))
        (bnd2 (f_Mod_takes S R I v0 43) fun x27 I28 =>
        bnd2 (ifb (x27 = 0)
            (bnd2 (f_Mod_takes S R I28 v0 45) fun x35 I36 =>
            ifb (x35 = 0)
              (some (0, I36))
              (some (1, I36)))
            (some (1, I28))) fun (y31 : Int32) (I32 : MI) =>
        bnd2 (ifb (y31 = 0)
            (some (1, I32))
            (bnd1 (ifb (x27 = 0)
                (some (-1))
                (some 1)) fun (y45 : Int32) =>
            bnd2 (f_Mod_readsThing g S R I32 v0 y45) fun x48 I49 =>
            ifb (x48 = 0)
              (some (0, I49))
              (some (1, I49)))) fun (y40 : Int32) (I41 : MI) =>
        l_Mod_fee_60 g S R v0 v1 f I41 y40 y31))
set_option maxRecDepth 100000 in
set_option maxHeartbeats 4000000 in
theorem xl_Mod_fee_60 {E : Env} (hE : OKE E) {tg : Bool} {d : Nat} (hd : 6 ≤ d) {g : Nat} {S : MS} {L : ML} {R : MR} {n : Nat} {v0 : Nat} {v1 : Int32} {K : KT} :
    ∀ {f : Nat} {I : MI} {v2 : Int32} {v3 : Int32} {o2 : Int32} {I' : MI}, (S v0).1 = 12 → l_Mod_fee_60 g S R v0 v1 f I v2 v3 = some (o2, I') → X E y_Mod_fee b_Mod_fee 6 (some .int) tg d 0 0 126 [some (.ref (e_b E + v0)), some (.int v1), some (.int o2), none, none, none] [] S I' L R n K → X E y_Mod_fee b_Mod_fee 6 (some .int) tg d 0 0 60 [some (.ref (e_b E + v0)), some (.int v1), some (.int v2), some (.int v3), none, none] [] S I L R n K := by
  intro f
  induction f with
  | zero =>
    intro I v2 v3 o2 I' hS h hk
    rw [l_Mod_fee_60] at h
    cases h
  | succ f ih =>
    intro I v2 v3 o2 I' hS h hk
    rw [l_Mod_fee_60] at h
    refine X.iload_2 (pc := 60) (by decide +kernel) ?_
    rcases ifb_some h with ⟨hq25, h⟩ | ⟨hq25, h⟩
    · refine X.if_eq_t (pc := 61) (off := 65) (tgt := 126) hq25 rfl (by decide +kernel) ?_
      have j0 := Option.some.inj h
      obtain ⟨i0, j1⟩ := Prod.mk.inj j0
      subst i0
      subst j1
      refine X.fgt (o' := [some (.ref (e_b E + v0)), some (.int v1), some (.int v2), none, none, none]) ⟨rfl, ⟨rfl, ⟨rfl, trivial⟩⟩⟩ ?_
      exact hk
    · refine X.if_eq_f (pc := 61) (off := 65) (tgt := 126) hq25 rfl (by decide +kernel) ?_
      refine X.iload_3 (pc := 64) (by decide +kernel) ?_
      rcases ifb_some h with ⟨hq26, h⟩ | ⟨hq26, h⟩
      · refine X.if_eq_t (pc := 65) (off := 61) (tgt := 126) hq26 rfl (by decide +kernel) ?_
        have j0 := Option.some.inj h
        obtain ⟨i0, j1⟩ := Prod.mk.inj j0
        subst i0
        subst j1
        refine X.fgt (o' := [some (.ref (e_b E + v0)), some (.int v1), some (.int v2), none, none, none]) ⟨rfl, ⟨rfl, ⟨rfl, trivial⟩⟩⟩ ?_
        exact hk
      · refine X.if_eq_f (pc := 65) (off := 61) (tgt := 126) hq26 rfl (by decide +kernel) ?_
        refine X.aload_0 (pc := 68) (by decide +kernel) ?_
        refine X.bipush (pc := 69) (i := 43) (v := 43) bp_43 (by decide +kernel) ?_
        obtain ⟨x27, I28, hv29, h⟩ := bnd2_some h
        refine X.callVi (pc := 71) (nc := 0) (ns := 0) (c_Mod_takes hE (dle hd (Nat.le_of_ble_eq_true rfl)) hS hv29) cv_Mod_191 (by decide +kernel) hS ⟨by decide, rfl⟩ (ddd hd (Nat.le_of_ble_eq_true rfl)) rfl (Nat.le_of_ble_eq_true rfl) rfl rfl ?_
        refine X.istore_4 (pc := 74) (by decide +kernel) (by decide) rfl ?_
        refine X.iload_4 (pc := 76) (by decide +kernel) ?_
        obtain ⟨y31, I32, hr33, h⟩ := bnd2_some h
        have hj34 : X E y_Mod_fee b_Mod_fee 6 (some .int) tg d 0 0 95 [some (.ref (e_b E + v0)), some (.int v1), none, none, some (.int x27), none] [.int y31] S I32 L R n K := by
          refine X.istore_3 (pc := 95) (by decide +kernel) (by decide) rfl ?_
          refine X.iload_3 (pc := 96) (by decide +kernel) ?_
          obtain ⟨y40, I41, hr42, h⟩ := bnd2_some h
          have hj43 : X E y_Mod_fee b_Mod_fee 6 (some .int) tg d 0 0 122 [some (.ref (e_b E + v0)), some (.int v1), none, some (.int y31), none, none] [.int y40] S I41 L R n K := by
            refine X.istore_2 (pc := 122) (by decide +kernel) (by decide) rfl ?_
            refine X.goto (pc := 123) (off := (-63)) (tgt := 60) (by decide +kernel) rfl ?_
            exact ih hS h hk
          have h := hr42
          rcases ifb_some h with ⟨hq39, h⟩ | ⟨hq39, h⟩
          · refine X.if_eq_t (pc := 97) (off := 20) (tgt := 117) hq39 rfl (by decide +kernel) ?_
            refine X.iconst (pc := 117) (i := 1) (v := 1) ic_1 (by decide +kernel) ?_
            refine X.goto (pc := 118) (off := 4) (tgt := 122) (by decide +kernel) rfl ?_
            have j0 := Option.some.inj h
            obtain ⟨i0, j1⟩ := Prod.mk.inj j0
            subst i0
            subst j1
            refine X.fgt (o' := [some (.ref (e_b E + v0)), some (.int v1), none, some (.int y31), none, none]) ⟨rfl, ⟨rfl, ⟨rfl, trivial⟩⟩⟩ ?_
            exact hj43
          · refine X.if_eq_f (pc := 97) (off := 20) (tgt := 117) hq39 rfl (by decide +kernel) ?_
            refine X.aload_0 (pc := 100) (by decide +kernel) ?_
            refine X.iload_4 (pc := 101) (by decide +kernel) ?_
            obtain ⟨y45, hr46, h⟩ := bnd1_some h
            have hj47 : X E y_Mod_fee b_Mod_fee 6 (some .int) tg d 0 0 111 [some (.ref (e_b E + v0)), some (.int v1), none, some (.int y31), none, none] [.int y45, .ref (e_b E + v0)] S I32 L R n K := by
              obtain ⟨x48, I49, hv50, h⟩ := bnd2_some h
              refine X.callVi (pc := 111) (nc := 0) (ns := 0) (c_Mod_readsThing hE (dle hd (Nat.le_of_ble_eq_true rfl)) hS hv50) cv_Mod_229 (by decide +kernel) hS ⟨by decide, rfl⟩ (ddd hd (Nat.le_of_ble_eq_true rfl)) rfl (Nat.le_of_ble_eq_true rfl) rfl rfl ?_
              rcases ifb_some h with ⟨hq51, h⟩ | ⟨hq51, h⟩
              · refine X.if_eq_t (pc := 114) (off := 7) (tgt := 121) hq51 rfl (by decide +kernel) ?_
                refine X.iconst (pc := 121) (i := 0) (v := 0) ic_0 (by decide +kernel) ?_
                have j0 := Option.some.inj h
                obtain ⟨i0, j1⟩ := Prod.mk.inj j0
                subst i0
                subst j1
                exact hj43
              · refine X.if_eq_f (pc := 114) (off := 7) (tgt := 121) hq51 rfl (by decide +kernel) ?_
                refine X.iconst (pc := 117) (i := 1) (v := 1) ic_1 (by decide +kernel) ?_
                refine X.goto (pc := 118) (off := 4) (tgt := 122) (by decide +kernel) rfl ?_
                have j0 := Option.some.inj h
                obtain ⟨i0, j1⟩ := Prod.mk.inj j0
                subst i0
                subst j1
                exact hj43
            have h := hr46
            rcases ifb_some h with ⟨hq44, h⟩ | ⟨hq44, h⟩
            · refine X.if_eq_t (pc := 103) (off := 7) (tgt := 110) hq44 rfl (by decide +kernel) ?_
              refine X.iconst (pc := 110) (i := (-1)) (v := (-1)) ic_m1 (by decide +kernel) ?_
              have j0 := Option.some.inj h
              subst j0
              refine X.fgt (o' := [some (.ref (e_b E + v0)), some (.int v1), none, some (.int y31), none, none]) ⟨rfl, ⟨rfl, ⟨rfl, trivial⟩⟩⟩ ?_
              exact hj47
            · refine X.if_eq_f (pc := 103) (off := 7) (tgt := 110) hq44 rfl (by decide +kernel) ?_
              refine X.iconst (pc := 106) (i := 1) (v := 1) ic_1 (by decide +kernel) ?_
              refine X.goto (pc := 107) (off := 4) (tgt := 111) (by decide +kernel) rfl ?_
              have j0 := Option.some.inj h
              subst j0
              refine X.fgt (o' := [some (.ref (e_b E + v0)), some (.int v1), none, some (.int y31), none, none]) ⟨rfl, ⟨rfl, ⟨rfl, trivial⟩⟩⟩ ?_
              exact hj47
        have h := hr33
        rcases ifb_some h with ⟨hq30, h⟩ | ⟨hq30, h⟩
        · refine X.if_ne_f (pc := 78) (off := 12) (tgt := 90) hq30 rfl (by decide +kernel) ?_
          refine X.aload_0 (pc := 81) (by decide +kernel) ?_
          refine X.bipush (pc := 82) (i := 45) (v := 45) bp_45 (by decide +kernel) ?_
          obtain ⟨x35, I36, hv37, h⟩ := bnd2_some h
          refine X.callVi (pc := 84) (nc := 0) (ns := 0) (c_Mod_takes hE (dle hd (Nat.le_of_ble_eq_true rfl)) hS hv37) cv_Mod_191 (by decide +kernel) hS ⟨by decide, rfl⟩ (ddd hd (Nat.le_of_ble_eq_true rfl)) rfl (Nat.le_of_ble_eq_true rfl) rfl rfl ?_
          rcases ifb_some h with ⟨hq38, h⟩ | ⟨hq38, h⟩
          · refine X.if_eq_t (pc := 87) (off := 7) (tgt := 94) hq38 rfl (by decide +kernel) ?_
            refine X.iconst (pc := 94) (i := 0) (v := 0) ic_0 (by decide +kernel) ?_
            have j0 := Option.some.inj h
            obtain ⟨i0, j1⟩ := Prod.mk.inj j0
            subst i0
            subst j1
            refine X.fgt (o' := [some (.ref (e_b E + v0)), some (.int v1), none, none, some (.int x27), none]) ⟨rfl, ⟨rfl, ⟨rfl, trivial⟩⟩⟩ ?_
            exact hj34
          · refine X.if_eq_f (pc := 87) (off := 7) (tgt := 94) hq38 rfl (by decide +kernel) ?_
            refine X.iconst (pc := 90) (i := 1) (v := 1) ic_1 (by decide +kernel) ?_
            refine X.goto (pc := 91) (off := 4) (tgt := 95) (by decide +kernel) rfl ?_
            have j0 := Option.some.inj h
            obtain ⟨i0, j1⟩ := Prod.mk.inj j0
            subst i0
            subst j1
            refine X.fgt (o' := [some (.ref (e_b E + v0)), some (.int v1), none, none, some (.int x27), none]) ⟨rfl, ⟨rfl, ⟨rfl, trivial⟩⟩⟩ ?_
            exact hj34
        · refine X.if_ne_t (pc := 78) (off := 12) (tgt := 90) hq30 rfl (by decide +kernel) ?_
          refine X.iconst (pc := 90) (i := 1) (v := 1) ic_1 (by decide +kernel) ?_
          refine X.goto (pc := 91) (off := 4) (tgt := 95) (by decide +kernel) rfl ?_
          have j0 := Option.some.inj h
          obtain ⟨i0, j1⟩ := Prod.mk.inj j0
          subst i0
          subst j1
          refine X.fgt (o' := [some (.ref (e_b E + v0)), some (.int v1), none, none, some (.int x27), none]) ⟨rfl, ⟨rfl, ⟨rfl, trivial⟩⟩⟩ ?_
          exact hj34
set_option maxRecDepth 100000 in
noncomputable def l_Mod_fee_147 (S : MS) (R : MR) (v0 : Nat) : Nat → MI → Int32 → Option MI
  | 0, _, _ => none
  | f + 1, I, v5 =>
    ifb (5 ≤ v5)
      (some I)
      (bnd1 (R v0 21) fun b59 =>
      bnd1 (R v0 22) fun b60 =>
      asrt ((S b60).1 = 20) <|
      asrt (vp_in v5 (S b60).2) <|
      lt (I b60 (Int32.toNatClampNeg v5)) fun (x63 : Int32) =>
      asrt ((S b59).1 = 20) <|
      asrt (vp_in v5 (S b59).2) <|
      lt (wI I b59 (Int32.toNatClampNeg v5) x63) fun (I66 : MI) =>
      l_Mod_fee_147 S R v0 f I66 (v5 + 1))
set_option maxRecDepth 100000 in
set_option maxHeartbeats 4000000 in
theorem xl_Mod_fee_147 {E : Env} (hE : OKE E) {tg : Bool} {d : Nat} (hd : 6 ≤ d) {S : MS} {L : ML} {R : MR} {n : Nat} {v0 : Nat} {K : KT} :
    ∀ {f : Nat} {I : MI} {v5 : Int32} {I' : MI}, (S v0).1 = 12 → l_Mod_fee_147 S R v0 f I v5 = some I' → X E y_Mod_fee b_Mod_fee 6 (some .int) tg d 0 0 173 [none, none, none, none, none, none] [] S I' L R n K → X E y_Mod_fee b_Mod_fee 6 (some .int) tg d 0 0 147 [some (.ref (e_b E + v0)), none, none, none, none, some (.int v5)] [] S I L R n K := by
  intro f
  induction f with
  | zero =>
    intro I v5 I' hS h hk
    rw [l_Mod_fee_147] at h
    cases h
  | succ f ih =>
    intro I v5 I' hS h hk
    rw [l_Mod_fee_147] at h
    refine X.iload_5 (pc := 147) (by decide +kernel) ?_
    refine X.iconst (pc := 149) (i := 5) (v := 5) ic_5 (by decide +kernel) ?_
    rcases ifb_some h with ⟨hq58, h⟩ | ⟨hq58, h⟩
    · refine X.icmp_ge_t (pc := 150) (off := 23) (tgt := 173) hq58 rfl (by decide +kernel) ?_
      have j0 := Option.some.inj h
      subst j0
      refine X.fgt (o' := [none, none, none, none, none, none]) trivial ?_
      exact hk
    · refine X.icmp_ge_f (pc := 150) (off := 23) (tgt := 173) hq58 rfl (by decide +kernel) ?_
      refine X.aload_0 (pc := 153) (by decide +kernel) ?_
      obtain ⟨b59, hb59, h⟩ := bnd1_some h
      refine X.getR (pc := 154) (k := 21) fw_Mod_65 (by decide +kernel) (fun _ => rfl) hS hb59 ?_
      refine X.iload_5 (pc := 157) (by decide +kernel) ?_
      refine X.aload_0 (pc := 159) (by decide +kernel) ?_
      obtain ⟨b60, hb60, h⟩ := bnd1_some h
      refine X.getR (pc := 160) (k := 22) fw_Mod_68 (by decide +kernel) (fun _ => rfl) hS hb60 ?_
      refine X.iload_5 (pc := 163) (by decide +kernel) ?_
      obtain ⟨hc62, h⟩ := asrt_some h
      obtain ⟨hi61, h⟩ := asrt_some h
      refine X.iaload (pc := 165) (by decide +kernel) hc62 hi61 ?_
      refine X.nameI (fun x63 hx63 => ?_)
      have h := lt_at hx63 h
      obtain ⟨hc64, h⟩ := asrt_some h
      obtain ⟨hi65, h⟩ := asrt_some h
      refine X.iastore (pc := 166) (by decide +kernel) hc64 hi65 ?_
      refine X.nameMI (fun I66 hI66 => ?_)
      have h := lt_at hI66 h
      refine X.iinc_5 (pc := 167) (z := 1) (v := 1) ic_1 (by decide +kernel) (by decide) rfl ?_
      refine X.goto (pc := 170) (off := (-23)) (tgt := 147) (by decide +kernel) rfl ?_
      exact ih hS h hk
set_option maxRecDepth 100000 in
noncomputable def f_Mod_fee (g : Nat) (S : MS) (R : MR) (I : MI) (t : Nat) : Option (Int32 × MI) :=
  lt (wI I t 0 0) fun (I1 : MI) =>
  bnd2 (f_Mod_begins_I S I1 t 30) fun x2 I3 =>
  bnd1 (l_Mod_fee_14 S R t x2 g I3 0) fun I10 =>
  bnd2 (ifb (x2 = 0)
      (some (1, I10))
      (bnd2 (f_Mod_readsThing g S R I10 t 1) fun x17 I18 =>
      ifb (x17 = 0)
        (some (0, I18))
        (some (1, I18)))) fun (y13 : Int32) (I14 : MI) =>
  bnd1 (ifb (x2 ≤ 0)
      (some 0)
      (some 1)) fun (y22 : Int32) =>
  bnd2 (l_Mod_fee_60 g S R t x2 g I14 y13 y22) fun x52 I53 =>
  bnd1 (f_Mod_faultOf S I53 t x2 30 x52) fun x55 =>
  ifb (0 ≤ x55)
    (bnd1 (l_Mod_fee_147 S R t g I53 0) fun I67 =>
    some (0, I67))
    (some (x55, I53))
set_option maxRecDepth 100000 in
set_option maxHeartbeats 4000000 in
theorem c_Mod_fee {E : Env} (hE : OKE E) {tg : Bool} {d : Nat} (hd : 6 ≤ d) {g : Nat} {S : MS} {I : MI} {L : ML} {R : MR} {n : Nat} {t : Nat} {v : Int32} {I' : MI} (hS : (S t).1 = 12) (h : f_Mod_fee g S R I t = some (v, I')) : C E y_Mod_fee b_Mod_fee 6 (some .int) tg d 0 0 [.ref (e_b E + t)] S I L R n (Kq (some (.int v)) S I' L R n) := by
  refine C.of (o := [some (.ref (e_b E + t)), none, none, none, none, none]) (by decide) rfl (Nat.le_of_ble_eq_true rfl) ?_
  rw [f_Mod_fee] at h
  refine X.aload_0 (pc := 0) (by decide +kernel) ?_
  refine X.iconst (pc := 1) (i := 0) (v := 0) ic_0 (by decide +kernel) ?_
  refine X.putI (pc := 2) (k := 0) fw_Mod_3 (by decide +kernel) rfl rfl hS ?_
  refine X.nameMI (fun I1 hI1 => ?_)
  have h := lt_at hI1 h
  refine X.aload_0 (pc := 5) (by decide +kernel) ?_
  refine X.bipush (pc := 6) (i := 30) (v := 30) bp_30 (by decide +kernel) ?_
  obtain ⟨x2, I3, hv4, h⟩ := bnd2_some h
  refine X.callVi (pc := 8) (nc := 0) (ns := 0) (c_Mod_begins_I hE (dle hd (Nat.le_of_ble_eq_true rfl)) hS hv4) cv_Mod_181 (by decide +kernel) hS ⟨by decide, rfl⟩ (ddd hd (Nat.le_of_ble_eq_true rfl)) rfl (Nat.le_of_ble_eq_true rfl) rfl rfl ?_
  refine X.istore_1 (pc := 11) (by decide +kernel) (by decide) rfl ?_
  refine X.iconst (pc := 12) (i := 0) (v := 0) ic_0 (by decide +kernel) ?_
  refine X.istore_2 (pc := 13) (by decide +kernel) (by decide) rfl ?_
  obtain ⟨I10, hv11, h⟩ := bnd1_some h
  refine xl_Mod_fee_14 hE hd hS hv11 ?_
  refine X.iload_1 (pc := 32) (by decide +kernel) ?_
  obtain ⟨y13, I14, hr15, h⟩ := bnd2_some h
  have hj16 : X E y_Mod_fee b_Mod_fee 6 (some .int) tg d 0 0 49 [some (.ref (e_b E + t)), some (.int x2), none, none, none, none] [.int y13] S I14 L R n (Kq (some (.int v)) S I' L R n) := by
    refine X.istore_2 (pc := 49) (by decide +kernel) (by decide) rfl ?_
    refine X.iload_1 (pc := 50) (by decide +kernel) ?_
    obtain ⟨y22, hr23, h⟩ := bnd1_some h
    have hj24 : X E y_Mod_fee b_Mod_fee 6 (some .int) tg d 0 0 59 [some (.ref (e_b E + t)), some (.int x2), some (.int y13), none, none, none] [.int y22] S I14 L R n (Kq (some (.int v)) S I' L R n) := by
      refine X.istore_3 (pc := 59) (by decide +kernel) (by decide) rfl ?_
      obtain ⟨x52, I53, hv54, h⟩ := bnd2_some h
      refine xl_Mod_fee_60 hE hd hS hv54 ?_
      refine X.aload_0 (pc := 126) (by decide +kernel) ?_
      refine X.iload_1 (pc := 127) (by decide +kernel) ?_
      refine X.bipush (pc := 128) (i := 30) (v := 30) bp_30 (by decide +kernel) ?_
      refine X.iload_2 (pc := 130) (by decide +kernel) ?_
      obtain ⟨x55, hv56, h⟩ := bnd1_some h
      refine X.callVi (pc := 131) (nc := 0) (ns := 0) (c_Mod_faultOf hE (dle hd (Nat.le_of_ble_eq_true rfl)) hS hv56) cv_Mod_232 (by decide +kernel) hS ⟨by decide, rfl⟩ (ddd hd (Nat.le_of_ble_eq_true rfl)) rfl (Nat.le_of_ble_eq_true rfl) rfl rfl ?_
      refine X.istore_4 (pc := 134) (by decide +kernel) (by decide) rfl ?_
      refine X.iload_4 (pc := 136) (by decide +kernel) ?_
      rcases ifb_some h with ⟨hq57, h⟩ | ⟨hq57, h⟩
      · refine X.if_ge_t (pc := 138) (off := 6) (tgt := 144) hq57 rfl (by decide +kernel) ?_
        refine X.iconst (pc := 144) (i := 0) (v := 0) ic_0 (by decide +kernel) ?_
        refine X.istore_5 (pc := 145) (by decide +kernel) (by decide) rfl ?_
        obtain ⟨I67, hv68, h⟩ := bnd1_some h
        refine X.fgt (o' := [some (.ref (e_b E + t)), none, none, none, none, some (.int 0)]) ⟨rfl, ⟨rfl, trivial⟩⟩ ?_
        refine xl_Mod_fee_147 hE hd hS hv68 ?_
        refine X.iconst (pc := 173) (i := 0) (v := 0) ic_0 (by decide +kernel) ?_
        have j0 := Option.some.inj h
        obtain ⟨i0, j1⟩ := Prod.mk.inj j0
        subst i0
        subst j1
        exact X.ireturn (pc := 174) (by decide +kernel) ⟨_, rfl, rfl⟩ ⟨rfl, rfl, rfl, rfl, rfl, rfl⟩
      · refine X.if_ge_f (pc := 138) (off := 6) (tgt := 144) hq57 rfl (by decide +kernel) ?_
        refine X.iload_4 (pc := 141) (by decide +kernel) ?_
        have j0 := Option.some.inj h
        obtain ⟨i0, j1⟩ := Prod.mk.inj j0
        subst i0
        subst j1
        exact X.ireturn (pc := 143) (by decide +kernel) ⟨_, rfl, rfl⟩ ⟨rfl, rfl, rfl, rfl, rfl, rfl⟩
    have h := hr23
    rcases ifb_some h with ⟨hq21, h⟩ | ⟨hq21, h⟩
    · refine X.if_le_t (pc := 51) (off := 7) (tgt := 58) hq21 rfl (by decide +kernel) ?_
      refine X.iconst (pc := 58) (i := 0) (v := 0) ic_0 (by decide +kernel) ?_
      have j0 := Option.some.inj h
      subst j0
      exact hj24
    · refine X.if_le_f (pc := 51) (off := 7) (tgt := 58) hq21 rfl (by decide +kernel) ?_
      refine X.iconst (pc := 54) (i := 1) (v := 1) ic_1 (by decide +kernel) ?_
      refine X.goto (pc := 55) (off := 4) (tgt := 59) (by decide +kernel) rfl ?_
      have j0 := Option.some.inj h
      subst j0
      exact hj24
  have h := hr15
  rcases ifb_some h with ⟨hq12, h⟩ | ⟨hq12, h⟩
  · refine X.if_eq_t (pc := 33) (off := 11) (tgt := 44) hq12 rfl (by decide +kernel) ?_
    refine X.iconst (pc := 44) (i := 1) (v := 1) ic_1 (by decide +kernel) ?_
    refine X.goto (pc := 45) (off := 4) (tgt := 49) (by decide +kernel) rfl ?_
    have j0 := Option.some.inj h
    obtain ⟨i0, j1⟩ := Prod.mk.inj j0
    subst i0
    subst j1
    exact hj16
  · refine X.if_eq_f (pc := 33) (off := 11) (tgt := 44) hq12 rfl (by decide +kernel) ?_
    refine X.aload_0 (pc := 36) (by decide +kernel) ?_
    refine X.iconst (pc := 37) (i := 1) (v := 1) ic_1 (by decide +kernel) ?_
    obtain ⟨x17, I18, hv19, h⟩ := bnd2_some h
    refine X.callVi (pc := 38) (nc := 0) (ns := 0) (c_Mod_readsThing hE (dle hd (Nat.le_of_ble_eq_true rfl)) hS hv19) cv_Mod_229 (by decide +kernel) hS ⟨by decide, rfl⟩ (ddd hd (Nat.le_of_ble_eq_true rfl)) rfl (Nat.le_of_ble_eq_true rfl) rfl rfl ?_
    rcases ifb_some h with ⟨hq20, h⟩ | ⟨hq20, h⟩
    · refine X.if_eq_t (pc := 41) (off := 7) (tgt := 48) hq20 rfl (by decide +kernel) ?_
      refine X.iconst (pc := 48) (i := 0) (v := 0) ic_0 (by decide +kernel) ?_
      have j0 := Option.some.inj h
      obtain ⟨i0, j1⟩ := Prod.mk.inj j0
      subst i0
      subst j1
      exact hj16
    · refine X.if_eq_f (pc := 41) (off := 7) (tgt := 48) hq20 rfl (by decide +kernel) ?_
      refine X.iconst (pc := 44) (i := 1) (v := 1) ic_1 (by decide +kernel) ?_
      refine X.goto (pc := 45) (off := 4) (tgt := 49) (by decide +kernel) rfl ?_
      have j0 := Option.some.inj h
      obtain ⟨i0, j1⟩ := Prod.mk.inj j0
      subst i0
      subst j1
      exact hj16
set_option maxRecDepth 100000 in
noncomputable def f_Mod_cells (S : MS) (I : MI) (t : Nat) : Option Int32 :=
  lt ((I t 3) * (I t 4)) fun (x1 : Int32) =>
  some x1
set_option maxRecDepth 100000 in
set_option maxHeartbeats 4000000 in
theorem c_Mod_cells {E : Env} (hE : OKE E) {tg : Bool} {d : Nat} (hd : 0 ≤ d) {S : MS} {I : MI} {L : ML} {R : MR} {n : Nat} {t : Nat} {v : Int32} (hS : (S t).1 = 12) (h : f_Mod_cells S I t = some v) : C E y_Mod_cells b_Mod_cells 1 (some .int) tg d 0 0 [.ref (e_b E + t)] S I L R n (Kq (some (.int v)) S I L R n) := by
  refine C.of (o := [some (.ref (e_b E + t))]) (by decide) rfl (Nat.le_of_ble_eq_true rfl) ?_
  rw [f_Mod_cells] at h
  refine X.aload_0 (pc := 0) (by decide +kernel) ?_
  refine X.getI (pc := 1) (k := 3) fw_Mod_34 (by decide +kernel) (fun _ => rfl) hS ?_
  refine X.aload_0 (pc := 4) (by decide +kernel) ?_
  refine X.getI (pc := 5) (k := 4) fw_Mod_37 (by decide +kernel) (fun _ => rfl) hS ?_
  refine X.imul (pc := 8) (by decide +kernel) ?_
  refine X.nameI (fun x1 hx1 => ?_)
  have h := lt_at hx1 h
  have j0 := Option.some.inj h
  subst j0
  exact X.ireturn (pc := 9) (by decide +kernel) ⟨_, rfl, rfl⟩ ⟨rfl, rfl, rfl, rfl, rfl, rfl⟩
set_option maxRecDepth 100000 in
noncomputable def f_Mod_isCell (S : MS) (I : MI) (t : Nat) (p1 : Int32) : Option Int32 :=
  bnd1 (f_Mod_cells S I t) fun x1 =>
  bnd1 (f_Mod_in (Int32.toInt64 p1) 0 (Int32.toInt64 (x1 - 1))) fun x3 =>
  asrt (x3 = 0 ∨ x3 = 1) <|
  some x3
set_option maxRecDepth 100000 in
set_option maxHeartbeats 4000000 in
theorem c_Mod_isCell {E : Env} (hE : OKE E) {tg : Bool} {d : Nat} (hd : 1 ≤ d) {S : MS} {I : MI} {L : ML} {R : MR} {n : Nat} {t : Nat} {p1 : Int32} {v : Int32} (hS : (S t).1 = 12) (h : f_Mod_isCell S I t p1 = some v) : C E y_Mod_isCell b_Mod_isCell 2 (some .boolean) tg d 0 0 [.ref (e_b E + t), .int p1] S I L R n (Kq (some (.int v)) S I L R n) := by
  refine C.of (o := [some (.ref (e_b E + t)), some (.int p1)]) (by decide) rfl (Nat.le_of_ble_eq_true rfl) ?_
  rw [f_Mod_isCell] at h
  refine X.iload_1 (pc := 0) (by decide +kernel) ?_
  refine X.i2l (pc := 1) (by decide +kernel) ?_
  refine X.lconst (pc := 2) (i := 0) (v := 0) rfl (by decide +kernel) ?_
  refine X.aload_0 (pc := 3) (by decide +kernel) ?_
  obtain ⟨x1, hv2, h⟩ := bnd1_some h
  refine X.callVi (pc := 4) (nc := 0) (ns := 0) (c_Mod_cells hE (dle hd (Nat.le_of_ble_eq_true rfl)) hS hv2) cv_Mod_148 (by decide +kernel) hS ⟨by decide, rfl⟩ (ddd hd (Nat.le_of_ble_eq_true rfl)) rfl (Nat.le_of_ble_eq_true rfl) rfl rfl ?_
  refine X.iconst (pc := 7) (i := 1) (v := 1) ic_1 (by decide +kernel) ?_
  refine X.isub (pc := 8) (by decide +kernel) ?_
  refine X.i2l (pc := 9) (by decide +kernel) ?_
  obtain ⟨x3, hv4, h⟩ := bnd1_some h
  refine X.callSi (pc := 10) (nc := 0) (ns := 0) (c_Mod_in hE (dle hd (Nat.le_of_ble_eq_true rfl)) hv4) cv_Mod_151 (by decide +kernel) (ddd hd (Nat.le_of_ble_eq_true rfl)) rfl (Nat.le_of_ble_eq_true rfl) rfl rfl ?_
  obtain ⟨hb5, h⟩ := asrt_some h
  have j0 := Option.some.inj h
  subst j0
  exact X.ireturn (pc := 13) (by decide +kernel) ⟨_, rfl, nz01 hb5⟩ ⟨rfl, rfl, rfl, rfl, rfl, rfl⟩
set_option maxRecDepth 100000 in
noncomputable def f_Mod_cell (S : MS) (R : MR) (I : MI) (t : Nat) (p1 : Int32) : Option (Int32 × MI) :=
  lt (wI I t 0 0) fun (I1 : MI) =>
  bnd1 (f_Mod_isCell S I1 t p1) fun x2 =>
  bnd1 (ifb (x2 = 0)
      (some (-1))
      (bnd1 (R t 5) fun b8 =>
      asrt ((S b8).1 = 20) <|
      asrt (vp_in p1 (S b8).2) <|
      some (I1 b8 (Int32.toNatClampNeg p1)))) fun (y5 : Int32) =>
  some (y5, I1)
set_option maxRecDepth 100000 in
set_option maxHeartbeats 4000000 in
theorem c_Mod_cell {E : Env} (hE : OKE E) {tg : Bool} {d : Nat} (hd : 2 ≤ d) {S : MS} {I : MI} {L : ML} {R : MR} {n : Nat} {t : Nat} {p1 : Int32} {v : Int32} {I' : MI} (hS : (S t).1 = 12) (h : f_Mod_cell S R I t p1 = some (v, I')) : C E y_Mod_cell b_Mod_cell 2 (some .int) tg d 0 0 [.ref (e_b E + t), .int p1] S I L R n (Kq (some (.int v)) S I' L R n) := by
  refine C.of (o := [some (.ref (e_b E + t)), some (.int p1)]) (by decide) rfl (Nat.le_of_ble_eq_true rfl) ?_
  rw [f_Mod_cell] at h
  refine X.aload_0 (pc := 0) (by decide +kernel) ?_
  refine X.iconst (pc := 1) (i := 0) (v := 0) ic_0 (by decide +kernel) ?_
  refine X.putI (pc := 2) (k := 0) fw_Mod_3 (by decide +kernel) rfl rfl hS ?_
  refine X.nameMI (fun I1 hI1 => ?_)
  have h := lt_at hI1 h
  refine X.aload_0 (pc := 5) (by decide +kernel) ?_
  refine X.iload_1 (pc := 6) (by decide +kernel) ?_
  obtain ⟨x2, hv3, h⟩ := bnd1_some h
  refine X.callVi (pc := 7) (nc := 0) (ns := 0) (c_Mod_isCell hE (dle hd (Nat.le_of_ble_eq_true rfl)) hS hv3) cv_Mod_236 (by decide +kernel) hS ⟨by decide, rfl⟩ (ddd hd (Nat.le_of_ble_eq_true rfl)) rfl (Nat.le_of_ble_eq_true rfl) rfl rfl ?_
  obtain ⟨y5, hr6, h⟩ := bnd1_some h
  have hj7 : X E y_Mod_cell b_Mod_cell 2 (some .int) tg d 0 0 23 [none, none] [.int y5] S I1 L R n (Kq (some (.int v)) S I' L R n) := by
    have j0 := Option.some.inj h
    obtain ⟨i0, j1⟩ := Prod.mk.inj j0
    subst i0
    subst j1
    exact X.ireturn (pc := 23) (by decide +kernel) ⟨_, rfl, rfl⟩ ⟨rfl, rfl, rfl, rfl, rfl, rfl⟩
  have h := hr6
  rcases ifb_some h with ⟨hq4, h⟩ | ⟨hq4, h⟩
  · refine X.if_eq_t (pc := 10) (off := 12) (tgt := 22) hq4 rfl (by decide +kernel) ?_
    refine X.iconst (pc := 22) (i := (-1)) (v := (-1)) ic_m1 (by decide +kernel) ?_
    have j0 := Option.some.inj h
    subst j0
    refine X.fgt (o' := [none, none]) trivial ?_
    exact hj7
  · refine X.if_eq_f (pc := 10) (off := 12) (tgt := 22) hq4 rfl (by decide +kernel) ?_
    refine X.aload_0 (pc := 13) (by decide +kernel) ?_
    obtain ⟨b8, hb8, h⟩ := bnd1_some h
    refine X.getR (pc := 14) (k := 5) fw_Mod_40 (by decide +kernel) (fun _ => rfl) hS hb8 ?_
    refine X.iload_1 (pc := 17) (by decide +kernel) ?_
    obtain ⟨hc10, h⟩ := asrt_some h
    obtain ⟨hi9, h⟩ := asrt_some h
    refine X.iaload (pc := 18) (by decide +kernel) hc10 hi9 ?_
    refine X.goto (pc := 19) (off := 4) (tgt := 23) (by decide +kernel) rfl ?_
    have j0 := Option.some.inj h
    subst j0
    refine X.fgt (o' := [none, none]) trivial ?_
    exact hj7
set_option maxRecDepth 100000 in
noncomputable def f_Mod_put (S : MS) (R : MR) (I : MI) (t : Nat) (p1 : Int32) (p2 : Int32) : Option (Int32 × MI) :=
  lt (wI I t 0 0) fun (I1 : MI) =>
  bnd1 (f_Mod_isCell S I1 t p1) fun x2 =>
  ifb (x2 = 0)
    (some ((-1), I1))
    (bnd1 (f_Mod_in (Int32.toInt64 p2) 0 3) fun x5 =>
    ifb (x5 = 0)
      (some ((-1), I1))
      (ifb (p1 = (I1 t 7))
        (some ((-1), I1))
        (bnd1 (R t 5) fun b9 =>
        asrt ((S b9).1 = 20) <|
        asrt (vp_in p1 (S b9).2) <|
        lt (I1 b9 (Int32.toNatClampNeg p1)) fun (x12 : Int32) =>
        asrt (vp_in p1 (S b9).2) <|
        lt (wI I1 b9 (Int32.toNatClampNeg p1) p2) fun (I14 : MI) =>
        lt (wI I14 t 23 0) fun (I15 : MI) =>
        some (x12, I15))))
set_option maxRecDepth 100000 in
set_option maxHeartbeats 4000000 in
theorem c_Mod_put {E : Env} (hE : OKE E) {tg : Bool} {d : Nat} (hd : 2 ≤ d) {S : MS} {I : MI} {L : ML} {R : MR} {n : Nat} {t : Nat} {p1 : Int32} {p2 : Int32} {v : Int32} {I' : MI} (hS : (S t).1 = 12) (h : f_Mod_put S R I t p1 p2 = some (v, I')) : C E y_Mod_put b_Mod_put 4 (some .int) tg d 0 0 [.ref (e_b E + t), .int p1, .int p2] S I L R n (Kq (some (.int v)) S I' L R n) := by
  refine C.of (o := [some (.ref (e_b E + t)), some (.int p1), some (.int p2), none]) (by decide) rfl (Nat.le_of_ble_eq_true rfl) ?_
  rw [f_Mod_put] at h
  refine X.aload_0 (pc := 0) (by decide +kernel) ?_
  refine X.iconst (pc := 1) (i := 0) (v := 0) ic_0 (by decide +kernel) ?_
  refine X.putI (pc := 2) (k := 0) fw_Mod_3 (by decide +kernel) rfl rfl hS ?_
  refine X.nameMI (fun I1 hI1 => ?_)
  have h := lt_at hI1 h
  refine X.aload_0 (pc := 5) (by decide +kernel) ?_
  refine X.iload_1 (pc := 6) (by decide +kernel) ?_
  obtain ⟨x2, hv3, h⟩ := bnd1_some h
  refine X.callVi (pc := 7) (nc := 0) (ns := 0) (c_Mod_isCell hE (dle hd (Nat.le_of_ble_eq_true rfl)) hS hv3) cv_Mod_236 (by decide +kernel) hS ⟨by decide, rfl⟩ (ddd hd (Nat.le_of_ble_eq_true rfl)) rfl (Nat.le_of_ble_eq_true rfl) rfl rfl ?_
  rcases ifb_some h with ⟨hq4, h⟩ | ⟨hq4, h⟩
  · refine X.if_eq_t (pc := 10) (off := 23) (tgt := 33) hq4 rfl (by decide +kernel) ?_
    refine X.iconst (pc := 33) (i := (-1)) (v := (-1)) ic_m1 (by decide +kernel) ?_
    have j0 := Option.some.inj h
    obtain ⟨i0, j1⟩ := Prod.mk.inj j0
    subst i0
    subst j1
    exact X.ireturn (pc := 34) (by decide +kernel) ⟨_, rfl, rfl⟩ ⟨rfl, rfl, rfl, rfl, rfl, rfl⟩
  · refine X.if_eq_f (pc := 10) (off := 23) (tgt := 33) hq4 rfl (by decide +kernel) ?_
    refine X.iload_2 (pc := 13) (by decide +kernel) ?_
    refine X.i2l (pc := 14) (by decide +kernel) ?_
    refine X.lconst (pc := 15) (i := 0) (v := 0) rfl (by decide +kernel) ?_
    refine X.ldc2 (pc := 16) (x := 239) (v := 3) ld_Mod_239 (by decide +kernel) ?_
    obtain ⟨x5, hv6, h⟩ := bnd1_some h
    refine X.callSi (pc := 19) (nc := 0) (ns := 0) (c_Mod_in hE (dle hd (Nat.le_of_ble_eq_true rfl)) hv6) cv_Mod_151 (by decide +kernel) (ddd hd (Nat.le_of_ble_eq_true rfl)) rfl (Nat.le_of_ble_eq_true rfl) rfl rfl ?_
    rcases ifb_some h with ⟨hq7, h⟩ | ⟨hq7, h⟩
    · refine X.if_eq_t (pc := 22) (off := 11) (tgt := 33) hq7 rfl (by decide +kernel) ?_
      refine X.iconst (pc := 33) (i := (-1)) (v := (-1)) ic_m1 (by decide +kernel) ?_
      have j0 := Option.some.inj h
      obtain ⟨i0, j1⟩ := Prod.mk.inj j0
      subst i0
      subst j1
      exact X.ireturn (pc := 34) (by decide +kernel) ⟨_, rfl, rfl⟩ ⟨rfl, rfl, rfl, rfl, rfl, rfl⟩
    · refine X.if_eq_f (pc := 22) (off := 11) (tgt := 33) hq7 rfl (by decide +kernel) ?_
      refine X.iload_1 (pc := 25) (by decide +kernel) ?_
      refine X.aload_0 (pc := 26) (by decide +kernel) ?_
      refine X.getI (pc := 27) (k := 7) fw_Mod_204 (by decide +kernel) (fun _ => rfl) hS ?_
      rcases ifb_some h with ⟨hq8, h⟩ | ⟨hq8, h⟩
      · refine X.icmp_ne_f (pc := 30) (off := 5) (tgt := 35) hq8 rfl (by decide +kernel) ?_
        refine X.iconst (pc := 33) (i := (-1)) (v := (-1)) ic_m1 (by decide +kernel) ?_
        have j0 := Option.some.inj h
        obtain ⟨i0, j1⟩ := Prod.mk.inj j0
        subst i0
        subst j1
        exact X.ireturn (pc := 34) (by decide +kernel) ⟨_, rfl, rfl⟩ ⟨rfl, rfl, rfl, rfl, rfl, rfl⟩
      · refine X.icmp_ne_t (pc := 30) (off := 5) (tgt := 35) hq8 rfl (by decide +kernel) ?_
        refine X.aload_0 (pc := 35) (by decide +kernel) ?_
        obtain ⟨b9, hb9, h⟩ := bnd1_some h
        refine X.getR (pc := 36) (k := 5) fw_Mod_40 (by decide +kernel) (fun _ => rfl) hS hb9 ?_
        refine X.iload_1 (pc := 39) (by decide +kernel) ?_
        obtain ⟨hc11, h⟩ := asrt_some h
        obtain ⟨hi10, h⟩ := asrt_some h
        refine X.iaload (pc := 40) (by decide +kernel) hc11 hi10 ?_
        refine X.nameI (fun x12 hx12 => ?_)
        have h := lt_at hx12 h
        refine X.istore_3 (pc := 41) (by decide +kernel) (by decide) rfl ?_
        refine X.aload_0 (pc := 42) (by decide +kernel) ?_
        refine X.getR (pc := 43) (k := 5) fw_Mod_40 (by decide +kernel) (fun _ => rfl) hS hb9 ?_
        refine X.iload_1 (pc := 46) (by decide +kernel) ?_
        refine X.iload_2 (pc := 47) (by decide +kernel) ?_
        obtain ⟨hi13, h⟩ := asrt_some h
        refine X.iastore (pc := 48) (by decide +kernel) hc11 hi13 ?_
        refine X.nameMI (fun I14 hI14 => ?_)
        have h := lt_at hI14 h
        refine X.aload_0 (pc := 49) (by decide +kernel) ?_
        refine X.iconst (pc := 50) (i := 0) (v := 0) ic_0 (by decide +kernel) ?_
        refine X.putI (pc := 51) (k := 23) fw_Mod_216 (by decide +kernel) rfl rfl hS ?_
        refine X.nameMI (fun I15 hI15 => ?_)
        have h := lt_at hI15 h
        refine X.iload_3 (pc := 54) (by decide +kernel) ?_
        have j0 := Option.some.inj h
        obtain ⟨i0, j1⟩ := Prod.mk.inj j0
        subst i0
        subst j1
        exact X.ireturn (pc := 55) (by decide +kernel) ⟨_, rfl, rfl⟩ ⟨rfl, rfl, rfl, rfl, rfl, rfl⟩
set_option maxRecDepth 100000 in
noncomputable def f_Mod_go (S : MS) (R : MR) (I : MI) (t : Nat) (p1 : Int32) (p2 : Int32) : Option (Int32 × MI) :=
  lt (wI I t 0 0) fun (I1 : MI) =>
  bnd1 (f_Mod_isCell S I1 t p1) fun x2 =>
  ifb (x2 = 0)
    (some (0, I1))
    (bnd1 (R t 5) fun b5 =>
    asrt ((S b5).1 = 20) <|
    asrt (vp_in p1 (S b5).2) <|
    ifb ((I1 b5 (Int32.toNatClampNeg p1)) = 0)
      (bnd1 (f_Mod_in (Int32.toInt64 p2) 0 3) fun x9 =>
      ifb (x9 = 0)
        (some (0, I1))
        (bnd1 (f_Mod_begins_II S I1 t p1 p2) fun I12 =>
        some (1, I12)))
      (some (0, I1)))
set_option maxRecDepth 100000 in
set_option maxHeartbeats 4000000 in
theorem c_Mod_go {E : Env} (hE : OKE E) {tg : Bool} {d : Nat} (hd : 2 ≤ d) {S : MS} {I : MI} {L : ML} {R : MR} {n : Nat} {t : Nat} {p1 : Int32} {p2 : Int32} {v : Int32} {I' : MI} (hS : (S t).1 = 12) (h : f_Mod_go S R I t p1 p2 = some (v, I')) : C E y_Mod_go b_Mod_go 3 (some .boolean) tg d 0 0 [.ref (e_b E + t), .int p1, .int p2] S I L R n (Kq (some (.int v)) S I' L R n) := by
  refine C.of (o := [some (.ref (e_b E + t)), some (.int p1), some (.int p2)]) (by decide) rfl (Nat.le_of_ble_eq_true rfl) ?_
  rw [f_Mod_go] at h
  refine X.aload_0 (pc := 0) (by decide +kernel) ?_
  refine X.iconst (pc := 1) (i := 0) (v := 0) ic_0 (by decide +kernel) ?_
  refine X.putI (pc := 2) (k := 0) fw_Mod_3 (by decide +kernel) rfl rfl hS ?_
  refine X.nameMI (fun I1 hI1 => ?_)
  have h := lt_at hI1 h
  refine X.aload_0 (pc := 5) (by decide +kernel) ?_
  refine X.iload_1 (pc := 6) (by decide +kernel) ?_
  obtain ⟨x2, hv3, h⟩ := bnd1_some h
  refine X.callVi (pc := 7) (nc := 0) (ns := 0) (c_Mod_isCell hE (dle hd (Nat.le_of_ble_eq_true rfl)) hS hv3) cv_Mod_236 (by decide +kernel) hS ⟨by decide, rfl⟩ (ddd hd (Nat.le_of_ble_eq_true rfl)) rfl (Nat.le_of_ble_eq_true rfl) rfl rfl ?_
  rcases ifb_some h with ⟨hq4, h⟩ | ⟨hq4, h⟩
  · refine X.if_eq_t (pc := 10) (off := 24) (tgt := 34) hq4 rfl (by decide +kernel) ?_
    refine X.iconst (pc := 34) (i := 0) (v := 0) ic_0 (by decide +kernel) ?_
    have j0 := Option.some.inj h
    obtain ⟨i0, j1⟩ := Prod.mk.inj j0
    subst i0
    subst j1
    exact X.ireturn (pc := 35) (by decide +kernel) ⟨_, rfl, nz01 (Or.inl rfl)⟩ ⟨rfl, rfl, rfl, rfl, rfl, rfl⟩
  · refine X.if_eq_f (pc := 10) (off := 24) (tgt := 34) hq4 rfl (by decide +kernel) ?_
    refine X.aload_0 (pc := 13) (by decide +kernel) ?_
    obtain ⟨b5, hb5, h⟩ := bnd1_some h
    refine X.getR (pc := 14) (k := 5) fw_Mod_40 (by decide +kernel) (fun _ => rfl) hS hb5 ?_
    refine X.iload_1 (pc := 17) (by decide +kernel) ?_
    obtain ⟨hc7, h⟩ := asrt_some h
    obtain ⟨hi6, h⟩ := asrt_some h
    refine X.iaload (pc := 18) (by decide +kernel) hc7 hi6 ?_
    rcases ifb_some h with ⟨hq8, h⟩ | ⟨hq8, h⟩
    · refine X.if_ne_f (pc := 19) (off := 15) (tgt := 34) hq8 rfl (by decide +kernel) ?_
      refine X.iload_2 (pc := 22) (by decide +kernel) ?_
      refine X.i2l (pc := 23) (by decide +kernel) ?_
      refine X.lconst (pc := 24) (i := 0) (v := 0) rfl (by decide +kernel) ?_
      refine X.ldc2 (pc := 25) (x := 239) (v := 3) ld_Mod_239 (by decide +kernel) ?_
      obtain ⟨x9, hv10, h⟩ := bnd1_some h
      refine X.callSi (pc := 28) (nc := 0) (ns := 0) (c_Mod_in hE (dle hd (Nat.le_of_ble_eq_true rfl)) hv10) cv_Mod_151 (by decide +kernel) (ddd hd (Nat.le_of_ble_eq_true rfl)) rfl (Nat.le_of_ble_eq_true rfl) rfl rfl ?_
      rcases ifb_some h with ⟨hq11, h⟩ | ⟨hq11, h⟩
      · refine X.if_ne_f (pc := 31) (off := 5) (tgt := 36) hq11 rfl (by decide +kernel) ?_
        refine X.iconst (pc := 34) (i := 0) (v := 0) ic_0 (by decide +kernel) ?_
        have j0 := Option.some.inj h
        obtain ⟨i0, j1⟩ := Prod.mk.inj j0
        subst i0
        subst j1
        exact X.ireturn (pc := 35) (by decide +kernel) ⟨_, rfl, nz01 (Or.inl rfl)⟩ ⟨rfl, rfl, rfl, rfl, rfl, rfl⟩
      · refine X.if_ne_t (pc := 31) (off := 5) (tgt := 36) hq11 rfl (by decide +kernel) ?_
        refine X.aload_0 (pc := 36) (by decide +kernel) ?_
        refine X.iload_1 (pc := 37) (by decide +kernel) ?_
        refine X.iload_2 (pc := 38) (by decide +kernel) ?_
        obtain ⟨I12, hv13, h⟩ := bnd1_some h
        refine X.callVv (pc := 39) (nc := 0) (ns := 0) (c_Mod_begins_II hE (dle hd (Nat.le_of_ble_eq_true rfl)) hS hv13) cv_Mod_201 (by decide +kernel) hS ⟨by decide, rfl⟩ (ddd hd (Nat.le_of_ble_eq_true rfl)) rfl (Nat.le_of_ble_eq_true rfl) rfl rfl ?_
        refine X.iconst (pc := 42) (i := 1) (v := 1) ic_1 (by decide +kernel) ?_
        have j0 := Option.some.inj h
        obtain ⟨i0, j1⟩ := Prod.mk.inj j0
        subst i0
        subst j1
        exact X.ireturn (pc := 43) (by decide +kernel) ⟨_, rfl, nz01 (Or.inr rfl)⟩ ⟨rfl, rfl, rfl, rfl, rfl, rfl⟩
    · refine X.if_ne_t (pc := 19) (off := 15) (tgt := 34) hq8 rfl (by decide +kernel) ?_
      refine X.iconst (pc := 34) (i := 0) (v := 0) ic_0 (by decide +kernel) ?_
      have j0 := Option.some.inj h
      obtain ⟨i0, j1⟩ := Prod.mk.inj j0
      subst i0
      subst j1
      exact X.ireturn (pc := 35) (by decide +kernel) ⟨_, rfl, nz01 (Or.inl rfl)⟩ ⟨rfl, rfl, rfl, rfl, rfl, rfl⟩
set_option maxRecDepth 100000 in
noncomputable def f_Mod_weights (S : MS) (R : MR) (I : MI) (t : Nat) (p1 : Int32) (p2 : Int32) : Option (Int32 × MI) :=
  lt (wI I t 0 0) fun (I1 : MI) =>
  bnd1 (f_Mod_in (Int32.toInt64 p1) 0 10) fun x2 =>
  ifb (x2 = 0)
    (some (0, I1))
    (bnd1 (f_Mod_in (Int32.toInt64 p2) 0 10) fun x5 =>
    ifb (x5 = 0)
      (some (0, I1))
      (ifb ((p1 + p2) ≤ 10)
        (bnd1 (R t 9) fun b9 =>
        asrt ((S b9).1 = 20) <|
        asrt (vp_in 0 (S b9).2) <|
        lt (wI I1 b9 (Int32.toNatClampNeg 0) p1) fun (I12 : MI) =>
        asrt (vp_in 1 (S b9).2) <|
        lt (wI I12 b9 (Int32.toNatClampNeg 1) p2) fun (I14 : MI) =>
        lt ((10 - p1) - p2) fun (x15 : Int32) =>
        asrt (vp_in 2 (S b9).2) <|
        lt (wI I14 b9 (Int32.toNatClampNeg 2) x15) fun (I17 : MI) =>
        some (1, I17))
        (some (0, I1))))
set_option maxRecDepth 100000 in
set_option maxHeartbeats 4000000 in
theorem c_Mod_weights {E : Env} (hE : OKE E) {tg : Bool} {d : Nat} (hd : 1 ≤ d) {S : MS} {I : MI} {L : ML} {R : MR} {n : Nat} {t : Nat} {p1 : Int32} {p2 : Int32} {v : Int32} {I' : MI} (hS : (S t).1 = 12) (h : f_Mod_weights S R I t p1 p2 = some (v, I')) : C E y_Mod_weights b_Mod_weights 3 (some .boolean) tg d 0 0 [.ref (e_b E + t), .int p1, .int p2] S I L R n (Kq (some (.int v)) S I' L R n) := by
  refine C.of (o := [some (.ref (e_b E + t)), some (.int p1), some (.int p2)]) (by decide) rfl (Nat.le_of_ble_eq_true rfl) ?_
  rw [f_Mod_weights] at h
  refine X.aload_0 (pc := 0) (by decide +kernel) ?_
  refine X.iconst (pc := 1) (i := 0) (v := 0) ic_0 (by decide +kernel) ?_
  refine X.putI (pc := 2) (k := 0) fw_Mod_3 (by decide +kernel) rfl rfl hS ?_
  refine X.nameMI (fun I1 hI1 => ?_)
  have h := lt_at hI1 h
  refine X.iload_1 (pc := 5) (by decide +kernel) ?_
  refine X.i2l (pc := 6) (by decide +kernel) ?_
  refine X.lconst (pc := 7) (i := 0) (v := 0) rfl (by decide +kernel) ?_
  refine X.ldc2 (pc := 8) (x := 241) (v := 10) ld_Mod_241 (by decide +kernel) ?_
  obtain ⟨x2, hv3, h⟩ := bnd1_some h
  refine X.callSi (pc := 11) (nc := 0) (ns := 0) (c_Mod_in hE (dle hd (Nat.le_of_ble_eq_true rfl)) hv3) cv_Mod_151 (by decide +kernel) (ddd hd (Nat.le_of_ble_eq_true rfl)) rfl (Nat.le_of_ble_eq_true rfl) rfl rfl ?_
  rcases ifb_some h with ⟨hq4, h⟩ | ⟨hq4, h⟩
  · refine X.if_eq_t (pc := 14) (off := 23) (tgt := 37) hq4 rfl (by decide +kernel) ?_
    refine X.iconst (pc := 37) (i := 0) (v := 0) ic_0 (by decide +kernel) ?_
    have j0 := Option.some.inj h
    obtain ⟨i0, j1⟩ := Prod.mk.inj j0
    subst i0
    subst j1
    exact X.ireturn (pc := 38) (by decide +kernel) ⟨_, rfl, nz01 (Or.inl rfl)⟩ ⟨rfl, rfl, rfl, rfl, rfl, rfl⟩
  · refine X.if_eq_f (pc := 14) (off := 23) (tgt := 37) hq4 rfl (by decide +kernel) ?_
    refine X.iload_2 (pc := 17) (by decide +kernel) ?_
    refine X.i2l (pc := 18) (by decide +kernel) ?_
    refine X.lconst (pc := 19) (i := 0) (v := 0) rfl (by decide +kernel) ?_
    refine X.ldc2 (pc := 20) (x := 241) (v := 10) ld_Mod_241 (by decide +kernel) ?_
    obtain ⟨x5, hv6, h⟩ := bnd1_some h
    refine X.callSi (pc := 23) (nc := 0) (ns := 0) (c_Mod_in hE (dle hd (Nat.le_of_ble_eq_true rfl)) hv6) cv_Mod_151 (by decide +kernel) (ddd hd (Nat.le_of_ble_eq_true rfl)) rfl (Nat.le_of_ble_eq_true rfl) rfl rfl ?_
    rcases ifb_some h with ⟨hq7, h⟩ | ⟨hq7, h⟩
    · refine X.if_eq_t (pc := 26) (off := 11) (tgt := 37) hq7 rfl (by decide +kernel) ?_
      refine X.iconst (pc := 37) (i := 0) (v := 0) ic_0 (by decide +kernel) ?_
      have j0 := Option.some.inj h
      obtain ⟨i0, j1⟩ := Prod.mk.inj j0
      subst i0
      subst j1
      exact X.ireturn (pc := 38) (by decide +kernel) ⟨_, rfl, nz01 (Or.inl rfl)⟩ ⟨rfl, rfl, rfl, rfl, rfl, rfl⟩
    · refine X.if_eq_f (pc := 26) (off := 11) (tgt := 37) hq7 rfl (by decide +kernel) ?_
      refine X.iload_1 (pc := 29) (by decide +kernel) ?_
      refine X.iload_2 (pc := 30) (by decide +kernel) ?_
      refine X.iadd (pc := 31) (by decide +kernel) ?_
      refine X.bipush (pc := 32) (i := 10) (v := 10) bp_10 (by decide +kernel) ?_
      rcases ifb_some h with ⟨hq8, h⟩ | ⟨hq8, h⟩
      · refine X.icmp_le_t (pc := 34) (off := 5) (tgt := 39) hq8 rfl (by decide +kernel) ?_
        refine X.aload_0 (pc := 39) (by decide +kernel) ?_
        obtain ⟨b9, hb9, h⟩ := bnd1_some h
        refine X.getR (pc := 40) (k := 9) fw_Mod_44 (by decide +kernel) (fun _ => rfl) hS hb9 ?_
        refine X.iconst (pc := 43) (i := 0) (v := 0) ic_0 (by decide +kernel) ?_
        refine X.iload_1 (pc := 44) (by decide +kernel) ?_
        obtain ⟨hc10, h⟩ := asrt_some h
        obtain ⟨hi11, h⟩ := asrt_some h
        refine X.iastore (pc := 45) (by decide +kernel) hc10 hi11 ?_
        refine X.nameMI (fun I12 hI12 => ?_)
        have h := lt_at hI12 h
        refine X.aload_0 (pc := 46) (by decide +kernel) ?_
        refine X.getR (pc := 47) (k := 9) fw_Mod_44 (by decide +kernel) (fun _ => rfl) hS hb9 ?_
        refine X.iconst (pc := 50) (i := 1) (v := 1) ic_1 (by decide +kernel) ?_
        refine X.iload_2 (pc := 51) (by decide +kernel) ?_
        obtain ⟨hi13, h⟩ := asrt_some h
        refine X.iastore (pc := 52) (by decide +kernel) hc10 hi13 ?_
        refine X.nameMI (fun I14 hI14 => ?_)
        have h := lt_at hI14 h
        refine X.aload_0 (pc := 53) (by decide +kernel) ?_
        refine X.getR (pc := 54) (k := 9) fw_Mod_44 (by decide +kernel) (fun _ => rfl) hS hb9 ?_
        refine X.iconst (pc := 57) (i := 2) (v := 2) ic_2 (by decide +kernel) ?_
        refine X.bipush (pc := 58) (i := 10) (v := 10) bp_10 (by decide +kernel) ?_
        refine X.iload_1 (pc := 60) (by decide +kernel) ?_
        refine X.isub (pc := 61) (by decide +kernel) ?_
        refine X.iload_2 (pc := 62) (by decide +kernel) ?_
        refine X.isub (pc := 63) (by decide +kernel) ?_
        refine X.nameI (fun x15 hx15 => ?_)
        have h := lt_at hx15 h
        obtain ⟨hi16, h⟩ := asrt_some h
        refine X.iastore (pc := 64) (by decide +kernel) hc10 hi16 ?_
        refine X.nameMI (fun I17 hI17 => ?_)
        have h := lt_at hI17 h
        refine X.iconst (pc := 65) (i := 1) (v := 1) ic_1 (by decide +kernel) ?_
        have j0 := Option.some.inj h
        obtain ⟨i0, j1⟩ := Prod.mk.inj j0
        subst i0
        subst j1
        exact X.ireturn (pc := 66) (by decide +kernel) ⟨_, rfl, nz01 (Or.inr rfl)⟩ ⟨rfl, rfl, rfl, rfl, rfl, rfl⟩
      · refine X.icmp_le_f (pc := 34) (off := 5) (tgt := 39) hq8 rfl (by decide +kernel) ?_
        refine X.iconst (pc := 37) (i := 0) (v := 0) ic_0 (by decide +kernel) ?_
        have j0 := Option.some.inj h
        obtain ⟨i0, j1⟩ := Prod.mk.inj j0
        subst i0
        subst j1
        exact X.ireturn (pc := 38) (by decide +kernel) ⟨_, rfl, nz01 (Or.inl rfl)⟩ ⟨rfl, rfl, rfl, rfl, rfl, rfl⟩
set_option maxRecDepth 100000 in
noncomputable def f_Mod_set (S : MS) (I : MI) (t : Nat) (p1 : Int32) (p2 : Int32) : Option (Int32 × MI) :=
  lt (wI I t 0 0) fun (I1 : MI) =>
  ifb (p1 = 0)
    (bnd1 (f_Mod_in (Int32.toInt64 p2) 0 9) fun x3 =>
    ifb (x3 = 0)
      (ifb (p1 = 1)
        (bnd1 (f_Mod_in (Int32.toInt64 p2) 0 10) fun x7 =>
        ifb (x7 = 0)
          (some ((-1), I1))
          (lt (I1 t 11) fun (x10 : Int32) =>
          lt (wI I1 t 11 p2) fun (I11 : MI) =>
          some (x10, I11)))
        (some ((-1), I1)))
      (lt (I1 t 10) fun (x12 : Int32) =>
      lt (wI I1 t 10 p2) fun (I13 : MI) =>
      some (x12, I13)))
    (ifb (p1 = 1)
      (bnd1 (f_Mod_in (Int32.toInt64 p2) 0 10) fun x15 =>
      ifb (x15 = 0)
        (some ((-1), I1))
        (lt (I1 t 11) fun (x18 : Int32) =>
        lt (wI I1 t 11 p2) fun (I19 : MI) =>
        some (x18, I19)))
      (some ((-1), I1)))
set_option maxRecDepth 100000 in
set_option maxHeartbeats 4000000 in
theorem c_Mod_set {E : Env} (hE : OKE E) {tg : Bool} {d : Nat} (hd : 1 ≤ d) {S : MS} {I : MI} {L : ML} {R : MR} {n : Nat} {t : Nat} {p1 : Int32} {p2 : Int32} {v : Int32} {I' : MI} (hS : (S t).1 = 12) (h : f_Mod_set S I t p1 p2 = some (v, I')) : C E y_Mod_set b_Mod_set 4 (some .int) tg d 0 0 [.ref (e_b E + t), .int p1, .int p2] S I L R n (Kq (some (.int v)) S I' L R n) := by
  refine C.of (o := [some (.ref (e_b E + t)), some (.int p1), some (.int p2), none]) (by decide) rfl (Nat.le_of_ble_eq_true rfl) ?_
  rw [f_Mod_set] at h
  refine X.aload_0 (pc := 0) (by decide +kernel) ?_
  refine X.iconst (pc := 1) (i := 0) (v := 0) ic_0 (by decide +kernel) ?_
  refine X.putI (pc := 2) (k := 0) fw_Mod_3 (by decide +kernel) rfl rfl hS ?_
  refine X.nameMI (fun I1 hI1 => ?_)
  have h := lt_at hI1 h
  refine X.iload_1 (pc := 5) (by decide +kernel) ?_
  rcases ifb_some h with ⟨hq2, h⟩ | ⟨hq2, h⟩
  · refine X.if_ne_f (pc := 6) (off := 27) (tgt := 33) hq2 rfl (by decide +kernel) ?_
    refine X.iload_2 (pc := 9) (by decide +kernel) ?_
    refine X.i2l (pc := 10) (by decide +kernel) ?_
    refine X.lconst (pc := 11) (i := 0) (v := 0) rfl (by decide +kernel) ?_
    refine X.ldc2 (pc := 12) (x := 243) (v := 9) ld_Mod_243 (by decide +kernel) ?_
    obtain ⟨x3, hv4, h⟩ := bnd1_some h
    refine X.callSi (pc := 15) (nc := 0) (ns := 0) (c_Mod_in hE (dle hd (Nat.le_of_ble_eq_true rfl)) hv4) cv_Mod_151 (by decide +kernel) (ddd hd (Nat.le_of_ble_eq_true rfl)) rfl (Nat.le_of_ble_eq_true rfl) rfl rfl ?_
    rcases ifb_some h with ⟨hq5, h⟩ | ⟨hq5, h⟩
    · refine X.if_eq_t (pc := 18) (off := 15) (tgt := 33) hq5 rfl (by decide +kernel) ?_
      refine X.iload_1 (pc := 33) (by decide +kernel) ?_
      refine X.iconst (pc := 34) (i := 1) (v := 1) ic_1 (by decide +kernel) ?_
      rcases ifb_some h with ⟨hq6, h⟩ | ⟨hq6, h⟩
      · refine X.icmp_ne_f (pc := 35) (off := 27) (tgt := 62) hq6 rfl (by decide +kernel) ?_
        refine X.iload_2 (pc := 38) (by decide +kernel) ?_
        refine X.i2l (pc := 39) (by decide +kernel) ?_
        refine X.lconst (pc := 40) (i := 0) (v := 0) rfl (by decide +kernel) ?_
        refine X.ldc2 (pc := 41) (x := 241) (v := 10) ld_Mod_241 (by decide +kernel) ?_
        obtain ⟨x7, hv8, h⟩ := bnd1_some h
        refine X.callSi (pc := 44) (nc := 0) (ns := 0) (c_Mod_in hE (dle hd (Nat.le_of_ble_eq_true rfl)) hv8) cv_Mod_151 (by decide +kernel) (ddd hd (Nat.le_of_ble_eq_true rfl)) rfl (Nat.le_of_ble_eq_true rfl) rfl rfl ?_
        rcases ifb_some h with ⟨hq9, h⟩ | ⟨hq9, h⟩
        · refine X.if_eq_t (pc := 47) (off := 15) (tgt := 62) hq9 rfl (by decide +kernel) ?_
          refine X.iconst (pc := 62) (i := (-1)) (v := (-1)) ic_m1 (by decide +kernel) ?_
          have j0 := Option.some.inj h
          obtain ⟨i0, j1⟩ := Prod.mk.inj j0
          subst i0
          subst j1
          exact X.ireturn (pc := 63) (by decide +kernel) ⟨_, rfl, rfl⟩ ⟨rfl, rfl, rfl, rfl, rfl, rfl⟩
        · refine X.if_eq_f (pc := 47) (off := 15) (tgt := 62) hq9 rfl (by decide +kernel) ?_
          refine X.aload_0 (pc := 50) (by decide +kernel) ?_
          refine X.getI (pc := 51) (k := 11) fw_Mod_50 (by decide +kernel) (fun _ => rfl) hS ?_
          refine X.nameI (fun x10 hx10 => ?_)
          have h := lt_at hx10 h
          refine X.istore_3 (pc := 54) (by decide +kernel) (by decide) rfl ?_
          refine X.aload_0 (pc := 55) (by decide +kernel) ?_
          refine X.iload_2 (pc := 56) (by decide +kernel) ?_
          refine X.putI (pc := 57) (k := 11) fw_Mod_50 (by decide +kernel) rfl rfl hS ?_
          refine X.nameMI (fun I11 hI11 => ?_)
          have h := lt_at hI11 h
          refine X.iload_3 (pc := 60) (by decide +kernel) ?_
          have j0 := Option.some.inj h
          obtain ⟨i0, j1⟩ := Prod.mk.inj j0
          subst i0
          subst j1
          exact X.ireturn (pc := 61) (by decide +kernel) ⟨_, rfl, rfl⟩ ⟨rfl, rfl, rfl, rfl, rfl, rfl⟩
      · refine X.icmp_ne_t (pc := 35) (off := 27) (tgt := 62) hq6 rfl (by decide +kernel) ?_
        refine X.iconst (pc := 62) (i := (-1)) (v := (-1)) ic_m1 (by decide +kernel) ?_
        have j0 := Option.some.inj h
        obtain ⟨i0, j1⟩ := Prod.mk.inj j0
        subst i0
        subst j1
        exact X.ireturn (pc := 63) (by decide +kernel) ⟨_, rfl, rfl⟩ ⟨rfl, rfl, rfl, rfl, rfl, rfl⟩
    · refine X.if_eq_f (pc := 18) (off := 15) (tgt := 33) hq5 rfl (by decide +kernel) ?_
      refine X.aload_0 (pc := 21) (by decide +kernel) ?_
      refine X.getI (pc := 22) (k := 10) fw_Mod_47 (by decide +kernel) (fun _ => rfl) hS ?_
      refine X.nameI (fun x12 hx12 => ?_)
      have h := lt_at hx12 h
      refine X.istore_3 (pc := 25) (by decide +kernel) (by decide) rfl ?_
      refine X.aload_0 (pc := 26) (by decide +kernel) ?_
      refine X.iload_2 (pc := 27) (by decide +kernel) ?_
      refine X.putI (pc := 28) (k := 10) fw_Mod_47 (by decide +kernel) rfl rfl hS ?_
      refine X.nameMI (fun I13 hI13 => ?_)
      have h := lt_at hI13 h
      refine X.iload_3 (pc := 31) (by decide +kernel) ?_
      have j0 := Option.some.inj h
      obtain ⟨i0, j1⟩ := Prod.mk.inj j0
      subst i0
      subst j1
      exact X.ireturn (pc := 32) (by decide +kernel) ⟨_, rfl, rfl⟩ ⟨rfl, rfl, rfl, rfl, rfl, rfl⟩
  · refine X.if_ne_t (pc := 6) (off := 27) (tgt := 33) hq2 rfl (by decide +kernel) ?_
    refine X.iload_1 (pc := 33) (by decide +kernel) ?_
    refine X.iconst (pc := 34) (i := 1) (v := 1) ic_1 (by decide +kernel) ?_
    rcases ifb_some h with ⟨hq14, h⟩ | ⟨hq14, h⟩
    · refine X.icmp_ne_f (pc := 35) (off := 27) (tgt := 62) hq14 rfl (by decide +kernel) ?_
      refine X.iload_2 (pc := 38) (by decide +kernel) ?_
      refine X.i2l (pc := 39) (by decide +kernel) ?_
      refine X.lconst (pc := 40) (i := 0) (v := 0) rfl (by decide +kernel) ?_
      refine X.ldc2 (pc := 41) (x := 241) (v := 10) ld_Mod_241 (by decide +kernel) ?_
      obtain ⟨x15, hv16, h⟩ := bnd1_some h
      refine X.callSi (pc := 44) (nc := 0) (ns := 0) (c_Mod_in hE (dle hd (Nat.le_of_ble_eq_true rfl)) hv16) cv_Mod_151 (by decide +kernel) (ddd hd (Nat.le_of_ble_eq_true rfl)) rfl (Nat.le_of_ble_eq_true rfl) rfl rfl ?_
      rcases ifb_some h with ⟨hq17, h⟩ | ⟨hq17, h⟩
      · refine X.if_eq_t (pc := 47) (off := 15) (tgt := 62) hq17 rfl (by decide +kernel) ?_
        refine X.iconst (pc := 62) (i := (-1)) (v := (-1)) ic_m1 (by decide +kernel) ?_
        have j0 := Option.some.inj h
        obtain ⟨i0, j1⟩ := Prod.mk.inj j0
        subst i0
        subst j1
        exact X.ireturn (pc := 63) (by decide +kernel) ⟨_, rfl, rfl⟩ ⟨rfl, rfl, rfl, rfl, rfl, rfl⟩
      · refine X.if_eq_f (pc := 47) (off := 15) (tgt := 62) hq17 rfl (by decide +kernel) ?_
        refine X.aload_0 (pc := 50) (by decide +kernel) ?_
        refine X.getI (pc := 51) (k := 11) fw_Mod_50 (by decide +kernel) (fun _ => rfl) hS ?_
        refine X.nameI (fun x18 hx18 => ?_)
        have h := lt_at hx18 h
        refine X.istore_3 (pc := 54) (by decide +kernel) (by decide) rfl ?_
        refine X.aload_0 (pc := 55) (by decide +kernel) ?_
        refine X.iload_2 (pc := 56) (by decide +kernel) ?_
        refine X.putI (pc := 57) (k := 11) fw_Mod_50 (by decide +kernel) rfl rfl hS ?_
        refine X.nameMI (fun I19 hI19 => ?_)
        have h := lt_at hI19 h
        refine X.iload_3 (pc := 60) (by decide +kernel) ?_
        have j0 := Option.some.inj h
        obtain ⟨i0, j1⟩ := Prod.mk.inj j0
        subst i0
        subst j1
        exact X.ireturn (pc := 61) (by decide +kernel) ⟨_, rfl, rfl⟩ ⟨rfl, rfl, rfl, rfl, rfl, rfl⟩
    · refine X.icmp_ne_t (pc := 35) (off := 27) (tgt := 62) hq14 rfl (by decide +kernel) ?_
      refine X.iconst (pc := 62) (i := (-1)) (v := (-1)) ic_m1 (by decide +kernel) ?_
      have j0 := Option.some.inj h
      obtain ⟨i0, j1⟩ := Prod.mk.inj j0
      subst i0
      subst j1
      exact X.ireturn (pc := 63) (by decide +kernel) ⟨_, rfl, rfl⟩ ⟨rfl, rfl, rfl, rfl, rfl, rfl⟩
set_option maxRecDepth 100000 in
noncomputable def l_Mod_sheet_46 (S : MS) (R : MR) (v0 : Nat) (v1 : Int32) (v2 : Int32) (v4 : Int32) : Nat → MI → Int32 → Int32 → Int32 → Option (Int32 × MI)
  | 0, _, _, _, _ => none
  | f + 1, I, v5, v6, v7 =>
    bnd1 (f_Mod_cells S I v0) fun x7 =>
    ifb (x7 ≤ v7)
      (some (v5, I))
      (bnd1 (ifb (v1 = 3)
          (some 0)
          (ifb (v7 < v2)
            (some (v6 &&& 3))
            (some 0))) fun (y11 : Int32) =>
      bnd1 (R v0 5) fun b15 =>
      bnd1 (ifb (v7 = (I v0 7))
          (asrt ((S b15).1 = 20) <|
          asrt (vp_in v7 (S b15).2) <|
          some (I b15 (Int32.toNatClampNeg v7)))
          (some y11)) fun (y17 : Int32) =>
      asrt ((S b15).1 = 20) <|
      asrt (vp_in v7 (S b15).2) <|
      lt (wI I b15 (Int32.toNatClampNeg v7) y17) fun (I24 : MI) =>
      asrt (vp_in v7 (S b15).2) <|
      bnd1 (ifb ((I24 b15 (Int32.toNatClampNeg v7)) = 0)
          (some 0)
          (some 1)) fun (y27 : Int32) =>
      bnd1 (f_Mod_flag y27) fun x30 =>
      lt (v5 + x30) fun (x32 : Int32) =>
      lt (v6 + v4) fun (x33 : Int32) =>
      l_Mod_sheet_46 S R v0 v1 v2 v4 f I24 x32 x33 (v7 + 1))
set_option maxRecDepth 100000 in
set_option maxHeartbeats 4000000 in
theorem xl_Mod_sheet_46 {E : Env} (hE : OKE E) {tg : Bool} {d : Nat} (hd : 1 ≤ d) {S : MS} {L : ML} {R : MR} {n : Nat} {v0 : Nat} {v1 : Int32} {v2 : Int32} {v4 : Int32} {K : KT} :
    ∀ {f : Nat} {I : MI} {v5 : Int32} {v6 : Int32} {v7 : Int32} {o5 : Int32} {I' : MI}, (S v0).1 = 12 → l_Mod_sheet_46 S R v0 v1 v2 v4 f I v5 v6 v7 = some (o5, I') → X E y_Mod_sheet b_Mod_sheet 9 (some .int) tg d 0 0 140 [some (.ref (e_b E + v0)), some (.int v1), none, none, none, some (.int o5), none, none, none] [] S I' L R n K → X E y_Mod_sheet b_Mod_sheet 9 (some .int) tg d 0 0 46 [some (.ref (e_b E + v0)), some (.int v1), some (.int v2), none, some (.int v4), some (.int v5), some (.int v6), some (.int v7), none] [] S I L R n K := by
  intro f
  induction f with
  | zero =>
    intro I v5 v6 v7 o5 I' hS h hk
    rw [l_Mod_sheet_46] at h
    cases h
  | succ f ih =>
    intro I v5 v6 v7 o5 I' hS h hk
    rw [l_Mod_sheet_46] at h
    refine X.iload_7 (pc := 46) (by decide +kernel) ?_
    refine X.aload_0 (pc := 48) (by decide +kernel) ?_
    obtain ⟨x7, hv8, h⟩ := bnd1_some h
    refine X.callVi (pc := 49) (nc := 0) (ns := 0) (c_Mod_cells hE (dle hd (Nat.le_of_ble_eq_true rfl)) hS hv8) cv_Mod_148 (by decide +kernel) hS ⟨by decide, rfl⟩ (ddd hd (Nat.le_of_ble_eq_true rfl)) rfl (Nat.le_of_ble_eq_true rfl) rfl rfl ?_
    rcases ifb_some h with ⟨hq9, h⟩ | ⟨hq9, h⟩
    · refine X.icmp_ge_t (pc := 52) (off := 88) (tgt := 140) hq9 rfl (by decide +kernel) ?_
      have j0 := Option.some.inj h
      obtain ⟨i0, j1⟩ := Prod.mk.inj j0
      subst i0
      subst j1
      refine X.fgt (o' := [some (.ref (e_b E + v0)), some (.int v1), none, none, none, some (.int v5), none, none, none]) ⟨rfl, ⟨rfl, ⟨rfl, trivial⟩⟩⟩ ?_
      exact hk
    · refine X.icmp_ge_f (pc := 52) (off := 88) (tgt := 140) hq9 rfl (by decide +kernel) ?_
      refine X.iload_1 (pc := 55) (by decide +kernel) ?_
      refine X.iconst (pc := 56) (i := 3) (v := 3) ic_3 (by decide +kernel) ?_
      obtain ⟨y11, hr12, h⟩ := bnd1_some h
      have hj13 : X E y_Mod_sheet b_Mod_sheet 9 (some .int) tg d 0 0 74 [some (.ref (e_b E + v0)), some (.int v1), some (.int v2), none, some (.int v4), some (.int v5), some (.int v6), some (.int v7), none] [.int y11] S I L R n K := by
        refine X.istore_8 (pc := 74) (by decide +kernel) (by decide) rfl ?_
        refine X.aload_0 (pc := 76) (by decide +kernel) ?_
        obtain ⟨b15, hb15, h⟩ := bnd1_some h
        refine X.getR (pc := 77) (k := 5) fw_Mod_40 (by decide +kernel) (fun _ => rfl) hS hb15 ?_
        refine X.iload_7 (pc := 80) (by decide +kernel) ?_
        refine X.iload_7 (pc := 82) (by decide +kernel) ?_
        refine X.aload_0 (pc := 84) (by decide +kernel) ?_
        refine X.getI (pc := 85) (k := 7) fw_Mod_204 (by decide +kernel) (fun _ => rfl) hS ?_
        obtain ⟨y17, hr18, h⟩ := bnd1_some h
        have hj19 : X E y_Mod_sheet b_Mod_sheet 9 (some .int) tg d 0 0 103 [some (.ref (e_b E + v0)), some (.int v1), some (.int v2), none, some (.int v4), some (.int v5), some (.int v6), some (.int v7), none] [.int y17, .int v7, .ref (e_b E + b15)] S I L R n K := by
          obtain ⟨hc22, h⟩ := asrt_some h
          obtain ⟨hi23, h⟩ := asrt_some h
          refine X.iastore (pc := 103) (by decide +kernel) hc22 hi23 ?_
          refine X.nameMI (fun I24 hI24 => ?_)
          have h := lt_at hI24 h
          refine X.iload_5 (pc := 104) (by decide +kernel) ?_
          refine X.aload_0 (pc := 106) (by decide +kernel) ?_
          refine X.getR (pc := 107) (k := 5) fw_Mod_40 (by decide +kernel) (fun _ => rfl) hS hb15 ?_
          refine X.iload_7 (pc := 110) (by decide +kernel) ?_
          obtain ⟨hi25, h⟩ := asrt_some h
          refine X.iaload (pc := 112) (by decide +kernel) hc22 hi25 ?_
          obtain ⟨y27, hr28, h⟩ := bnd1_some h
          have hj29 : X E y_Mod_sheet b_Mod_sheet 9 (some .int) tg d 0 0 121 [some (.ref (e_b E + v0)), some (.int v1), some (.int v2), none, some (.int v4), none, some (.int v6), some (.int v7), none] [.int y27, .int v5] S I24 L R n K := by
            obtain ⟨x30, hv31, h⟩ := bnd1_some h
            refine X.callSi (pc := 121) (nc := 0) (ns := 0) (c_Mod_flag hE (dle hd (Nat.le_of_ble_eq_true rfl)) hv31) cv_Mod_155 (by decide +kernel) (ddd hd (Nat.le_of_ble_eq_true rfl)) rfl (Nat.le_of_ble_eq_true rfl) rfl rfl ?_
            refine X.iadd (pc := 124) (by decide +kernel) ?_
            refine X.nameI (fun x32 hx32 => ?_)
            have h := lt_at hx32 h
            refine X.istore_5 (pc := 125) (by decide +kernel) (by decide) rfl ?_
            refine X.iload_6 (pc := 127) (by decide +kernel) ?_
            refine X.iload_4 (pc := 129) (by decide +kernel) ?_
            refine X.iadd (pc := 131) (by decide +kernel) ?_
            refine X.nameI (fun x33 hx33 => ?_)
            have h := lt_at hx33 h
            refine X.istore_6 (pc := 132) (by decide +kernel) (by decide) rfl ?_
            refine X.iinc_7 (pc := 134) (z := 1) (v := 1) ic_1 (by decide +kernel) (by decide) rfl ?_
            refine X.goto (pc := 137) (off := (-91)) (tgt := 46) (by decide +kernel) rfl ?_
            exact ih hS h hk
          have h := hr28
          rcases ifb_some h with ⟨hq26, h⟩ | ⟨hq26, h⟩
          · refine X.if_eq_t (pc := 113) (off := 7) (tgt := 120) hq26 rfl (by decide +kernel) ?_
            refine X.iconst (pc := 120) (i := 0) (v := 0) ic_0 (by decide +kernel) ?_
            have j0 := Option.some.inj h
            subst j0
            refine X.fgt (o' := [some (.ref (e_b E + v0)), some (.int v1), some (.int v2), none, some (.int v4), none, some (.int v6), some (.int v7), none]) ⟨rfl, ⟨rfl, ⟨rfl, ⟨rfl, ⟨rfl, ⟨rfl, trivial⟩⟩⟩⟩⟩⟩ ?_
            exact hj29
          · refine X.if_eq_f (pc := 113) (off := 7) (tgt := 120) hq26 rfl (by decide +kernel) ?_
            refine X.iconst (pc := 116) (i := 1) (v := 1) ic_1 (by decide +kernel) ?_
            refine X.goto (pc := 117) (off := 4) (tgt := 121) (by decide +kernel) rfl ?_
            have j0 := Option.some.inj h
            subst j0
            refine X.fgt (o' := [some (.ref (e_b E + v0)), some (.int v1), some (.int v2), none, some (.int v4), none, some (.int v6), some (.int v7), none]) ⟨rfl, ⟨rfl, ⟨rfl, ⟨rfl, ⟨rfl, ⟨rfl, trivial⟩⟩⟩⟩⟩⟩ ?_
            exact hj29
        have h := hr18
        rcases ifb_some h with ⟨hq16, h⟩ | ⟨hq16, h⟩
        · refine X.icmp_ne_f (pc := 88) (off := 13) (tgt := 101) hq16 rfl (by decide +kernel) ?_
          refine X.aload_0 (pc := 91) (by decide +kernel) ?_
          refine X.getR (pc := 92) (k := 5) fw_Mod_40 (by decide +kernel) (fun _ => rfl) hS hb15 ?_
          refine X.iload_7 (pc := 95) (by decide +kernel) ?_
          obtain ⟨hc21, h⟩ := asrt_some h
          obtain ⟨hi20, h⟩ := asrt_some h
          refine X.iaload (pc := 97) (by decide +kernel) hc21 hi20 ?_
          refine X.goto (pc := 98) (off := 5) (tgt := 103) (by decide +kernel) rfl ?_
          have j0 := Option.some.inj h
          subst j0
          refine X.fgt (o' := [some (.ref (e_b E + v0)), some (.int v1), some (.int v2), none, some (.int v4), some (.int v5), some (.int v6), some (.int v7), none]) ⟨rfl, ⟨rfl, ⟨rfl, ⟨rfl, ⟨rfl, ⟨rfl, ⟨rfl, trivial⟩⟩⟩⟩⟩⟩⟩ ?_
          exact hj19
        · refine X.icmp_ne_t (pc := 88) (off := 13) (tgt := 101) hq16 rfl (by decide +kernel) ?_
          refine X.iload_8 (pc := 101) (by decide +kernel) ?_
          have j0 := Option.some.inj h
          subst j0
          refine X.fgt (o' := [some (.ref (e_b E + v0)), some (.int v1), some (.int v2), none, some (.int v4), some (.int v5), some (.int v6), some (.int v7), none]) ⟨rfl, ⟨rfl, ⟨rfl, ⟨rfl, ⟨rfl, ⟨rfl, ⟨rfl, trivial⟩⟩⟩⟩⟩⟩⟩ ?_
          exact hj19
      have h := hr12
      rcases ifb_some h with ⟨hq10, h⟩ | ⟨hq10, h⟩
      · refine X.icmp_eq_t (pc := 57) (off := 9) (tgt := 66) hq10 rfl (by decide +kernel) ?_
        refine X.iconst (pc := 66) (i := 0) (v := 0) ic_0 (by decide +kernel) ?_
        refine X.goto (pc := 67) (off := 7) (tgt := 74) (by decide +kernel) rfl ?_
        have j0 := Option.some.inj h
        subst j0
        exact hj13
      · refine X.icmp_eq_f (pc := 57) (off := 9) (tgt := 66) hq10 rfl (by decide +kernel) ?_
        refine X.iload_7 (pc := 60) (by decide +kernel) ?_
        refine X.iload_2 (pc := 62) (by decide +kernel) ?_
        rcases ifb_some h with ⟨hq14, h⟩ | ⟨hq14, h⟩
        · refine X.icmp_lt_t (pc := 63) (off := 7) (tgt := 70) hq14 rfl (by decide +kernel) ?_
          refine X.iload_6 (pc := 70) (by decide +kernel) ?_
          refine X.iconst (pc := 72) (i := 3) (v := 3) ic_3 (by decide +kernel) ?_
          refine X.iand (pc := 73) (by decide +kernel) ?_
          have j0 := Option.some.inj h
          subst j0
          exact hj13
        · refine X.icmp_lt_f (pc := 63) (off := 7) (tgt := 70) hq14 rfl (by decide +kernel) ?_
          refine X.iconst (pc := 66) (i := 0) (v := 0) ic_0 (by decide +kernel) ?_
          refine X.goto (pc := 67) (off := 7) (tgt := 74) (by decide +kernel) rfl ?_
          have j0 := Option.some.inj h
          subst j0
          exact hj13
set_option maxRecDepth 100000 in
noncomputable def f_Mod_sheet (g : Nat) (S : MS) (R : MR) (I : MI) (t : Nat) (p1 : Int32) (p2 : Int32) (p3 : Int32) (p4 : Int32) : Option (Int32 × MI) :=
  lt (wI I t 0 0) fun (I1 : MI) =>
  bnd1 (f_Mod_in (Int32.toInt64 p1) 0 3) fun x2 =>
  ifb (x2 = 0)
    (some ((-1), I1))
    (ifb (p2 ≤ 36)
      (ifb (p1 = 3)
        (bnd2 (l_Mod_sheet_46 S R t p1 p2 p4 g I1 0 p3 0) fun x34 I35 =>
        lt (wI I35 t 23 0) fun (I37 : MI) =>
        bnd1 (ifb (p1 = 3)
            (some (-3))
            (some x34)) fun (y39 : Int32) =>
        some (y39, I37))
        (ifb (0 ≤ p2)
          (bnd2 (l_Mod_sheet_46 S R t p1 p2 p4 g I1 0 p3 0) fun x43 I44 =>
          lt (wI I44 t 23 0) fun (I46 : MI) =>
          bnd1 (ifb (p1 = 3)
              (some (-3))
              (some x43)) fun (y48 : Int32) =>
          some (y48, I46))
          (some ((-2), I1))))
      (some ((-1), I1)))
set_option maxRecDepth 100000 in
set_option maxHeartbeats 4000000 in
theorem c_Mod_sheet {E : Env} (hE : OKE E) {tg : Bool} {d : Nat} (hd : 1 ≤ d) {g : Nat} {S : MS} {I : MI} {L : ML} {R : MR} {n : Nat} {t : Nat} {p1 : Int32} {p2 : Int32} {p3 : Int32} {p4 : Int32} {v : Int32} {I' : MI} (hS : (S t).1 = 12) (h : f_Mod_sheet g S R I t p1 p2 p3 p4 = some (v, I')) : C E y_Mod_sheet b_Mod_sheet 9 (some .int) tg d 0 0 [.ref (e_b E + t), .int p1, .int p2, .int p3, .int p4] S I L R n (Kq (some (.int v)) S I' L R n) := by
  refine C.of (o := [some (.ref (e_b E + t)), some (.int p1), some (.int p2), some (.int p3), some (.int p4), none, none, none, none]) (by decide) rfl (Nat.le_of_ble_eq_true rfl) ?_
  rw [f_Mod_sheet] at h
  refine X.aload_0 (pc := 0) (by decide +kernel) ?_
  refine X.iconst (pc := 1) (i := 0) (v := 0) ic_0 (by decide +kernel) ?_
  refine X.putI (pc := 2) (k := 0) fw_Mod_3 (by decide +kernel) rfl rfl hS ?_
  refine X.nameMI (fun I1 hI1 => ?_)
  have h := lt_at hI1 h
  refine X.iload_1 (pc := 5) (by decide +kernel) ?_
  refine X.i2l (pc := 6) (by decide +kernel) ?_
  refine X.lconst (pc := 7) (i := 0) (v := 0) rfl (by decide +kernel) ?_
  refine X.ldc2 (pc := 8) (x := 239) (v := 3) ld_Mod_239 (by decide +kernel) ?_
  obtain ⟨x2, hv3, h⟩ := bnd1_some h
  refine X.callSi (pc := 11) (nc := 0) (ns := 0) (c_Mod_in hE (dle hd (Nat.le_of_ble_eq_true rfl)) hv3) cv_Mod_151 (by decide +kernel) (ddd hd (Nat.le_of_ble_eq_true rfl)) rfl (Nat.le_of_ble_eq_true rfl) rfl rfl ?_
  rcases ifb_some h with ⟨hq4, h⟩ | ⟨hq4, h⟩
  · refine X.if_eq_t (pc := 14) (off := 9) (tgt := 23) hq4 rfl (by decide +kernel) ?_
    refine X.iconst (pc := 23) (i := (-1)) (v := (-1)) ic_m1 (by decide +kernel) ?_
    have j0 := Option.some.inj h
    obtain ⟨i0, j1⟩ := Prod.mk.inj j0
    subst i0
    subst j1
    exact X.ireturn (pc := 24) (by decide +kernel) ⟨_, rfl, rfl⟩ ⟨rfl, rfl, rfl, rfl, rfl, rfl⟩
  · refine X.if_eq_f (pc := 14) (off := 9) (tgt := 23) hq4 rfl (by decide +kernel) ?_
    refine X.iload_2 (pc := 17) (by decide +kernel) ?_
    refine X.bipush (pc := 18) (i := 36) (v := 36) bp_36 (by decide +kernel) ?_
    rcases ifb_some h with ⟨hq5, h⟩ | ⟨hq5, h⟩
    · refine X.icmp_le_t (pc := 20) (off := 5) (tgt := 25) hq5 rfl (by decide +kernel) ?_
      refine X.iload_1 (pc := 25) (by decide +kernel) ?_
      refine X.iconst (pc := 26) (i := 3) (v := 3) ic_3 (by decide +kernel) ?_
      rcases ifb_some h with ⟨hq6, h⟩ | ⟨hq6, h⟩
      · refine X.icmp_eq_t (pc := 27) (off := 10) (tgt := 37) hq6 rfl (by decide +kernel) ?_
        refine X.iconst (pc := 37) (i := 0) (v := 0) ic_0 (by decide +kernel) ?_
        refine X.istore_5 (pc := 38) (by decide +kernel) (by decide) rfl ?_
        refine X.iload_3 (pc := 40) (by decide +kernel) ?_
        refine X.istore_6 (pc := 41) (by decide +kernel) (by decide) rfl ?_
        refine X.iconst (pc := 43) (i := 0) (v := 0) ic_0 (by decide +kernel) ?_
        refine X.istore_7 (pc := 44) (by decide +kernel) (by decide) rfl ?_
        obtain ⟨x34, I35, hv36, h⟩ := bnd2_some h
        refine X.fgt (o' := [some (.ref (e_b E + t)), some (.int p1), some (.int p2), none, some (.int p4), some (.int 0), some (.int p3), some (.int 0), none]) ⟨rfl, ⟨rfl, ⟨rfl, ⟨rfl, ⟨rfl, ⟨rfl, ⟨rfl, trivial⟩⟩⟩⟩⟩⟩⟩ ?_
        refine xl_Mod_sheet_46 hE hd hS hv36 ?_
        refine X.aload_0 (pc := 140) (by decide +kernel) ?_
        refine X.iconst (pc := 141) (i := 0) (v := 0) ic_0 (by decide +kernel) ?_
        refine X.putI (pc := 142) (k := 23) fw_Mod_216 (by decide +kernel) rfl rfl hS ?_
        refine X.nameMI (fun I37 hI37 => ?_)
        have h := lt_at hI37 h
        refine X.iload_1 (pc := 145) (by decide +kernel) ?_
        refine X.iconst (pc := 146) (i := 3) (v := 3) ic_3 (by decide +kernel) ?_
        obtain ⟨y39, hr40, h⟩ := bnd1_some h
        have hj41 : X E y_Mod_sheet b_Mod_sheet 9 (some .int) tg d 0 0 157 [none, none, none, none, none, none, none, none, none] [.int y39] S I37 L R n (Kq (some (.int v)) S I' L R n) := by
          have j0 := Option.some.inj h
          obtain ⟨i0, j1⟩ := Prod.mk.inj j0
          subst i0
          subst j1
          exact X.ireturn (pc := 157) (by decide +kernel) ⟨_, rfl, rfl⟩ ⟨rfl, rfl, rfl, rfl, rfl, rfl⟩
        have h := hr40
        rcases ifb_some h with ⟨hq38, h⟩ | ⟨hq38, h⟩
        · refine X.icmp_ne_f (pc := 147) (off := 8) (tgt := 155) hq38 rfl (by decide +kernel) ?_
          refine X.bipush (pc := 150) (i := (-3)) (v := (-3)) bp_m3 (by decide +kernel) ?_
          refine X.goto (pc := 152) (off := 5) (tgt := 157) (by decide +kernel) rfl ?_
          have j0 := Option.some.inj h
          subst j0
          refine X.fgt (o' := [none, none, none, none, none, none, none, none, none]) trivial ?_
          exact hj41
        · refine X.icmp_ne_t (pc := 147) (off := 8) (tgt := 155) hq38 rfl (by decide +kernel) ?_
          refine X.iload_5 (pc := 155) (by decide +kernel) ?_
          have j0 := Option.some.inj h
          subst j0
          refine X.fgt (o' := [none, none, none, none, none, none, none, none, none]) trivial ?_
          exact hj41
      · refine X.icmp_eq_f (pc := 27) (off := 10) (tgt := 37) hq6 rfl (by decide +kernel) ?_
        refine X.iload_2 (pc := 30) (by decide +kernel) ?_
        rcases ifb_some h with ⟨hq42, h⟩ | ⟨hq42, h⟩
        · refine X.if_ge_t (pc := 31) (off := 6) (tgt := 37) hq42 rfl (by decide +kernel) ?_
          refine X.iconst (pc := 37) (i := 0) (v := 0) ic_0 (by decide +kernel) ?_
          refine X.istore_5 (pc := 38) (by decide +kernel) (by decide) rfl ?_
          refine X.iload_3 (pc := 40) (by decide +kernel) ?_
          refine X.istore_6 (pc := 41) (by decide +kernel) (by decide) rfl ?_
          refine X.iconst (pc := 43) (i := 0) (v := 0) ic_0 (by decide +kernel) ?_
          refine X.istore_7 (pc := 44) (by decide +kernel) (by decide) rfl ?_
          obtain ⟨x43, I44, hv45, h⟩ := bnd2_some h
          refine X.fgt (o' := [some (.ref (e_b E + t)), some (.int p1), some (.int p2), none, some (.int p4), some (.int 0), some (.int p3), some (.int 0), none]) ⟨rfl, ⟨rfl, ⟨rfl, ⟨rfl, ⟨rfl, ⟨rfl, ⟨rfl, trivial⟩⟩⟩⟩⟩⟩⟩ ?_
          refine xl_Mod_sheet_46 hE hd hS hv45 ?_
          refine X.aload_0 (pc := 140) (by decide +kernel) ?_
          refine X.iconst (pc := 141) (i := 0) (v := 0) ic_0 (by decide +kernel) ?_
          refine X.putI (pc := 142) (k := 23) fw_Mod_216 (by decide +kernel) rfl rfl hS ?_
          refine X.nameMI (fun I46 hI46 => ?_)
          have h := lt_at hI46 h
          refine X.iload_1 (pc := 145) (by decide +kernel) ?_
          refine X.iconst (pc := 146) (i := 3) (v := 3) ic_3 (by decide +kernel) ?_
          obtain ⟨y48, hr49, h⟩ := bnd1_some h
          have hj50 : X E y_Mod_sheet b_Mod_sheet 9 (some .int) tg d 0 0 157 [none, none, none, none, none, none, none, none, none] [.int y48] S I46 L R n (Kq (some (.int v)) S I' L R n) := by
            have j0 := Option.some.inj h
            obtain ⟨i0, j1⟩ := Prod.mk.inj j0
            subst i0
            subst j1
            exact X.ireturn (pc := 157) (by decide +kernel) ⟨_, rfl, rfl⟩ ⟨rfl, rfl, rfl, rfl, rfl, rfl⟩
          have h := hr49
          rcases ifb_some h with ⟨hq47, h⟩ | ⟨hq47, h⟩
          · refine X.icmp_ne_f (pc := 147) (off := 8) (tgt := 155) hq47 rfl (by decide +kernel) ?_
            refine X.bipush (pc := 150) (i := (-3)) (v := (-3)) bp_m3 (by decide +kernel) ?_
            refine X.goto (pc := 152) (off := 5) (tgt := 157) (by decide +kernel) rfl ?_
            have j0 := Option.some.inj h
            subst j0
            refine X.fgt (o' := [none, none, none, none, none, none, none, none, none]) trivial ?_
            exact hj50
          · refine X.icmp_ne_t (pc := 147) (off := 8) (tgt := 155) hq47 rfl (by decide +kernel) ?_
            refine X.iload_5 (pc := 155) (by decide +kernel) ?_
            have j0 := Option.some.inj h
            subst j0
            refine X.fgt (o' := [none, none, none, none, none, none, none, none, none]) trivial ?_
            exact hj50
        · refine X.if_ge_f (pc := 31) (off := 6) (tgt := 37) hq42 rfl (by decide +kernel) ?_
          refine X.bipush (pc := 34) (i := (-2)) (v := (-2)) bp_m2 (by decide +kernel) ?_
          have j0 := Option.some.inj h
          obtain ⟨i0, j1⟩ := Prod.mk.inj j0
          subst i0
          subst j1
          exact X.ireturn (pc := 36) (by decide +kernel) ⟨_, rfl, rfl⟩ ⟨rfl, rfl, rfl, rfl, rfl, rfl⟩
    · refine X.icmp_le_f (pc := 20) (off := 5) (tgt := 25) hq5 rfl (by decide +kernel) ?_
      refine X.iconst (pc := 23) (i := (-1)) (v := (-1)) ic_m1 (by decide +kernel) ?_
      have j0 := Option.some.inj h
      obtain ⟨i0, j1⟩ := Prod.mk.inj j0
      subst i0
      subst j1
      exact X.ireturn (pc := 24) (by decide +kernel) ⟨_, rfl, rfl⟩ ⟨rfl, rfl, rfl, rfl, rfl, rfl⟩
set_option maxRecDepth 100000 in
noncomputable def f_Mod_isTurn (p1 : Int32) : Option Int32 :=
  bnd1 (f_Mod_in (Int32.toInt64 p1) 0 2) fun x1 =>
  asrt (x1 = 0 ∨ x1 = 1) <|
  some x1
set_option maxRecDepth 100000 in
set_option maxHeartbeats 4000000 in
theorem c_Mod_isTurn {E : Env} (hE : OKE E) {tg : Bool} {d : Nat} (hd : 1 ≤ d) {S : MS} {I : MI} {L : ML} {R : MR} {n : Nat} {p1 : Int32} {v : Int32} (h : f_Mod_isTurn p1 = some v) : C E y_Mod_isTurn b_Mod_isTurn 1 (some .boolean) tg d 0 0 [.int p1] S I L R n (Kq (some (.int v)) S I L R n) := by
  refine C.of (o := [some (.int p1)]) (by decide) rfl (Nat.le_of_ble_eq_true rfl) ?_
  rw [f_Mod_isTurn] at h
  refine X.iload_0 (pc := 0) (by decide +kernel) ?_
  refine X.i2l (pc := 1) (by decide +kernel) ?_
  refine X.lconst (pc := 2) (i := 0) (v := 0) rfl (by decide +kernel) ?_
  refine X.ldc2 (pc := 3) (x := 259) (v := 2) ld_Mod_259 (by decide +kernel) ?_
  obtain ⟨x1, hv2, h⟩ := bnd1_some h
  refine X.callSi (pc := 6) (nc := 0) (ns := 0) (c_Mod_in hE (dle hd (Nat.le_of_ble_eq_true rfl)) hv2) cv_Mod_151 (by decide +kernel) (ddd hd (Nat.le_of_ble_eq_true rfl)) rfl (Nat.le_of_ble_eq_true rfl) rfl rfl ?_
  obtain ⟨hb3, h⟩ := asrt_some h
  have j0 := Option.some.inj h
  subst j0
  exact X.ireturn (pc := 9) (by decide +kernel) ⟨_, rfl, nz01 hb3⟩ ⟨rfl, rfl, rfl, rfl, rfl, rfl⟩
set_option maxRecDepth 100000 in
noncomputable def f_Mod_isEnd (S : MS) (R : MR) (I : MI) (t : Nat) (p1 : Int32) : Option Int32 :=
  bnd1 (R t 5) fun b1 =>
  asrt ((S b1).1 = 20) <|
  asrt (vp_in p1 (S b1).2) <|
  bnd1 (ifb ((I b1 (Int32.toNatClampNeg p1)) = 1)
      (some 1)
      (asrt (vp_in p1 (S b1).2) <|
      ifb ((I b1 (Int32.toNatClampNeg p1)) = 3)
        (some 1)
        (some 0))) fun (y5 : Int32) =>
  asrt (y5 = 0 ∨ y5 = 1) <|
  some y5
set_option maxRecDepth 100000 in
set_option maxHeartbeats 4000000 in
theorem c_Mod_isEnd {E : Env} (hE : OKE E) {tg : Bool} {d : Nat} (hd : 0 ≤ d) {S : MS} {I : MI} {L : ML} {R : MR} {n : Nat} {t : Nat} {p1 : Int32} {v : Int32} (hS : (S t).1 = 12) (h : f_Mod_isEnd S R I t p1 = some v) : C E y_Mod_isEnd b_Mod_isEnd 2 (some .boolean) tg d 0 0 [.ref (e_b E + t), .int p1] S I L R n (Kq (some (.int v)) S I L R n) := by
  refine C.of (o := [some (.ref (e_b E + t)), some (.int p1)]) (by decide) rfl (Nat.le_of_ble_eq_true rfl) ?_
  rw [f_Mod_isEnd] at h
  refine X.aload_0 (pc := 0) (by decide +kernel) ?_
  obtain ⟨b1, hb1, h⟩ := bnd1_some h
  refine X.getR (pc := 1) (k := 5) fw_Mod_40 (by decide +kernel) (fun _ => rfl) hS hb1 ?_
  refine X.iload_1 (pc := 4) (by decide +kernel) ?_
  obtain ⟨hc3, h⟩ := asrt_some h
  obtain ⟨hi2, h⟩ := asrt_some h
  refine X.iaload (pc := 5) (by decide +kernel) hc3 hi2 ?_
  refine X.iconst (pc := 6) (i := 1) (v := 1) ic_1 (by decide +kernel) ?_
  obtain ⟨y5, hr6, h⟩ := bnd1_some h
  have hj7 : X E y_Mod_isEnd b_Mod_isEnd 2 (some .boolean) tg d 0 0 25 [none, none] [.int y5] S I L R n (Kq (some (.int v)) S I L R n) := by
    obtain ⟨hb10, h⟩ := asrt_some h
    have j0 := Option.some.inj h
    subst j0
    exact X.ireturn (pc := 25) (by decide +kernel) ⟨_, rfl, nz01 hb10⟩ ⟨rfl, rfl, rfl, rfl, rfl, rfl⟩
  have h := hr6
  rcases ifb_some h with ⟨hq4, h⟩ | ⟨hq4, h⟩
  · refine X.icmp_eq_t (pc := 7) (off := 13) (tgt := 20) hq4 rfl (by decide +kernel) ?_
    refine X.iconst (pc := 20) (i := 1) (v := 1) ic_1 (by decide +kernel) ?_
    refine X.goto (pc := 21) (off := 4) (tgt := 25) (by decide +kernel) rfl ?_
    have j0 := Option.some.inj h
    subst j0
    refine X.fgt (o' := [none, none]) trivial ?_
    exact hj7
  · refine X.icmp_eq_f (pc := 7) (off := 13) (tgt := 20) hq4 rfl (by decide +kernel) ?_
    refine X.aload_0 (pc := 10) (by decide +kernel) ?_
    refine X.getR (pc := 11) (k := 5) fw_Mod_40 (by decide +kernel) (fun _ => rfl) hS hb1 ?_
    refine X.iload_1 (pc := 14) (by decide +kernel) ?_
    obtain ⟨hi8, h⟩ := asrt_some h
    refine X.iaload (pc := 15) (by decide +kernel) hc3 hi8 ?_
    refine X.iconst (pc := 16) (i := 3) (v := 3) ic_3 (by decide +kernel) ?_
    rcases ifb_some h with ⟨hq9, h⟩ | ⟨hq9, h⟩
    · refine X.icmp_ne_f (pc := 17) (off := 7) (tgt := 24) hq9 rfl (by decide +kernel) ?_
      refine X.iconst (pc := 20) (i := 1) (v := 1) ic_1 (by decide +kernel) ?_
      refine X.goto (pc := 21) (off := 4) (tgt := 25) (by decide +kernel) rfl ?_
      have j0 := Option.some.inj h
      subst j0
      refine X.fgt (o' := [none, none]) trivial ?_
      exact hj7
    · refine X.icmp_ne_t (pc := 17) (off := 7) (tgt := 24) hq9 rfl (by decide +kernel) ?_
      refine X.iconst (pc := 24) (i := 0) (v := 0) ic_0 (by decide +kernel) ?_
      have j0 := Option.some.inj h
      subst j0
      refine X.fgt (o' := [none, none]) trivial ?_
      exact hj7
set_option maxRecDepth 100000 in
noncomputable def l_Mod_puts_54 (S : MS) (R : MR) (v0 : Nat) (v1 : Nat) (v2 : Int32) : Nat → MI → Int32 → Option MI
  | 0, _, _ => none
  | f + 1, I, v3 =>
    ifb (36 ≤ v3)
      (some I)
      (bnd1 (R v0 15) fun b21 =>
      asrt ((S b21).1 = 20) <|
      asrt (vp_in v3 (S b21).2) <|
      lt (I b21 (Int32.toNatClampNeg v3)) fun (x24 : Int32) =>
      asrt ((S v1).1 = 20) <|
      asrt (vp_in ((v2 + 7) + v3) (S v1).2) <|
      lt (wI I v1 (Int32.toNatClampNeg ((v2 + 7) + v3)) x24) fun (I27 : MI) =>
      l_Mod_puts_54 S R v0 v1 v2 f I27 (v3 + 1))
set_option maxRecDepth 100000 in
set_option maxHeartbeats 4000000 in
theorem xl_Mod_puts_54 {E : Env} (hE : OKE E) {tg : Bool} {d : Nat} (hd : 0 ≤ d) {S : MS} {L : ML} {R : MR} {n : Nat} {v0 : Nat} {v1 : Nat} {v2 : Int32} {K : KT} :
    ∀ {f : Nat} {I : MI} {v3 : Int32} {I' : MI}, (S v0).1 = 12 → l_Mod_puts_54 S R v0 v1 v2 f I v3 = some I' → X E y_Mod_puts b_Mod_puts 4 none tg d 0 0 80 [none, none, none, none] [] S I' L R n K → X E y_Mod_puts b_Mod_puts 4 none tg d 0 0 54 [some (.ref (e_b E + v0)), some (.ref (e_b E + v1)), some (.int v2), some (.int v3)] [] S I L R n K := by
  intro f
  induction f with
  | zero =>
    intro I v3 I' hS h hk
    rw [l_Mod_puts_54] at h
    cases h
  | succ f ih =>
    intro I v3 I' hS h hk
    rw [l_Mod_puts_54] at h
    refine X.iload_3 (pc := 54) (by decide +kernel) ?_
    refine X.bipush (pc := 55) (i := 36) (v := 36) bp_36 (by decide +kernel) ?_
    rcases ifb_some h with ⟨hq20, h⟩ | ⟨hq20, h⟩
    · refine X.icmp_ge_t (pc := 57) (off := 23) (tgt := 80) hq20 rfl (by decide +kernel) ?_
      have j0 := Option.some.inj h
      subst j0
      refine X.fgt (o' := [none, none, none, none]) trivial ?_
      exact hk
    · refine X.icmp_ge_f (pc := 57) (off := 23) (tgt := 80) hq20 rfl (by decide +kernel) ?_
      refine X.aload_1 (pc := 60) (by decide +kernel) ?_
      refine X.iload_2 (pc := 61) (by decide +kernel) ?_
      refine X.bipush (pc := 62) (i := 7) (v := 7) bp_7 (by decide +kernel) ?_
      refine X.iadd (pc := 64) (by decide +kernel) ?_
      refine X.iload_3 (pc := 65) (by decide +kernel) ?_
      refine X.iadd (pc := 66) (by decide +kernel) ?_
      refine X.aload_0 (pc := 67) (by decide +kernel) ?_
      obtain ⟨b21, hb21, h⟩ := bnd1_some h
      refine X.getR (pc := 68) (k := 15) fw_Mod_56 (by decide +kernel) (fun _ => rfl) hS hb21 ?_
      refine X.iload_3 (pc := 71) (by decide +kernel) ?_
      obtain ⟨hc23, h⟩ := asrt_some h
      obtain ⟨hi22, h⟩ := asrt_some h
      refine X.iaload (pc := 72) (by decide +kernel) hc23 hi22 ?_
      refine X.nameI (fun x24 hx24 => ?_)
      have h := lt_at hx24 h
      obtain ⟨hc25, h⟩ := asrt_some h
      obtain ⟨hi26, h⟩ := asrt_some h
      refine X.iastore (pc := 73) (by decide +kernel) hc25 hi26 ?_
      refine X.nameMI (fun I27 hI27 => ?_)
      have h := lt_at hI27 h
      refine X.iinc_3 (pc := 74) (z := 1) (v := 1) ic_1 (by decide +kernel) (by decide) rfl ?_
      refine X.goto (pc := 77) (off := (-23)) (tgt := 54) (by decide +kernel) rfl ?_
      exact ih hS h hk
set_option maxRecDepth 100000 in
noncomputable def f_Mod_puts (g : Nat) (S : MS) (R : MR) (I : MI) (t : Nat) (p1 : Nat) (p2 : Int32) : Option MI :=
  lt (I t 7) fun (x1 : Int32) =>
  asrt ((S p1).1 = 20) <|
  asrt (vp_in p2 (S p1).2) <|
  lt (wI I p1 (Int32.toNatClampNeg p2) x1) fun (I4 : MI) =>
  lt (I4 t 8) fun (x5 : Int32) =>
  asrt (vp_in (p2 + 1) (S p1).2) <|
  lt (wI I4 p1 (Int32.toNatClampNeg (p2 + 1)) x5) fun (I7 : MI) =>
  lt (I7 t 10) fun (x8 : Int32) =>
  asrt (vp_in (p2 + 2) (S p1).2) <|
  lt (wI I7 p1 (Int32.toNatClampNeg (p2 + 2)) x8) fun (I10 : MI) =>
  lt (I10 t 12) fun (x11 : Int32) =>
  asrt (vp_in (p2 + 3) (S p1).2) <|
  lt (wI I10 p1 (Int32.toNatClampNeg (p2 + 3)) x11) fun (I13 : MI) =>
  lt (I13 t 13) fun (x14 : Int32) =>
  asrt (vp_in (p2 + 4) (S p1).2) <|
  lt (wI I13 p1 (Int32.toNatClampNeg (p2 + 4)) x14) fun (I16 : MI) =>
  lt (I16 t 14) fun (x17 : Int32) =>
  asrt (vp_in (p2 + 5) (S p1).2) <|
  lt (wI I16 p1 (Int32.toNatClampNeg (p2 + 5)) x17) fun (I19 : MI) =>
  bnd1 (l_Mod_puts_54 S R t p1 p2 g I19 0) fun I28 =>
  some I28
set_option maxRecDepth 100000 in
set_option maxHeartbeats 4000000 in
theorem c_Mod_puts {E : Env} (hE : OKE E) {tg : Bool} {d : Nat} (hd : 0 ≤ d) {g : Nat} {S : MS} {I : MI} {L : ML} {R : MR} {n : Nat} {t : Nat} {p1 : Nat} {p2 : Int32} {I' : MI} (hS : (S t).1 = 12) (h : f_Mod_puts g S R I t p1 p2 = some I') : C E y_Mod_puts b_Mod_puts 4 none tg d 0 0 [.ref (e_b E + t), .ref (e_b E + p1), .int p2] S I L R n (Kq none S I' L R n) := by
  refine C.of (o := [some (.ref (e_b E + t)), some (.ref (e_b E + p1)), some (.int p2), none]) (by decide) rfl (Nat.le_of_ble_eq_true rfl) ?_
  rw [f_Mod_puts] at h
  refine X.aload_1 (pc := 0) (by decide +kernel) ?_
  refine X.iload_2 (pc := 1) (by decide +kernel) ?_
  refine X.aload_0 (pc := 2) (by decide +kernel) ?_
  refine X.getI (pc := 3) (k := 7) fw_Mod_204 (by decide +kernel) (fun _ => rfl) hS ?_
  refine X.nameI (fun x1 hx1 => ?_)
  have h := lt_at hx1 h
  obtain ⟨hc2, h⟩ := asrt_some h
  obtain ⟨hi3, h⟩ := asrt_some h
  refine X.iastore (pc := 6) (by decide +kernel) hc2 hi3 ?_
  refine X.nameMI (fun I4 hI4 => ?_)
  have h := lt_at hI4 h
  refine X.aload_1 (pc := 7) (by decide +kernel) ?_
  refine X.iload_2 (pc := 8) (by decide +kernel) ?_
  refine X.iconst (pc := 9) (i := 1) (v := 1) ic_1 (by decide +kernel) ?_
  refine X.iadd (pc := 10) (by decide +kernel) ?_
  refine X.aload_0 (pc := 11) (by decide +kernel) ?_
  refine X.getI (pc := 12) (k := 8) fw_Mod_207 (by decide +kernel) (fun _ => rfl) hS ?_
  refine X.nameI (fun x5 hx5 => ?_)
  have h := lt_at hx5 h
  obtain ⟨hi6, h⟩ := asrt_some h
  refine X.iastore (pc := 15) (by decide +kernel) hc2 hi6 ?_
  refine X.nameMI (fun I7 hI7 => ?_)
  have h := lt_at hI7 h
  refine X.aload_1 (pc := 16) (by decide +kernel) ?_
  refine X.iload_2 (pc := 17) (by decide +kernel) ?_
  refine X.iconst (pc := 18) (i := 2) (v := 2) ic_2 (by decide +kernel) ?_
  refine X.iadd (pc := 19) (by decide +kernel) ?_
  refine X.aload_0 (pc := 20) (by decide +kernel) ?_
  refine X.getI (pc := 21) (k := 10) fw_Mod_47 (by decide +kernel) (fun _ => rfl) hS ?_
  refine X.nameI (fun x8 hx8 => ?_)
  have h := lt_at hx8 h
  obtain ⟨hi9, h⟩ := asrt_some h
  refine X.iastore (pc := 24) (by decide +kernel) hc2 hi9 ?_
  refine X.nameMI (fun I10 hI10 => ?_)
  have h := lt_at hI10 h
  refine X.aload_1 (pc := 25) (by decide +kernel) ?_
  refine X.iload_2 (pc := 26) (by decide +kernel) ?_
  refine X.iconst (pc := 27) (i := 3) (v := 3) ic_3 (by decide +kernel) ?_
  refine X.iadd (pc := 28) (by decide +kernel) ?_
  refine X.aload_0 (pc := 29) (by decide +kernel) ?_
  refine X.getI (pc := 30) (k := 12) fw_Mod_53 (by decide +kernel) (fun _ => rfl) hS ?_
  refine X.nameI (fun x11 hx11 => ?_)
  have h := lt_at hx11 h
  obtain ⟨hi12, h⟩ := asrt_some h
  refine X.iastore (pc := 33) (by decide +kernel) hc2 hi12 ?_
  refine X.nameMI (fun I13 hI13 => ?_)
  have h := lt_at hI13 h
  refine X.aload_1 (pc := 34) (by decide +kernel) ?_
  refine X.iload_2 (pc := 35) (by decide +kernel) ?_
  refine X.iconst (pc := 36) (i := 4) (v := 4) ic_4 (by decide +kernel) ?_
  refine X.iadd (pc := 37) (by decide +kernel) ?_
  refine X.aload_0 (pc := 38) (by decide +kernel) ?_
  refine X.getI (pc := 39) (k := 13) fw_Mod_210 (by decide +kernel) (fun _ => rfl) hS ?_
  refine X.nameI (fun x14 hx14 => ?_)
  have h := lt_at hx14 h
  obtain ⟨hi15, h⟩ := asrt_some h
  refine X.iastore (pc := 42) (by decide +kernel) hc2 hi15 ?_
  refine X.nameMI (fun I16 hI16 => ?_)
  have h := lt_at hI16 h
  refine X.aload_1 (pc := 43) (by decide +kernel) ?_
  refine X.iload_2 (pc := 44) (by decide +kernel) ?_
  refine X.iconst (pc := 45) (i := 5) (v := 5) ic_5 (by decide +kernel) ?_
  refine X.iadd (pc := 46) (by decide +kernel) ?_
  refine X.aload_0 (pc := 47) (by decide +kernel) ?_
  refine X.getI (pc := 48) (k := 14) fw_Mod_213 (by decide +kernel) (fun _ => rfl) hS ?_
  refine X.nameI (fun x17 hx17 => ?_)
  have h := lt_at hx17 h
  obtain ⟨hi18, h⟩ := asrt_some h
  refine X.iastore (pc := 51) (by decide +kernel) hc2 hi18 ?_
  refine X.nameMI (fun I19 hI19 => ?_)
  have h := lt_at hI19 h
  refine X.iconst (pc := 52) (i := 0) (v := 0) ic_0 (by decide +kernel) ?_
  refine X.istore_3 (pc := 53) (by decide +kernel) (by decide) rfl ?_
  obtain ⟨I28, hv29, h⟩ := bnd1_some h
  refine xl_Mod_puts_54 hE hd hS hv29 ?_
  have j0 := Option.some.inj h
  subst j0
  exact X.vreturn (pc := 80) (by decide +kernel) rfl ⟨rfl, rfl, rfl, rfl, rfl, rfl⟩
set_option maxRecDepth 100000 in
noncomputable def l_Mod_putsBy_11 (S : MS) (R : MR) (v0 : Nat) : Nat → MI → Int32 → Option MI
  | 0, _, _ => none
  | f + 1, I, v1 =>
    ifb (817 ≤ v1)
      (some I)
      (bnd1 (R v0 24) fun b6 =>
      lt (v1 + 43) fun (x7 : Int32) =>
      asrt ((S b6).1 = 20) <|
      asrt (vp_in x7 (S b6).2) <|
      lt (I b6 (Int32.toNatClampNeg x7)) fun (x10 : Int32) =>
      asrt (vp_in v1 (S b6).2) <|
      lt (wI I b6 (Int32.toNatClampNeg v1) x10) fun (I12 : MI) =>
      l_Mod_putsBy_11 S R v0 f I12 (v1 + 1))
set_option maxRecDepth 100000 in
set_option maxHeartbeats 4000000 in
theorem xl_Mod_putsBy_11 {E : Env} (hE : OKE E) {tg : Bool} {d : Nat} (hd : 1 ≤ d) {S : MS} {L : ML} {R : MR} {n : Nat} {v0 : Nat} {K : KT} :
    ∀ {f : Nat} {I : MI} {v1 : Int32} {I' : MI}, (S v0).1 = 12 → l_Mod_putsBy_11 S R v0 f I v1 = some I' → X E y_Mod_putsBy b_Mod_putsBy 2 none tg d 0 0 39 [some (.ref (e_b E + v0)), none] [] S I' L R n K → X E y_Mod_putsBy b_Mod_putsBy 2 none tg d 0 0 11 [some (.ref (e_b E + v0)), some (.int v1)] [] S I L R n K := by
  intro f
  induction f with
  | zero =>
    intro I v1 I' hS h hk
    rw [l_Mod_putsBy_11] at h
    cases h
  | succ f ih =>
    intro I v1 I' hS h hk
    rw [l_Mod_putsBy_11] at h
    refine X.iload_1 (pc := 11) (by decide +kernel) ?_
    refine X.sipush (pc := 12) (i := 817) (v := 817) sp_817 (by decide +kernel) ?_
    rcases ifb_some h with ⟨hq5, h⟩ | ⟨hq5, h⟩
    · refine X.icmp_ge_t (pc := 15) (off := 24) (tgt := 39) hq5 rfl (by decide +kernel) ?_
      have j0 := Option.some.inj h
      subst j0
      refine X.fgt (o' := [some (.ref (e_b E + v0)), none]) ⟨rfl, trivial⟩ ?_
      exact hk
    · refine X.icmp_ge_f (pc := 15) (off := 24) (tgt := 39) hq5 rfl (by decide +kernel) ?_
      refine X.aload_0 (pc := 18) (by decide +kernel) ?_
      obtain ⟨b6, hb6, h⟩ := bnd1_some h
      refine X.getR (pc := 19) (k := 24) fw_Mod_71 (by decide +kernel) (fun _ => rfl) hS hb6 ?_
      refine X.iload_1 (pc := 22) (by decide +kernel) ?_
      refine X.aload_0 (pc := 23) (by decide +kernel) ?_
      refine X.getR (pc := 24) (k := 24) fw_Mod_71 (by decide +kernel) (fun _ => rfl) hS hb6 ?_
      refine X.iload_1 (pc := 27) (by decide +kernel) ?_
      refine X.bipush (pc := 28) (i := 43) (v := 43) bp_43 (by decide +kernel) ?_
      refine X.iadd (pc := 30) (by decide +kernel) ?_
      refine X.nameI (fun x7 hx7 => ?_)
      have h := lt_at hx7 h
      obtain ⟨hc9, h⟩ := asrt_some h
      obtain ⟨hi8, h⟩ := asrt_some h
      refine X.iaload (pc := 31) (by decide +kernel) hc9 hi8 ?_
      refine X.nameI (fun x10 hx10 => ?_)
      have h := lt_at hx10 h
      obtain ⟨hi11, h⟩ := asrt_some h
      refine X.iastore (pc := 32) (by decide +kernel) hc9 hi11 ?_
      refine X.nameMI (fun I12 hI12 => ?_)
      have h := lt_at hI12 h
      refine X.iinc_1 (pc := 33) (z := 1) (v := 1) ic_1 (by decide +kernel) (by decide) rfl ?_
      refine X.goto (pc := 36) (off := (-25)) (tgt := 11) (by decide +kernel) rfl ?_
      exact ih hS h hk
set_option maxRecDepth 100000 in
noncomputable def f_Mod_putsBy (g : Nat) (S : MS) (R : MR) (I : MI) (t : Nat) : Option MI :=
  bnd1 (ifb ((I t 23) = 20)
      (bnd1 (l_Mod_putsBy_11 S R t g I 0) fun I13 =>
      lt ((I13 t 23) - 1) fun (x15 : Int32) =>
      lt (wI I13 t 23 x15) fun (I16 : MI) =>
      some I16)
      (some I)) fun (I2 : MI) =>
  bnd1 (R t 24) fun b17 =>
  bnd1 (f_Mod_puts g S R I2 t b17 (43 * (I2 t 23))) fun I18 =>
  lt ((I18 t 23) + 1) fun (x20 : Int32) =>
  lt (wI I18 t 23 x20) fun (I21 : MI) =>
  some I21
set_option maxRecDepth 100000 in
set_option maxHeartbeats 4000000 in
theorem c_Mod_putsBy {E : Env} (hE : OKE E) {tg : Bool} {d : Nat} (hd : 1 ≤ d) {g : Nat} {S : MS} {I : MI} {L : ML} {R : MR} {n : Nat} {t : Nat} {I' : MI} (hS : (S t).1 = 12) (h : f_Mod_putsBy g S R I t = some I') : C E y_Mod_putsBy b_Mod_putsBy 2 none tg d 0 0 [.ref (e_b E + t)] S I L R n (Kq none S I' L R n) := by
  refine C.of (o := [some (.ref (e_b E + t)), none]) (by decide) rfl (Nat.le_of_ble_eq_true rfl) ?_
  rw [f_Mod_putsBy] at h
  refine X.aload_0 (pc := 0) (by decide +kernel) ?_
  refine X.getI (pc := 1) (k := 23) fw_Mod_216 (by decide +kernel) (fun _ => rfl) hS ?_
  refine X.bipush (pc := 4) (i := 20) (v := 20) bp_20 (by decide +kernel) ?_
  obtain ⟨I2, hr3, h⟩ := bnd1_some h
  have hj4 : X E y_Mod_putsBy b_Mod_putsBy 2 none tg d 0 0 49 [some (.ref (e_b E + t)), none] [] S I2 L R n (Kq none S I' L R n) := by
    refine X.aload_0 (pc := 49) (by decide +kernel) ?_
    refine X.aload_0 (pc := 50) (by decide +kernel) ?_
    obtain ⟨b17, hb17, h⟩ := bnd1_some h
    refine X.getR (pc := 51) (k := 24) fw_Mod_71 (by decide +kernel) (fun _ => rfl) hS hb17 ?_
    refine X.bipush (pc := 54) (i := 43) (v := 43) bp_43 (by decide +kernel) ?_
    refine X.aload_0 (pc := 56) (by decide +kernel) ?_
    refine X.getI (pc := 57) (k := 23) fw_Mod_216 (by decide +kernel) (fun _ => rfl) hS ?_
    refine X.imul (pc := 60) (by decide +kernel) ?_
    obtain ⟨I18, hv19, h⟩ := bnd1_some h
    refine X.callVv (pc := 61) (nc := 0) (ns := 0) (c_Mod_puts hE (dle hd (Nat.le_of_ble_eq_true rfl)) hS hv19) cv_Mod_245 (by decide +kernel) hS ⟨by decide, rfl⟩ (ddd hd (Nat.le_of_ble_eq_true rfl)) rfl (Nat.le_of_ble_eq_true rfl) rfl rfl ?_
    refine X.aload_0 (pc := 64) (by decide +kernel) ?_
    refine X.dupr (pc := 65) (by decide +kernel) ?_
    refine X.getI (pc := 66) (k := 23) fw_Mod_216 (by decide +kernel) (fun _ => rfl) hS ?_
    refine X.iconst (pc := 69) (i := 1) (v := 1) ic_1 (by decide +kernel) ?_
    refine X.iadd (pc := 70) (by decide +kernel) ?_
    refine X.nameI (fun x20 hx20 => ?_)
    have h := lt_at hx20 h
    refine X.putI (pc := 71) (k := 23) fw_Mod_216 (by decide +kernel) rfl rfl hS ?_
    refine X.nameMI (fun I21 hI21 => ?_)
    have h := lt_at hI21 h
    have j0 := Option.some.inj h
    subst j0
    exact X.vreturn (pc := 74) (by decide +kernel) rfl ⟨rfl, rfl, rfl, rfl, rfl, rfl⟩
  have h := hr3
  rcases ifb_some h with ⟨hq1, h⟩ | ⟨hq1, h⟩
  · refine X.icmp_ne_f (pc := 6) (off := 43) (tgt := 49) hq1 rfl (by decide +kernel) ?_
    refine X.iconst (pc := 9) (i := 0) (v := 0) ic_0 (by decide +kernel) ?_
    refine X.istore_1 (pc := 10) (by decide +kernel) (by decide) rfl ?_
    obtain ⟨I13, hv14, h⟩ := bnd1_some h
    refine xl_Mod_putsBy_11 hE hd hS hv14 ?_
    refine X.aload_0 (pc := 39) (by decide +kernel) ?_
    refine X.dupr (pc := 40) (by decide +kernel) ?_
    refine X.getI (pc := 41) (k := 23) fw_Mod_216 (by decide +kernel) (fun _ => rfl) hS ?_
    refine X.iconst (pc := 44) (i := 1) (v := 1) ic_1 (by decide +kernel) ?_
    refine X.isub (pc := 45) (by decide +kernel) ?_
    refine X.nameI (fun x15 hx15 => ?_)
    have h := lt_at hx15 h
    refine X.putI (pc := 46) (k := 23) fw_Mod_216 (by decide +kernel) rfl rfl hS ?_
    refine X.nameMI (fun I16 hI16 => ?_)
    have h := lt_at hI16 h
    have j0 := Option.some.inj h
    subst j0
    exact hj4
  · refine X.icmp_ne_t (pc := 6) (off := 43) (tgt := 49) hq1 rfl (by decide +kernel) ?_
    have j0 := Option.some.inj h
    subst j0
    exact hj4
set_option maxRecDepth 100000 in
noncomputable def f_Mod_turned (p1 : Int32) (p2 : Int32) : Option Int32 :=
  lt (irm ((p1 + p2) + 3) 4) fun (x1 : Int32) =>
  some x1
set_option maxRecDepth 100000 in
set_option maxHeartbeats 4000000 in
theorem c_Mod_turned {E : Env} (hE : OKE E) {tg : Bool} {d : Nat} (hd : 0 ≤ d) {S : MS} {I : MI} {L : ML} {R : MR} {n : Nat} {p1 : Int32} {p2 : Int32} {v : Int32} (h : f_Mod_turned p1 p2 = some v) : C E y_Mod_turned b_Mod_turned 2 (some .int) tg d 0 0 [.int p1, .int p2] S I L R n (Kq (some (.int v)) S I L R n) := by
  refine C.of (o := [some (.int p1), some (.int p2)]) (by decide) rfl (Nat.le_of_ble_eq_true rfl) ?_
  rw [f_Mod_turned] at h
  refine X.iload_0 (pc := 0) (by decide +kernel) ?_
  refine X.iload_1 (pc := 1) (by decide +kernel) ?_
  refine X.iadd (pc := 2) (by decide +kernel) ?_
  refine X.iconst (pc := 3) (i := 3) (v := 3) ic_3 (by decide +kernel) ?_
  refine X.iadd (pc := 4) (by decide +kernel) ?_
  refine X.iconst (pc := 5) (i := 4) (v := 4) ic_4 (by decide +kernel) ?_
  refine X.irem (pc := 6) (by decide) (by decide +kernel) ?_
  refine X.nameI (fun x1 hx1 => ?_)
  have h := lt_at hx1 h
  have j0 := Option.some.inj h
  subst j0
  exact X.ireturn (pc := 7) (by decide +kernel) ⟨_, rfl, rfl⟩ ⟨rfl, rfl, rfl, rfl, rfl, rfl⟩
set_option maxRecDepth 100000 in
noncomputable def f_Mod_cellBy (S : MS) (R : MR) (I : MI) (t : Nat) (p1 : Int32) (p2 : Int32) : Option Int32 :=
  lt (I t 3) fun (x1 : Int32) =>
  asrt (¬ x1 = 0) <|
  bnd1 (ifb (p2 = 1)
      (some 1)
      (ifb (p2 = 3)
        (some (-1))
        (some 0))) fun (y4 : Int32) =>
  lt ((irm p1 x1) + y4) fun (x8 : Int32) =>
  lt (I t 3) fun (x9 : Int32) =>
  asrt (¬ x9 = 0) <|
  bnd1 (ifb (p2 = 2)
      (some 1)
      (ifb (p2 = 0)
        (some (-1))
        (some 0))) fun (y12 : Int32) =>
  lt ((p1 / x9) + y12) fun (x16 : Int32) =>
  bnd1 (f_Mod_in (Int32.toInt64 x8) 0 (Int32.toInt64 ((I t 3) - 1))) fun x17 =>
  bnd1 (ifb (x17 = 0)
      (some 0)
      (bnd1 (f_Mod_in (Int32.toInt64 x16) 0 (Int32.toInt64 ((I t 4) - 1))) fun x23 =>
      ifb (x23 = 0)
        (some 0)
        (bnd1 (R t 5) fun b26 =>
        lt (((I t 3) * x16) + x8) fun (x27 : Int32) =>
        asrt ((S b26).1 = 20) <|
        asrt (vp_in x27 (S b26).2) <|
        ifb ((I b26 (Int32.toNatClampNeg x27)) = 2)
          (some 0)
          (some 1)))) fun (y20 : Int32) =>
  bnd1 (ifb (y20 = 0)
      (some p1)
      (some (((I t 3) * x16) + x8))) fun (y32 : Int32) =>
  some y32
set_option maxRecDepth 100000 in
set_option maxHeartbeats 4000000 in
theorem c_Mod_cellBy {E : Env} (hE : OKE E) {tg : Bool} {d : Nat} (hd : 1 ≤ d) {S : MS} {I : MI} {L : ML} {R : MR} {n : Nat} {t : Nat} {p1 : Int32} {p2 : Int32} {v : Int32} (hS : (S t).1 = 12) (h : f_Mod_cellBy S R I t p1 p2 = some v) : C E y_Mod_cellBy b_Mod_cellBy 6 (some .int) tg d 0 0 [.ref (e_b E + t), .int p1, .int p2] S I L R n (Kq (some (.int v)) S I L R n) := by
  refine C.of (o := [some (.ref (e_b E + t)), some (.int p1), some (.int p2), none, none, none]) (by decide) rfl (Nat.le_of_ble_eq_true rfl) ?_
  rw [f_Mod_cellBy] at h
  refine X.iload_1 (pc := 0) (by decide +kernel) ?_
  refine X.aload_0 (pc := 1) (by decide +kernel) ?_
  refine X.getI (pc := 2) (k := 3) fw_Mod_34 (by decide +kernel) (fun _ => rfl) hS ?_
  refine X.nameI (fun x1 hx1 => ?_)
  have h := lt_at hx1 h
  obtain ⟨hz2, h⟩ := asrt_some h
  refine X.irem (pc := 5) hz2 (by decide +kernel) ?_
  refine X.iload_2 (pc := 6) (by decide +kernel) ?_
  refine X.iconst (pc := 7) (i := 1) (v := 1) ic_1 (by decide +kernel) ?_
  obtain ⟨y4, hr5, h⟩ := bnd1_some h
  have hj6 : X E y_Mod_cellBy b_Mod_cellBy 6 (some .int) tg d 0 0 25 [some (.ref (e_b E + t)), some (.int p1), some (.int p2), none, none, none] [.int y4, .int (irm p1 x1)] S I L R n (Kq (some (.int v)) S I L R n) := by
    refine X.iadd (pc := 25) (by decide +kernel) ?_
    refine X.nameI (fun x8 hx8 => ?_)
    have h := lt_at hx8 h
    refine X.istore_3 (pc := 26) (by decide +kernel) (by decide) rfl ?_
    refine X.iload_1 (pc := 27) (by decide +kernel) ?_
    refine X.aload_0 (pc := 28) (by decide +kernel) ?_
    refine X.getI (pc := 29) (k := 3) fw_Mod_34 (by decide +kernel) (fun _ => rfl) hS ?_
    refine X.nameI (fun x9 hx9 => ?_)
    have h := lt_at hx9 h
    obtain ⟨hz10, h⟩ := asrt_some h
    refine X.idiv (pc := 32) hz10 (by decide +kernel) ?_
    refine X.iload_2 (pc := 33) (by decide +kernel) ?_
    refine X.iconst (pc := 34) (i := 2) (v := 2) ic_2 (by decide +kernel) ?_
    obtain ⟨y12, hr13, h⟩ := bnd1_some h
    have hj14 : X E y_Mod_cellBy b_Mod_cellBy 6 (some .int) tg d 0 0 51 [some (.ref (e_b E + t)), some (.int p1), none, some (.int x8), none, none] [.int y12, .int (p1 / x9)] S I L R n (Kq (some (.int v)) S I L R n) := by
      refine X.iadd (pc := 51) (by decide +kernel) ?_
      refine X.nameI (fun x16 hx16 => ?_)
      have h := lt_at hx16 h
      refine X.istore_4 (pc := 52) (by decide +kernel) (by decide) rfl ?_
      refine X.iload_3 (pc := 54) (by decide +kernel) ?_
      refine X.i2l (pc := 55) (by decide +kernel) ?_
      refine X.lconst (pc := 56) (i := 0) (v := 0) rfl (by decide +kernel) ?_
      refine X.aload_0 (pc := 57) (by decide +kernel) ?_
      refine X.getI (pc := 58) (k := 3) fw_Mod_34 (by decide +kernel) (fun _ => rfl) hS ?_
      refine X.iconst (pc := 61) (i := 1) (v := 1) ic_1 (by decide +kernel) ?_
      refine X.isub (pc := 62) (by decide +kernel) ?_
      refine X.i2l (pc := 63) (by decide +kernel) ?_
      obtain ⟨x17, hv18, h⟩ := bnd1_some h
      refine X.callSi (pc := 64) (nc := 0) (ns := 0) (c_Mod_in hE (dle hd (Nat.le_of_ble_eq_true rfl)) hv18) cv_Mod_151 (by decide +kernel) (ddd hd (Nat.le_of_ble_eq_true rfl)) rfl (Nat.le_of_ble_eq_true rfl) rfl rfl ?_
      obtain ⟨y20, hr21, h⟩ := bnd1_some h
      have hj22 : X E y_Mod_cellBy b_Mod_cellBy 6 (some .int) tg d 0 0 110 [some (.ref (e_b E + t)), some (.int p1), none, some (.int x8), some (.int x16), none] [.int y20] S I L R n (Kq (some (.int v)) S I L R n) := by
        refine X.istore_5 (pc := 110) (by decide +kernel) (by decide) rfl ?_
        refine X.iload_5 (pc := 112) (by decide +kernel) ?_
        obtain ⟨y32, hr33, h⟩ := bnd1_some h
        have hj34 : X E y_Mod_cellBy b_Mod_cellBy 6 (some .int) tg d 0 0 130 [none, none, none, none, none, none] [.int y32] S I L R n (Kq (some (.int v)) S I L R n) := by
          have j0 := Option.some.inj h
          subst j0
          exact X.ireturn (pc := 130) (by decide +kernel) ⟨_, rfl, rfl⟩ ⟨rfl, rfl, rfl, rfl, rfl, rfl⟩
        have h := hr33
        rcases ifb_some h with ⟨hq31, h⟩ | ⟨hq31, h⟩
        · refine X.if_eq_t (pc := 114) (off := 15) (tgt := 129) hq31 rfl (by decide +kernel) ?_
          refine X.iload_1 (pc := 129) (by decide +kernel) ?_
          have j0 := Option.some.inj h
          subst j0
          refine X.fgt (o' := [none, none, none, none, none, none]) trivial ?_
          exact hj34
        · refine X.if_eq_f (pc := 114) (off := 15) (tgt := 129) hq31 rfl (by decide +kernel) ?_
          refine X.aload_0 (pc := 117) (by decide +kernel) ?_
          refine X.getI (pc := 118) (k := 3) fw_Mod_34 (by decide +kernel) (fun _ => rfl) hS ?_
          refine X.iload_4 (pc := 121) (by decide +kernel) ?_
          refine X.imul (pc := 123) (by decide +kernel) ?_
          refine X.iload_3 (pc := 124) (by decide +kernel) ?_
          refine X.iadd (pc := 125) (by decide +kernel) ?_
          refine X.goto (pc := 126) (off := 4) (tgt := 130) (by decide +kernel) rfl ?_
          have j0 := Option.some.inj h
          subst j0
          refine X.fgt (o' := [none, none, none, none, none, none]) trivial ?_
          exact hj34
      have h := hr21
      rcases ifb_some h with ⟨hq19, h⟩ | ⟨hq19, h⟩
      · refine X.if_eq_t (pc := 67) (off := 42) (tgt := 109) hq19 rfl (by decide +kernel) ?_
        refine X.iconst (pc := 109) (i := 0) (v := 0) ic_0 (by decide +kernel) ?_
        have j0 := Option.some.inj h
        subst j0
        exact hj22
      · refine X.if_eq_f (pc := 67) (off := 42) (tgt := 109) hq19 rfl (by decide +kernel) ?_
        refine X.iload_4 (pc := 70) (by decide +kernel) ?_
        refine X.i2l (pc := 72) (by decide +kernel) ?_
        refine X.lconst (pc := 73) (i := 0) (v := 0) rfl (by decide +kernel) ?_
        refine X.aload_0 (pc := 74) (by decide +kernel) ?_
        refine X.getI (pc := 75) (k := 4) fw_Mod_37 (by decide +kernel) (fun _ => rfl) hS ?_
        refine X.iconst (pc := 78) (i := 1) (v := 1) ic_1 (by decide +kernel) ?_
        refine X.isub (pc := 79) (by decide +kernel) ?_
        refine X.i2l (pc := 80) (by decide +kernel) ?_
        obtain ⟨x23, hv24, h⟩ := bnd1_some h
        refine X.callSi (pc := 81) (nc := 0) (ns := 0) (c_Mod_in hE (dle hd (Nat.le_of_ble_eq_true rfl)) hv24) cv_Mod_151 (by decide +kernel) (ddd hd (Nat.le_of_ble_eq_true rfl)) rfl (Nat.le_of_ble_eq_true rfl) rfl rfl ?_
        rcases ifb_some h with ⟨hq25, h⟩ | ⟨hq25, h⟩
        · refine X.if_eq_t (pc := 84) (off := 25) (tgt := 109) hq25 rfl (by decide +kernel) ?_
          refine X.iconst (pc := 109) (i := 0) (v := 0) ic_0 (by decide +kernel) ?_
          have j0 := Option.some.inj h
          subst j0
          exact hj22
        · refine X.if_eq_f (pc := 84) (off := 25) (tgt := 109) hq25 rfl (by decide +kernel) ?_
          refine X.aload_0 (pc := 87) (by decide +kernel) ?_
          obtain ⟨b26, hb26, h⟩ := bnd1_some h
          refine X.getR (pc := 88) (k := 5) fw_Mod_40 (by decide +kernel) (fun _ => rfl) hS hb26 ?_
          refine X.aload_0 (pc := 91) (by decide +kernel) ?_
          refine X.getI (pc := 92) (k := 3) fw_Mod_34 (by decide +kernel) (fun _ => rfl) hS ?_
          refine X.iload_4 (pc := 95) (by decide +kernel) ?_
          refine X.imul (pc := 97) (by decide +kernel) ?_
          refine X.iload_3 (pc := 98) (by decide +kernel) ?_
          refine X.iadd (pc := 99) (by decide +kernel) ?_
          refine X.nameI (fun x27 hx27 => ?_)
          have h := lt_at hx27 h
          obtain ⟨hc29, h⟩ := asrt_some h
          obtain ⟨hi28, h⟩ := asrt_some h
          refine X.iaload (pc := 100) (by decide +kernel) hc29 hi28 ?_
          refine X.iconst (pc := 101) (i := 2) (v := 2) ic_2 (by decide +kernel) ?_
          rcases ifb_some h with ⟨hq30, h⟩ | ⟨hq30, h⟩
          · refine X.icmp_eq_t (pc := 102) (off := 7) (tgt := 109) hq30 rfl (by decide +kernel) ?_
            refine X.iconst (pc := 109) (i := 0) (v := 0) ic_0 (by decide +kernel) ?_
            have j0 := Option.some.inj h
            subst j0
            exact hj22
          · refine X.icmp_eq_f (pc := 102) (off := 7) (tgt := 109) hq30 rfl (by decide +kernel) ?_
            refine X.iconst (pc := 105) (i := 1) (v := 1) ic_1 (by decide +kernel) ?_
            refine X.goto (pc := 106) (off := 4) (tgt := 110) (by decide +kernel) rfl ?_
            have j0 := Option.some.inj h
            subst j0
            exact hj22
    have h := hr13
    rcases ifb_some h with ⟨hq11, h⟩ | ⟨hq11, h⟩
    · refine X.icmp_ne_f (pc := 35) (off := 7) (tgt := 42) hq11 rfl (by decide +kernel) ?_
      refine X.iconst (pc := 38) (i := 1) (v := 1) ic_1 (by decide +kernel) ?_
      refine X.goto (pc := 39) (off := 12) (tgt := 51) (by decide +kernel) rfl ?_
      have j0 := Option.some.inj h
      subst j0
      refine X.fgt (o' := [some (.ref (e_b E + t)), some (.int p1), none, some (.int x8), none, none]) ⟨rfl, ⟨rfl, ⟨rfl, trivial⟩⟩⟩ ?_
      exact hj14
    · refine X.icmp_ne_t (pc := 35) (off := 7) (tgt := 42) hq11 rfl (by decide +kernel) ?_
      refine X.iload_2 (pc := 42) (by decide +kernel) ?_
      rcases ifb_some h with ⟨hq15, h⟩ | ⟨hq15, h⟩
      · refine X.if_ne_f (pc := 43) (off := 7) (tgt := 50) hq15 rfl (by decide +kernel) ?_
        refine X.iconst (pc := 46) (i := (-1)) (v := (-1)) ic_m1 (by decide +kernel) ?_
        refine X.goto (pc := 47) (off := 4) (tgt := 51) (by decide +kernel) rfl ?_
        have j0 := Option.some.inj h
        subst j0
        refine X.fgt (o' := [some (.ref (e_b E + t)), some (.int p1), none, some (.int x8), none, none]) ⟨rfl, ⟨rfl, ⟨rfl, trivial⟩⟩⟩ ?_
        exact hj14
      · refine X.if_ne_t (pc := 43) (off := 7) (tgt := 50) hq15 rfl (by decide +kernel) ?_
        refine X.iconst (pc := 50) (i := 0) (v := 0) ic_0 (by decide +kernel) ?_
        have j0 := Option.some.inj h
        subst j0
        refine X.fgt (o' := [some (.ref (e_b E + t)), some (.int p1), none, some (.int x8), none, none]) ⟨rfl, ⟨rfl, ⟨rfl, trivial⟩⟩⟩ ?_
        exact hj14
  have h := hr5
  rcases ifb_some h with ⟨hq3, h⟩ | ⟨hq3, h⟩
  · refine X.icmp_ne_f (pc := 8) (off := 7) (tgt := 15) hq3 rfl (by decide +kernel) ?_
    refine X.iconst (pc := 11) (i := 1) (v := 1) ic_1 (by decide +kernel) ?_
    refine X.goto (pc := 12) (off := 13) (tgt := 25) (by decide +kernel) rfl ?_
    have j0 := Option.some.inj h
    subst j0
    exact hj6
  · refine X.icmp_ne_t (pc := 8) (off := 7) (tgt := 15) hq3 rfl (by decide +kernel) ?_
    refine X.iload_2 (pc := 15) (by decide +kernel) ?_
    refine X.iconst (pc := 16) (i := 3) (v := 3) ic_3 (by decide +kernel) ?_
    rcases ifb_some h with ⟨hq7, h⟩ | ⟨hq7, h⟩
    · refine X.icmp_ne_f (pc := 17) (off := 7) (tgt := 24) hq7 rfl (by decide +kernel) ?_
      refine X.iconst (pc := 20) (i := (-1)) (v := (-1)) ic_m1 (by decide +kernel) ?_
      refine X.goto (pc := 21) (off := 4) (tgt := 25) (by decide +kernel) rfl ?_
      have j0 := Option.some.inj h
      subst j0
      exact hj6
    · refine X.icmp_ne_t (pc := 17) (off := 7) (tgt := 24) hq7 rfl (by decide +kernel) ?_
      refine X.iconst (pc := 24) (i := 0) (v := 0) ic_0 (by decide +kernel) ?_
      have j0 := Option.some.inj h
      subst j0
      exact hj6
set_option maxRecDepth 100000 in
noncomputable def f_Mod_steps (S : MS) (R : MR) (I : MI) (t : Nat) (p1 : Int32) : Option (Int32 × MI) :=
  bnd1 (f_Mod_turned (I t 8) p1) fun x1 =>
  lt (wI I t 8 x1) fun (I3 : MI) =>
  bnd1 (f_Mod_cellBy S R I3 t (I3 t 7) (I3 t 8)) fun x4 =>
  bnd1 (R t 15) fun b6 =>
  bnd1 (ifb (x4 = (I3 t 7))
      (lt (I3 t 7) fun (x11 : Int32) =>
      asrt ((S b6).1 = 20) <|
      asrt (vp_in x11 (S b6).2) <|
      some (I3 b6 (Int32.toNatClampNeg x11)))
      (some x4)) fun (y8 : Int32) =>
  asrt ((S b6).1 = 20) <|
  asrt (vp_in (I3 t 7) (S b6).2) <|
  lt (wI I3 b6 (Int32.toNatClampNeg (I3 t 7)) y8) fun (I16 : MI) =>
  lt (wI I16 t 7 x4) fun (I17 : MI) =>
  lt ((I17 t 13) + 1) fun (x18 : Int32) =>
  lt (wI I17 t 13 x18) fun (I19 : MI) =>
  lt (I19 t 7) fun (x20 : Int32) =>
  some (x20, I19)
set_option maxRecDepth 100000 in
set_option maxHeartbeats 4000000 in
theorem c_Mod_steps {E : Env} (hE : OKE E) {tg : Bool} {d : Nat} (hd : 2 ≤ d) {S : MS} {I : MI} {L : ML} {R : MR} {n : Nat} {t : Nat} {p1 : Int32} {v : Int32} {I' : MI} (hS : (S t).1 = 12) (h : f_Mod_steps S R I t p1 = some (v, I')) : C E y_Mod_steps b_Mod_steps 3 (some .int) tg d 0 0 [.ref (e_b E + t), .int p1] S I L R n (Kq (some (.int v)) S I' L R n) := by
  refine C.of (o := [some (.ref (e_b E + t)), some (.int p1), none]) (by decide) rfl (Nat.le_of_ble_eq_true rfl) ?_
  rw [f_Mod_steps] at h
  refine X.aload_0 (pc := 0) (by decide +kernel) ?_
  refine X.aload_0 (pc := 1) (by decide +kernel) ?_
  refine X.getI (pc := 2) (k := 8) fw_Mod_207 (by decide +kernel) (fun _ => rfl) hS ?_
  refine X.iload_1 (pc := 5) (by decide +kernel) ?_
  obtain ⟨x1, hv2, h⟩ := bnd1_some h
  refine X.callSi (pc := 6) (nc := 0) (ns := 0) (c_Mod_turned hE (dle hd (Nat.le_of_ble_eq_true rfl)) hv2) cv_Mod_249 (by decide +kernel) (ddd hd (Nat.le_of_ble_eq_true rfl)) rfl (Nat.le_of_ble_eq_true rfl) rfl rfl ?_
  refine X.putI (pc := 9) (k := 8) fw_Mod_207 (by decide +kernel) rfl rfl hS ?_
  refine X.nameMI (fun I3 hI3 => ?_)
  have h := lt_at hI3 h
  refine X.aload_0 (pc := 12) (by decide +kernel) ?_
  refine X.aload_0 (pc := 13) (by decide +kernel) ?_
  refine X.getI (pc := 14) (k := 7) fw_Mod_204 (by decide +kernel) (fun _ => rfl) hS ?_
  refine X.aload_0 (pc := 17) (by decide +kernel) ?_
  refine X.getI (pc := 18) (k := 8) fw_Mod_207 (by decide +kernel) (fun _ => rfl) hS ?_
  obtain ⟨x4, hv5, h⟩ := bnd1_some h
  refine X.callVi (pc := 21) (nc := 0) (ns := 0) (c_Mod_cellBy hE (dle hd (Nat.le_of_ble_eq_true rfl)) hS hv5) cv_Mod_252 (by decide +kernel) hS ⟨by decide, rfl⟩ (ddd hd (Nat.le_of_ble_eq_true rfl)) rfl (Nat.le_of_ble_eq_true rfl) rfl rfl ?_
  refine X.istore_2 (pc := 24) (by decide +kernel) (by decide) rfl ?_
  refine X.aload_0 (pc := 25) (by decide +kernel) ?_
  obtain ⟨b6, hb6, h⟩ := bnd1_some h
  refine X.getR (pc := 26) (k := 15) fw_Mod_56 (by decide +kernel) (fun _ => rfl) hS hb6 ?_
  refine X.aload_0 (pc := 29) (by decide +kernel) ?_
  refine X.getI (pc := 30) (k := 7) fw_Mod_204 (by decide +kernel) (fun _ => rfl) hS ?_
  refine X.iload_2 (pc := 33) (by decide +kernel) ?_
  refine X.aload_0 (pc := 34) (by decide +kernel) ?_
  refine X.getI (pc := 35) (k := 7) fw_Mod_204 (by decide +kernel) (fun _ => rfl) hS ?_
  obtain ⟨y8, hr9, h⟩ := bnd1_some h
  have hj10 : X E y_Mod_steps b_Mod_steps 3 (some .int) tg d 0 0 54 [some (.ref (e_b E + t)), none, some (.int x4)] [.int y8, .int (I3 t 7), .ref (e_b E + b6)] S I3 L R n (Kq (some (.int v)) S I' L R n) := by
    obtain ⟨hc14, h⟩ := asrt_some h
    obtain ⟨hi15, h⟩ := asrt_some h
    refine X.iastore (pc := 54) (by decide +kernel) hc14 hi15 ?_
    refine X.nameMI (fun I16 hI16 => ?_)
    have h := lt_at hI16 h
    refine X.aload_0 (pc := 55) (by decide +kernel) ?_
    refine X.iload_2 (pc := 56) (by decide +kernel) ?_
    refine X.putI (pc := 57) (k := 7) fw_Mod_204 (by decide +kernel) rfl rfl hS ?_
    refine X.nameMI (fun I17 hI17 => ?_)
    have h := lt_at hI17 h
    refine X.aload_0 (pc := 60) (by decide +kernel) ?_
    refine X.dupr (pc := 61) (by decide +kernel) ?_
    refine X.getI (pc := 62) (k := 13) fw_Mod_210 (by decide +kernel) (fun _ => rfl) hS ?_
    refine X.iconst (pc := 65) (i := 1) (v := 1) ic_1 (by decide +kernel) ?_
    refine X.iadd (pc := 66) (by decide +kernel) ?_
    refine X.nameI (fun x18 hx18 => ?_)
    have h := lt_at hx18 h
    refine X.putI (pc := 67) (k := 13) fw_Mod_210 (by decide +kernel) rfl rfl hS ?_
    refine X.nameMI (fun I19 hI19 => ?_)
    have h := lt_at hI19 h
    refine X.aload_0 (pc := 70) (by decide +kernel) ?_
    refine X.getI (pc := 71) (k := 7) fw_Mod_204 (by decide +kernel) (fun _ => rfl) hS ?_
    refine X.nameI (fun x20 hx20 => ?_)
    have h := lt_at hx20 h
    have j0 := Option.some.inj h
    obtain ⟨i0, j1⟩ := Prod.mk.inj j0
    subst i0
    subst j1
    exact X.ireturn (pc := 74) (by decide +kernel) ⟨_, rfl, rfl⟩ ⟨rfl, rfl, rfl, rfl, rfl, rfl⟩
  have h := hr9
  rcases ifb_some h with ⟨hq7, h⟩ | ⟨hq7, h⟩
  · refine X.icmp_ne_f (pc := 38) (off := 15) (tgt := 53) hq7 rfl (by decide +kernel) ?_
    refine X.aload_0 (pc := 41) (by decide +kernel) ?_
    refine X.getR (pc := 42) (k := 15) fw_Mod_56 (by decide +kernel) (fun _ => rfl) hS hb6 ?_
    refine X.aload_0 (pc := 45) (by decide +kernel) ?_
    refine X.getI (pc := 46) (k := 7) fw_Mod_204 (by decide +kernel) (fun _ => rfl) hS ?_
    refine X.nameI (fun x11 hx11 => ?_)
    have h := lt_at hx11 h
    obtain ⟨hc13, h⟩ := asrt_some h
    obtain ⟨hi12, h⟩ := asrt_some h
    refine X.iaload (pc := 49) (by decide +kernel) hc13 hi12 ?_
    refine X.goto (pc := 50) (off := 4) (tgt := 54) (by decide +kernel) rfl ?_
    have j0 := Option.some.inj h
    subst j0
    refine X.fgt (o' := [some (.ref (e_b E + t)), none, some (.int x4)]) ⟨rfl, ⟨rfl, trivial⟩⟩ ?_
    exact hj10
  · refine X.icmp_ne_t (pc := 38) (off := 15) (tgt := 53) hq7 rfl (by decide +kernel) ?_
    refine X.iload_2 (pc := 53) (by decide +kernel) ?_
    have j0 := Option.some.inj h
    subst j0
    refine X.fgt (o' := [some (.ref (e_b E + t)), none, some (.int x4)]) ⟨rfl, ⟨rfl, trivial⟩⟩ ?_
    exact hj10
set_option maxRecDepth 100000 in
noncomputable def f_Mod_step (g : Nat) (S : MS) (R : MR) (I : MI) (t : Nat) (p1 : Int32) : Option (Int32 × MI) :=
  lt (wI I t 0 0) fun (I1 : MI) =>
  bnd1 (f_Mod_isTurn p1) fun x2 =>
  ifb (x2 = 0)
    (some ((-1), I1))
    (bnd1 (f_Mod_isEnd S R I1 t (I1 t 7)) fun x5 =>
    ifb (x5 = 0)
      (bnd1 (f_Mod_putsBy g S R I1 t) fun I8 =>
      bnd2 (f_Mod_steps S R I8 t p1) fun x10 I11 =>
      some (x10, I11))
      (some ((-2), I1)))
set_option maxRecDepth 100000 in
set_option maxHeartbeats 4000000 in
theorem c_Mod_step {E : Env} (hE : OKE E) {tg : Bool} {d : Nat} (hd : 3 ≤ d) {g : Nat} {S : MS} {I : MI} {L : ML} {R : MR} {n : Nat} {t : Nat} {p1 : Int32} {v : Int32} {I' : MI} (hS : (S t).1 = 12) (h : f_Mod_step g S R I t p1 = some (v, I')) : C E y_Mod_step b_Mod_step 2 (some .int) tg d 0 0 [.ref (e_b E + t), .int p1] S I L R n (Kq (some (.int v)) S I' L R n) := by
  refine C.of (o := [some (.ref (e_b E + t)), some (.int p1)]) (by decide) rfl (Nat.le_of_ble_eq_true rfl) ?_
  rw [f_Mod_step] at h
  refine X.aload_0 (pc := 0) (by decide +kernel) ?_
  refine X.iconst (pc := 1) (i := 0) (v := 0) ic_0 (by decide +kernel) ?_
  refine X.putI (pc := 2) (k := 0) fw_Mod_3 (by decide +kernel) rfl rfl hS ?_
  refine X.nameMI (fun I1 hI1 => ?_)
  have h := lt_at hI1 h
  refine X.iload_1 (pc := 5) (by decide +kernel) ?_
  obtain ⟨x2, hv3, h⟩ := bnd1_some h
  refine X.callSi (pc := 6) (nc := 0) (ns := 0) (c_Mod_isTurn hE (dle hd (Nat.le_of_ble_eq_true rfl)) hv3) cv_Mod_261 (by decide +kernel) (ddd hd (Nat.le_of_ble_eq_true rfl)) rfl (Nat.le_of_ble_eq_true rfl) rfl rfl ?_
  rcases ifb_some h with ⟨hq4, h⟩ | ⟨hq4, h⟩
  · refine X.if_ne_f (pc := 9) (off := 5) (tgt := 14) hq4 rfl (by decide +kernel) ?_
    refine X.iconst (pc := 12) (i := (-1)) (v := (-1)) ic_m1 (by decide +kernel) ?_
    have j0 := Option.some.inj h
    obtain ⟨i0, j1⟩ := Prod.mk.inj j0
    subst i0
    subst j1
    exact X.ireturn (pc := 13) (by decide +kernel) ⟨_, rfl, rfl⟩ ⟨rfl, rfl, rfl, rfl, rfl, rfl⟩
  · refine X.if_ne_t (pc := 9) (off := 5) (tgt := 14) hq4 rfl (by decide +kernel) ?_
    refine X.aload_0 (pc := 14) (by decide +kernel) ?_
    refine X.aload_0 (pc := 15) (by decide +kernel) ?_
    refine X.getI (pc := 16) (k := 7) fw_Mod_204 (by decide +kernel) (fun _ => rfl) hS ?_
    obtain ⟨x5, hv6, h⟩ := bnd1_some h
    refine X.callVi (pc := 19) (nc := 0) (ns := 0) (c_Mod_isEnd hE (dle hd (Nat.le_of_ble_eq_true rfl)) hS hv6) cv_Mod_264 (by decide +kernel) hS ⟨by decide, rfl⟩ (ddd hd (Nat.le_of_ble_eq_true rfl)) rfl (Nat.le_of_ble_eq_true rfl) rfl rfl ?_
    rcases ifb_some h with ⟨hq7, h⟩ | ⟨hq7, h⟩
    · refine X.if_eq_t (pc := 22) (off := 6) (tgt := 28) hq7 rfl (by decide +kernel) ?_
      refine X.aload_0 (pc := 28) (by decide +kernel) ?_
      obtain ⟨I8, hv9, h⟩ := bnd1_some h
      refine X.callVv (pc := 29) (nc := 0) (ns := 0) (c_Mod_putsBy hE (dle hd (Nat.le_of_ble_eq_true rfl)) hS hv9) cv_Mod_267 (by decide +kernel) hS ⟨by decide, rfl⟩ (ddd hd (Nat.le_of_ble_eq_true rfl)) rfl (Nat.le_of_ble_eq_true rfl) rfl rfl ?_
      refine X.aload_0 (pc := 32) (by decide +kernel) ?_
      refine X.iload_1 (pc := 33) (by decide +kernel) ?_
      obtain ⟨x10, I11, hv12, h⟩ := bnd2_some h
      refine X.callVi (pc := 34) (nc := 0) (ns := 0) (c_Mod_steps hE (dle hd (Nat.le_of_ble_eq_true rfl)) hS hv12) cv_Mod_270 (by decide +kernel) hS ⟨by decide, rfl⟩ (ddd hd (Nat.le_of_ble_eq_true rfl)) rfl (Nat.le_of_ble_eq_true rfl) rfl rfl ?_
      have j0 := Option.some.inj h
      obtain ⟨i0, j1⟩ := Prod.mk.inj j0
      subst i0
      subst j1
      exact X.ireturn (pc := 37) (by decide +kernel) ⟨_, rfl, rfl⟩ ⟨rfl, rfl, rfl, rfl, rfl, rfl⟩
    · refine X.if_eq_f (pc := 22) (off := 6) (tgt := 28) hq7 rfl (by decide +kernel) ?_
      refine X.bipush (pc := 25) (i := (-2)) (v := (-2)) bp_m2 (by decide +kernel) ?_
      have j0 := Option.some.inj h
      obtain ⟨i0, j1⟩ := Prod.mk.inj j0
      subst i0
      subst j1
      exact X.ireturn (pc := 27) (by decide +kernel) ⟨_, rfl, rfl⟩ ⟨rfl, rfl, rfl, rfl, rfl, rfl⟩
set_option maxRecDepth 100000 in
noncomputable def f_Mod_draws (S : MS) (I : MI) (t : Nat) (p1 : Int32) : Option (Int32 × MI) :=
  lt (((I t 12) * 1103515245) + 12345) fun (x1 : Int32) =>
  lt (wI I t 12 x1) fun (I2 : MI) =>
  asrt (¬ p1 = 0) <|
  lt (irm (ius (I2 t 12) 16) p1) fun (x4 : Int32) =>
  some (x4, I2)
set_option maxRecDepth 100000 in
set_option maxHeartbeats 4000000 in
theorem c_Mod_draws {E : Env} (hE : OKE E) {tg : Bool} {d : Nat} (hd : 0 ≤ d) {S : MS} {I : MI} {L : ML} {R : MR} {n : Nat} {t : Nat} {p1 : Int32} {v : Int32} {I' : MI} (hS : (S t).1 = 12) (h : f_Mod_draws S I t p1 = some (v, I')) : C E y_Mod_draws b_Mod_draws 2 (some .int) tg d 0 0 [.ref (e_b E + t), .int p1] S I L R n (Kq (some (.int v)) S I' L R n) := by
  refine C.of (o := [some (.ref (e_b E + t)), some (.int p1)]) (by decide) rfl (Nat.le_of_ble_eq_true rfl) ?_
  rw [f_Mod_draws] at h
  refine X.aload_0 (pc := 0) (by decide +kernel) ?_
  refine X.aload_0 (pc := 1) (by decide +kernel) ?_
  refine X.getI (pc := 2) (k := 12) fw_Mod_53 (by decide +kernel) (fun _ => rfl) hS ?_
  refine X.ldc (pc := 5) (x := 255) (v := 1103515245) ld_Mod_255 (by decide +kernel) ?_
  refine X.imul (pc := 7) (by decide +kernel) ?_
  refine X.sipush (pc := 8) (i := 12345) (v := 12345) sp_12345 (by decide +kernel) ?_
  refine X.iadd (pc := 11) (by decide +kernel) ?_
  refine X.nameI (fun x1 hx1 => ?_)
  have h := lt_at hx1 h
  refine X.putI (pc := 12) (k := 12) fw_Mod_53 (by decide +kernel) rfl rfl hS ?_
  refine X.nameMI (fun I2 hI2 => ?_)
  have h := lt_at hI2 h
  refine X.aload_0 (pc := 15) (by decide +kernel) ?_
  refine X.getI (pc := 16) (k := 12) fw_Mod_53 (by decide +kernel) (fun _ => rfl) hS ?_
  refine X.bipush (pc := 19) (i := 16) (v := 16) bp_16 (by decide +kernel) ?_
  refine X.iushr (pc := 21) (by decide +kernel) ?_
  refine X.iload_1 (pc := 22) (by decide +kernel) ?_
  obtain ⟨hz3, h⟩ := asrt_some h
  refine X.irem (pc := 23) hz3 (by decide +kernel) ?_
  refine X.nameI (fun x4 hx4 => ?_)
  have h := lt_at hx4 h
  have j0 := Option.some.inj h
  obtain ⟨i0, j1⟩ := Prod.mk.inj j0
  subst i0
  subst j1
  exact X.ireturn (pc := 24) (by decide +kernel) ⟨_, rfl, rfl⟩ ⟨rfl, rfl, rfl, rfl, rfl, rfl⟩
set_option maxRecDepth 100000 in
noncomputable def f_Mod_turnByWeights (S : MS) (R : MR) (I : MI) (t : Nat) : Option (Int32 × MI) :=
  bnd2 (f_Mod_draws S I t 10) fun x1 I2 =>
  bnd1 (R t 9) fun b4 =>
  asrt ((S b4).1 = 20) <|
  asrt (vp_in 0 (S b4).2) <|
  bnd1 (ifb ((I2 b4 (Int32.toNatClampNeg 0)) ≤ x1)
      (asrt (vp_in 0 (S b4).2) <|
      asrt (vp_in 1 (S b4).2) <|
      ifb (((I2 b4 (Int32.toNatClampNeg 0)) + (I2 b4 (Int32.toNatClampNeg 1))) ≤ x1)
        (some 2)
        (some 1))
      (some 0)) fun (y8 : Int32) =>
  some (y8, I2)
set_option maxRecDepth 100000 in
set_option maxHeartbeats 4000000 in
theorem c_Mod_turnByWeights {E : Env} (hE : OKE E) {tg : Bool} {d : Nat} (hd : 1 ≤ d) {S : MS} {I : MI} {L : ML} {R : MR} {n : Nat} {t : Nat} {v : Int32} {I' : MI} (hS : (S t).1 = 12) (h : f_Mod_turnByWeights S R I t = some (v, I')) : C E y_Mod_turnByWeights b_Mod_turnByWeights 2 (some .int) tg d 0 0 [.ref (e_b E + t)] S I L R n (Kq (some (.int v)) S I' L R n) := by
  refine C.of (o := [some (.ref (e_b E + t)), none]) (by decide) rfl (Nat.le_of_ble_eq_true rfl) ?_
  rw [f_Mod_turnByWeights] at h
  refine X.aload_0 (pc := 0) (by decide +kernel) ?_
  refine X.bipush (pc := 1) (i := 10) (v := 10) bp_10 (by decide +kernel) ?_
  obtain ⟨x1, I2, hv3, h⟩ := bnd2_some h
  refine X.callVi (pc := 3) (nc := 0) (ns := 0) (c_Mod_draws hE (dle hd (Nat.le_of_ble_eq_true rfl)) hS hv3) cv_Mod_256 (by decide +kernel) hS ⟨by decide, rfl⟩ (ddd hd (Nat.le_of_ble_eq_true rfl)) rfl (Nat.le_of_ble_eq_true rfl) rfl rfl ?_
  refine X.istore_1 (pc := 6) (by decide +kernel) (by decide) rfl ?_
  refine X.iload_1 (pc := 7) (by decide +kernel) ?_
  refine X.aload_0 (pc := 8) (by decide +kernel) ?_
  obtain ⟨b4, hb4, h⟩ := bnd1_some h
  refine X.getR (pc := 9) (k := 9) fw_Mod_44 (by decide +kernel) (fun _ => rfl) hS hb4 ?_
  refine X.iconst (pc := 12) (i := 0) (v := 0) ic_0 (by decide +kernel) ?_
  obtain ⟨hc6, h⟩ := asrt_some h
  obtain ⟨hi5, h⟩ := asrt_some h
  refine X.iaload (pc := 13) (by decide +kernel) hc6 hi5 ?_
  obtain ⟨y8, hr9, h⟩ := bnd1_some h
  have hj10 : X E y_Mod_turnByWeights b_Mod_turnByWeights 2 (some .int) tg d 0 0 43 [none, none] [.int y8] S I2 L R n (Kq (some (.int v)) S I' L R n) := by
    have j0 := Option.some.inj h
    obtain ⟨i0, j1⟩ := Prod.mk.inj j0
    subst i0
    subst j1
    exact X.ireturn (pc := 43) (by decide +kernel) ⟨_, rfl, rfl⟩ ⟨rfl, rfl, rfl, rfl, rfl, rfl⟩
  have h := hr9
  rcases ifb_some h with ⟨hq7, h⟩ | ⟨hq7, h⟩
  · refine X.icmp_ge_t (pc := 14) (off := 7) (tgt := 21) hq7 rfl (by decide +kernel) ?_
    refine X.iload_1 (pc := 21) (by decide +kernel) ?_
    refine X.aload_0 (pc := 22) (by decide +kernel) ?_
    refine X.getR (pc := 23) (k := 9) fw_Mod_44 (by decide +kernel) (fun _ => rfl) hS hb4 ?_
    refine X.iconst (pc := 26) (i := 0) (v := 0) ic_0 (by decide +kernel) ?_
    obtain ⟨hi11, h⟩ := asrt_some h
    refine X.iaload (pc := 27) (by decide +kernel) hc6 hi11 ?_
    refine X.aload_0 (pc := 28) (by decide +kernel) ?_
    refine X.getR (pc := 29) (k := 9) fw_Mod_44 (by decide +kernel) (fun _ => rfl) hS hb4 ?_
    refine X.iconst (pc := 32) (i := 1) (v := 1) ic_1 (by decide +kernel) ?_
    obtain ⟨hi12, h⟩ := asrt_some h
    refine X.iaload (pc := 33) (by decide +kernel) hc6 hi12 ?_
    refine X.iadd (pc := 34) (by decide +kernel) ?_
    rcases ifb_some h with ⟨hq13, h⟩ | ⟨hq13, h⟩
    · refine X.icmp_ge_t (pc := 35) (off := 7) (tgt := 42) hq13 rfl (by decide +kernel) ?_
      refine X.iconst (pc := 42) (i := 2) (v := 2) ic_2 (by decide +kernel) ?_
      have j0 := Option.some.inj h
      subst j0
      refine X.fgt (o' := [none, none]) trivial ?_
      exact hj10
    · refine X.icmp_ge_f (pc := 35) (off := 7) (tgt := 42) hq13 rfl (by decide +kernel) ?_
      refine X.iconst (pc := 38) (i := 1) (v := 1) ic_1 (by decide +kernel) ?_
      refine X.goto (pc := 39) (off := 4) (tgt := 43) (by decide +kernel) rfl ?_
      have j0 := Option.some.inj h
      subst j0
      refine X.fgt (o' := [none, none]) trivial ?_
      exact hj10
  · refine X.icmp_ge_f (pc := 14) (off := 7) (tgt := 21) hq7 rfl (by decide +kernel) ?_
    refine X.iconst (pc := 17) (i := 0) (v := 0) ic_0 (by decide +kernel) ?_
    refine X.goto (pc := 18) (off := 25) (tgt := 43) (by decide +kernel) rfl ?_
    have j0 := Option.some.inj h
    subst j0
    refine X.fgt (o' := [none, none]) trivial ?_
    exact hj10
set_option maxRecDepth 100000 in
noncomputable def f_Mod_enters (S : MS) (R : MR) (I : MI) (L : ML) (t : Nat) (p1 : Int64) : Option (MI × ML) :=
  bnd1 (R t 2) fun b1 =>
  asrt ((S b1).1 = 21) <|
  asrt (vp_in (I t 1) (S b1).2) <|
  lt (wL L b1 (Int32.toNatClampNeg (I t 1)) p1) fun (L4 : ML) =>
  lt ((I t 1) + 1) fun (x5 : Int32) =>
  lt (wI I t 1 x5) fun (I6 : MI) =>
  some (I6, L4)
set_option maxRecDepth 100000 in
set_option maxHeartbeats 4000000 in
theorem c_Mod_enters {E : Env} (hE : OKE E) {tg : Bool} {d : Nat} (hd : 0 ≤ d) {S : MS} {I : MI} {L : ML} {R : MR} {n : Nat} {t : Nat} {p1 : Int64} {I' : MI} {L' : ML} (hS : (S t).1 = 12) (h : f_Mod_enters S R I L t p1 = some (I', L')) : C E y_Mod_enters b_Mod_enters 3 none tg d 0 0 [.ref (e_b E + t), .long p1] S I L R n (Kq none S I' L' R n) := by
  refine C.of (o := [some (.ref (e_b E + t)), some (.long p1), none]) (by decide) rfl (Nat.le_of_ble_eq_true rfl) ?_
  rw [f_Mod_enters] at h
  refine X.aload_0 (pc := 0) (by decide +kernel) ?_
  obtain ⟨b1, hb1, h⟩ := bnd1_some h
  refine X.getR (pc := 1) (k := 2) fw_Mod_17 (by decide +kernel) (fun _ => rfl) hS hb1 ?_
  refine X.aload_0 (pc := 4) (by decide +kernel) ?_
  refine X.getI (pc := 5) (k := 1) fw_Mod_21 (by decide +kernel) (fun _ => rfl) hS ?_
  refine X.lload_1 (pc := 8) (by decide +kernel) ?_
  obtain ⟨hc2, h⟩ := asrt_some h
  obtain ⟨hi3, h⟩ := asrt_some h
  refine X.lastore (pc := 9) (by decide +kernel) hc2 hi3 ?_
  refine X.nameML (fun L4 hL4 => ?_)
  have h := lt_at hL4 h
  refine X.aload_0 (pc := 10) (by decide +kernel) ?_
  refine X.dupr (pc := 11) (by decide +kernel) ?_
  refine X.getI (pc := 12) (k := 1) fw_Mod_21 (by decide +kernel) (fun _ => rfl) hS ?_
  refine X.iconst (pc := 15) (i := 1) (v := 1) ic_1 (by decide +kernel) ?_
  refine X.iadd (pc := 16) (by decide +kernel) ?_
  refine X.nameI (fun x5 hx5 => ?_)
  have h := lt_at hx5 h
  refine X.putI (pc := 17) (k := 1) fw_Mod_21 (by decide +kernel) rfl rfl hS ?_
  refine X.nameMI (fun I6 hI6 => ?_)
  have h := lt_at hI6 h
  have j0 := Option.some.inj h
  obtain ⟨i0, j1⟩ := Prod.mk.inj j0
  subst i0
  subst j1
  exact X.vreturn (pc := 20) (by decide +kernel) rfl ⟨rfl, rfl, rfl, rfl, rfl, rfl⟩
set_option maxRecDepth 100000 in
noncomputable def f_Mod_alone (g : Nat) (S : MS) (R : MR) (I : MI) (L : ML) (t : Nat) : Option (Int32 × MI × ML) :=
  lt (wI I t 0 0) fun (I1 : MI) =>
  bnd1 (f_Mod_isEnd S R I1 t (I1 t 7)) fun x2 =>
  ifb (x2 = 0)
    (bnd1 (f_Mod_putsBy g S R I1 t) fun I5 =>
    bnd2 (f_Mod_turnByWeights S R I5 t) fun x7 I8 =>
    lt (wI I8 t 1 0) fun (I10 : MI) =>
    bnd2 (f_Mod_enters S R I10 L t (Int32.toInt64 x7)) fun I11 L12 =>
    bnd2 (f_Mod_steps S R I11 t x7) fun x14 I15 =>
    some (x14, I15, L12))
    (some ((-2), I1, L))
set_option maxRecDepth 100000 in
set_option maxHeartbeats 4000000 in
theorem c_Mod_alone {E : Env} (hE : OKE E) {tg : Bool} {d : Nat} (hd : 3 ≤ d) {g : Nat} {S : MS} {I : MI} {L : ML} {R : MR} {n : Nat} {t : Nat} {v : Int32} {I' : MI} {L' : ML} (hS : (S t).1 = 12) (h : f_Mod_alone g S R I L t = some (v, I', L')) : C E y_Mod_alone b_Mod_alone 2 (some .int) tg d 0 0 [.ref (e_b E + t)] S I L R n (Kq (some (.int v)) S I' L' R n) := by
  refine C.of (o := [some (.ref (e_b E + t)), none]) (by decide) rfl (Nat.le_of_ble_eq_true rfl) ?_
  rw [f_Mod_alone] at h
  refine X.aload_0 (pc := 0) (by decide +kernel) ?_
  refine X.iconst (pc := 1) (i := 0) (v := 0) ic_0 (by decide +kernel) ?_
  refine X.putI (pc := 2) (k := 0) fw_Mod_3 (by decide +kernel) rfl rfl hS ?_
  refine X.nameMI (fun I1 hI1 => ?_)
  have h := lt_at hI1 h
  refine X.aload_0 (pc := 5) (by decide +kernel) ?_
  refine X.aload_0 (pc := 6) (by decide +kernel) ?_
  refine X.getI (pc := 7) (k := 7) fw_Mod_204 (by decide +kernel) (fun _ => rfl) hS ?_
  obtain ⟨x2, hv3, h⟩ := bnd1_some h
  refine X.callVi (pc := 10) (nc := 0) (ns := 0) (c_Mod_isEnd hE (dle hd (Nat.le_of_ble_eq_true rfl)) hS hv3) cv_Mod_264 (by decide +kernel) hS ⟨by decide, rfl⟩ (ddd hd (Nat.le_of_ble_eq_true rfl)) rfl (Nat.le_of_ble_eq_true rfl) rfl rfl ?_
  rcases ifb_some h with ⟨hq4, h⟩ | ⟨hq4, h⟩
  · refine X.if_eq_t (pc := 13) (off := 6) (tgt := 19) hq4 rfl (by decide +kernel) ?_
    refine X.aload_0 (pc := 19) (by decide +kernel) ?_
    obtain ⟨I5, hv6, h⟩ := bnd1_some h
    refine X.callVv (pc := 20) (nc := 0) (ns := 0) (c_Mod_putsBy hE (dle hd (Nat.le_of_ble_eq_true rfl)) hS hv6) cv_Mod_267 (by decide +kernel) hS ⟨by decide, rfl⟩ (ddd hd (Nat.le_of_ble_eq_true rfl)) rfl (Nat.le_of_ble_eq_true rfl) rfl rfl ?_
    refine X.aload_0 (pc := 23) (by decide +kernel) ?_
    obtain ⟨x7, I8, hv9, h⟩ := bnd2_some h
    refine X.callVi (pc := 24) (nc := 0) (ns := 0) (c_Mod_turnByWeights hE (dle hd (Nat.le_of_ble_eq_true rfl)) hS hv9) cv_Mod_273 (by decide +kernel) hS ⟨by decide, rfl⟩ (ddd hd (Nat.le_of_ble_eq_true rfl)) rfl (Nat.le_of_ble_eq_true rfl) rfl rfl ?_
    refine X.istore_1 (pc := 27) (by decide +kernel) (by decide) rfl ?_
    refine X.aload_0 (pc := 28) (by decide +kernel) ?_
    refine X.iconst (pc := 29) (i := 0) (v := 0) ic_0 (by decide +kernel) ?_
    refine X.putI (pc := 30) (k := 1) fw_Mod_21 (by decide +kernel) rfl rfl hS ?_
    refine X.nameMI (fun I10 hI10 => ?_)
    have h := lt_at hI10 h
    refine X.aload_0 (pc := 33) (by decide +kernel) ?_
    refine X.iload_1 (pc := 34) (by decide +kernel) ?_
    refine X.i2l (pc := 35) (by decide +kernel) ?_
    obtain ⟨I11, L12, hv13, h⟩ := bnd2_some h
    refine X.callVv (pc := 36) (nc := 0) (ns := 0) (c_Mod_enters hE (dle hd (Nat.le_of_ble_eq_true rfl)) hS hv13) cv_Mod_24 (by decide +kernel) hS ⟨by decide, rfl⟩ (ddd hd (Nat.le_of_ble_eq_true rfl)) rfl (Nat.le_of_ble_eq_true rfl) rfl rfl ?_
    refine X.aload_0 (pc := 39) (by decide +kernel) ?_
    refine X.iload_1 (pc := 40) (by decide +kernel) ?_
    obtain ⟨x14, I15, hv16, h⟩ := bnd2_some h
    refine X.callVi (pc := 41) (nc := 0) (ns := 0) (c_Mod_steps hE (dle hd (Nat.le_of_ble_eq_true rfl)) hS hv16) cv_Mod_270 (by decide +kernel) hS ⟨by decide, rfl⟩ (ddd hd (Nat.le_of_ble_eq_true rfl)) rfl (Nat.le_of_ble_eq_true rfl) rfl rfl ?_
    have j0 := Option.some.inj h
    obtain ⟨i0, j1⟩ := Prod.mk.inj j0
    obtain ⟨i1, j2⟩ := Prod.mk.inj j1
    subst i0
    subst i1
    subst j2
    exact X.ireturn (pc := 44) (by decide +kernel) ⟨_, rfl, rfl⟩ ⟨rfl, rfl, rfl, rfl, rfl, rfl⟩
  · refine X.if_eq_f (pc := 13) (off := 6) (tgt := 19) hq4 rfl (by decide +kernel) ?_
    refine X.bipush (pc := 16) (i := (-2)) (v := (-2)) bp_m2 (by decide +kernel) ?_
    have j0 := Option.some.inj h
    obtain ⟨i0, j1⟩ := Prod.mk.inj j0
    obtain ⟨i1, j2⟩ := Prod.mk.inj j1
    subst i0
    subst i1
    subst j2
    exact X.ireturn (pc := 18) (by decide +kernel) ⟨_, rfl, rfl⟩ ⟨rfl, rfl, rfl, rfl, rfl, rfl⟩
set_option maxRecDepth 100000 in
noncomputable def f_Mod_ask (g : Nat) (S : MS) (R : MR) (I : MI) (L : ML) (t : Nat) (p1 : Int32) : Option (Int32 × MI × ML) :=
  lt (wI I t 0 0) fun (I1 : MI) =>
  bnd1 (f_Mod_isTurn p1) fun x2 =>
  ifb (x2 = 0)
    (some ((-1), I1, L))
    (bnd1 (f_Mod_isEnd S R I1 t (I1 t 7)) fun x5 =>
    ifb (x5 = 0)
      (ifb ((I1 t 10) = 0)
        (some ((-3), I1, L))
        (bnd1 (f_Mod_putsBy g S R I1 t) fun I9 =>
        lt ((I9 t 10) - 1) fun (x11 : Int32) =>
        lt (wI I9 t 10 x11) fun (I12 : MI) =>
        lt ((I12 t 14) + 1) fun (x13 : Int32) =>
        lt (wI I12 t 14 x13) fun (I14 : MI) =>
        bnd2 (f_Mod_draws S I14 t 10) fun x15 I16 =>
        bnd1 (ifb ((I16 t 11) ≤ x15)
            (some 0)
            (some 1)) fun (y19 : Int32) =>
        bnd2 (ifb (y19 = 0)
            (bnd2 (f_Mod_turnByWeights S R I16 t) fun x27 I28 =>
            some (x27, I28))
            (some (p1, I16))) fun (y23 : Int32) (I24 : MI) =>
        lt (wI I24 t 1 0) fun (I30 : MI) =>
        bnd1 (f_Mod_flag y19) fun x31 =>
        bnd2 (f_Mod_enters S R I30 L t (Int32.toInt64 x31)) fun I33 L34 =>
        bnd2 (f_Mod_enters S R I33 L34 t (Int32.toInt64 y23)) fun I36 L37 =>
        bnd2 (f_Mod_steps S R I36 t y23) fun x39 I40 =>
        some (x39, I40, L37)))
      (some ((-2), I1, L)))
set_option maxRecDepth 100000 in
set_option maxHeartbeats 4000000 in
theorem c_Mod_ask {E : Env} (hE : OKE E) {tg : Bool} {d : Nat} (hd : 3 ≤ d) {g : Nat} {S : MS} {I : MI} {L : ML} {R : MR} {n : Nat} {t : Nat} {p1 : Int32} {v : Int32} {I' : MI} {L' : ML} (hS : (S t).1 = 12) (h : f_Mod_ask g S R I L t p1 = some (v, I', L')) : C E y_Mod_ask b_Mod_ask 4 (some .int) tg d 0 0 [.ref (e_b E + t), .int p1] S I L R n (Kq (some (.int v)) S I' L' R n) := by
  refine C.of (o := [some (.ref (e_b E + t)), some (.int p1), none, none]) (by decide) rfl (Nat.le_of_ble_eq_true rfl) ?_
  rw [f_Mod_ask] at h
  refine X.aload_0 (pc := 0) (by decide +kernel) ?_
  refine X.iconst (pc := 1) (i := 0) (v := 0) ic_0 (by decide +kernel) ?_
  refine X.putI (pc := 2) (k := 0) fw_Mod_3 (by decide +kernel) rfl rfl hS ?_
  refine X.nameMI (fun I1 hI1 => ?_)
  have h := lt_at hI1 h
  refine X.iload_1 (pc := 5) (by decide +kernel) ?_
  obtain ⟨x2, hv3, h⟩ := bnd1_some h
  refine X.callSi (pc := 6) (nc := 0) (ns := 0) (c_Mod_isTurn hE (dle hd (Nat.le_of_ble_eq_true rfl)) hv3) cv_Mod_261 (by decide +kernel) (ddd hd (Nat.le_of_ble_eq_true rfl)) rfl (Nat.le_of_ble_eq_true rfl) rfl rfl ?_
  rcases ifb_some h with ⟨hq4, h⟩ | ⟨hq4, h⟩
  · refine X.if_ne_f (pc := 9) (off := 5) (tgt := 14) hq4 rfl (by decide +kernel) ?_
    refine X.iconst (pc := 12) (i := (-1)) (v := (-1)) ic_m1 (by decide +kernel) ?_
    have j0 := Option.some.inj h
    obtain ⟨i0, j1⟩ := Prod.mk.inj j0
    obtain ⟨i1, j2⟩ := Prod.mk.inj j1
    subst i0
    subst i1
    subst j2
    exact X.ireturn (pc := 13) (by decide +kernel) ⟨_, rfl, rfl⟩ ⟨rfl, rfl, rfl, rfl, rfl, rfl⟩
  · refine X.if_ne_t (pc := 9) (off := 5) (tgt := 14) hq4 rfl (by decide +kernel) ?_
    refine X.aload_0 (pc := 14) (by decide +kernel) ?_
    refine X.aload_0 (pc := 15) (by decide +kernel) ?_
    refine X.getI (pc := 16) (k := 7) fw_Mod_204 (by decide +kernel) (fun _ => rfl) hS ?_
    obtain ⟨x5, hv6, h⟩ := bnd1_some h
    refine X.callVi (pc := 19) (nc := 0) (ns := 0) (c_Mod_isEnd hE (dle hd (Nat.le_of_ble_eq_true rfl)) hS hv6) cv_Mod_264 (by decide +kernel) hS ⟨by decide, rfl⟩ (ddd hd (Nat.le_of_ble_eq_true rfl)) rfl (Nat.le_of_ble_eq_true rfl) rfl rfl ?_
    rcases ifb_some h with ⟨hq7, h⟩ | ⟨hq7, h⟩
    · refine X.if_eq_t (pc := 22) (off := 6) (tgt := 28) hq7 rfl (by decide +kernel) ?_
      refine X.aload_0 (pc := 28) (by decide +kernel) ?_
      refine X.getI (pc := 29) (k := 10) fw_Mod_47 (by decide +kernel) (fun _ => rfl) hS ?_
      rcases ifb_some h with ⟨hq8, h⟩ | ⟨hq8, h⟩
      · refine X.if_ne_f (pc := 32) (off := 6) (tgt := 38) hq8 rfl (by decide +kernel) ?_
        refine X.bipush (pc := 35) (i := (-3)) (v := (-3)) bp_m3 (by decide +kernel) ?_
        have j0 := Option.some.inj h
        obtain ⟨i0, j1⟩ := Prod.mk.inj j0
        obtain ⟨i1, j2⟩ := Prod.mk.inj j1
        subst i0
        subst i1
        subst j2
        exact X.ireturn (pc := 37) (by decide +kernel) ⟨_, rfl, rfl⟩ ⟨rfl, rfl, rfl, rfl, rfl, rfl⟩
      · refine X.if_ne_t (pc := 32) (off := 6) (tgt := 38) hq8 rfl (by decide +kernel) ?_
        refine X.aload_0 (pc := 38) (by decide +kernel) ?_
        obtain ⟨I9, hv10, h⟩ := bnd1_some h
        refine X.callVv (pc := 39) (nc := 0) (ns := 0) (c_Mod_putsBy hE (dle hd (Nat.le_of_ble_eq_true rfl)) hS hv10) cv_Mod_267 (by decide +kernel) hS ⟨by decide, rfl⟩ (ddd hd (Nat.le_of_ble_eq_true rfl)) rfl (Nat.le_of_ble_eq_true rfl) rfl rfl ?_
        refine X.aload_0 (pc := 42) (by decide +kernel) ?_
        refine X.dupr (pc := 43) (by decide +kernel) ?_
        refine X.getI (pc := 44) (k := 10) fw_Mod_47 (by decide +kernel) (fun _ => rfl) hS ?_
        refine X.iconst (pc := 47) (i := 1) (v := 1) ic_1 (by decide +kernel) ?_
        refine X.isub (pc := 48) (by decide +kernel) ?_
        refine X.nameI (fun x11 hx11 => ?_)
        have h := lt_at hx11 h
        refine X.putI (pc := 49) (k := 10) fw_Mod_47 (by decide +kernel) rfl rfl hS ?_
        refine X.nameMI (fun I12 hI12 => ?_)
        have h := lt_at hI12 h
        refine X.aload_0 (pc := 52) (by decide +kernel) ?_
        refine X.dupr (pc := 53) (by decide +kernel) ?_
        refine X.getI (pc := 54) (k := 14) fw_Mod_213 (by decide +kernel) (fun _ => rfl) hS ?_
        refine X.iconst (pc := 57) (i := 1) (v := 1) ic_1 (by decide +kernel) ?_
        refine X.iadd (pc := 58) (by decide +kernel) ?_
        refine X.nameI (fun x13 hx13 => ?_)
        have h := lt_at hx13 h
        refine X.putI (pc := 59) (k := 14) fw_Mod_213 (by decide +kernel) rfl rfl hS ?_
        refine X.nameMI (fun I14 hI14 => ?_)
        have h := lt_at hI14 h
        refine X.aload_0 (pc := 62) (by decide +kernel) ?_
        refine X.bipush (pc := 63) (i := 10) (v := 10) bp_10 (by decide +kernel) ?_
        obtain ⟨x15, I16, hv17, h⟩ := bnd2_some h
        refine X.callVi (pc := 65) (nc := 0) (ns := 0) (c_Mod_draws hE (dle hd (Nat.le_of_ble_eq_true rfl)) hS hv17) cv_Mod_256 (by decide +kernel) hS ⟨by decide, rfl⟩ (ddd hd (Nat.le_of_ble_eq_true rfl)) rfl (Nat.le_of_ble_eq_true rfl) rfl rfl ?_
        refine X.aload_0 (pc := 68) (by decide +kernel) ?_
        refine X.getI (pc := 69) (k := 11) fw_Mod_50 (by decide +kernel) (fun _ => rfl) hS ?_
        obtain ⟨y19, hr20, h⟩ := bnd1_some h
        have hj21 : X E y_Mod_ask b_Mod_ask 4 (some .int) tg d 0 0 80 [some (.ref (e_b E + t)), some (.int p1), none, none] [.int y19] S I16 L R n (Kq (some (.int v)) S I' L' R n) := by
          refine X.istore_2 (pc := 80) (by decide +kernel) (by decide) rfl ?_
          refine X.iload_2 (pc := 81) (by decide +kernel) ?_
          obtain ⟨y23, I24, hr25, h⟩ := bnd2_some h
          have hj26 : X E y_Mod_ask b_Mod_ask 4 (some .int) tg d 0 0 93 [some (.ref (e_b E + t)), none, some (.int y19), none] [.int y23] S I24 L R n (Kq (some (.int v)) S I' L' R n) := by
            refine X.istore_3 (pc := 93) (by decide +kernel) (by decide) rfl ?_
            refine X.aload_0 (pc := 94) (by decide +kernel) ?_
            refine X.iconst (pc := 95) (i := 0) (v := 0) ic_0 (by decide +kernel) ?_
            refine X.putI (pc := 96) (k := 1) fw_Mod_21 (by decide +kernel) rfl rfl hS ?_
            refine X.nameMI (fun I30 hI30 => ?_)
            have h := lt_at hI30 h
            refine X.aload_0 (pc := 99) (by decide +kernel) ?_
            refine X.iload_2 (pc := 100) (by decide +kernel) ?_
            obtain ⟨x31, hv32, h⟩ := bnd1_some h
            refine X.callSi (pc := 101) (nc := 0) (ns := 0) (c_Mod_flag hE (dle hd (Nat.le_of_ble_eq_true rfl)) hv32) cv_Mod_155 (by decide +kernel) (ddd hd (Nat.le_of_ble_eq_true rfl)) rfl (Nat.le_of_ble_eq_true rfl) rfl rfl ?_
            refine X.i2l (pc := 104) (by decide +kernel) ?_
            obtain ⟨I33, L34, hv35, h⟩ := bnd2_some h
            refine X.callVv (pc := 105) (nc := 0) (ns := 0) (c_Mod_enters hE (dle hd (Nat.le_of_ble_eq_true rfl)) hS hv35) cv_Mod_24 (by decide +kernel) hS ⟨by decide, rfl⟩ (ddd hd (Nat.le_of_ble_eq_true rfl)) rfl (Nat.le_of_ble_eq_true rfl) rfl rfl ?_
            refine X.aload_0 (pc := 108) (by decide +kernel) ?_
            refine X.iload_3 (pc := 109) (by decide +kernel) ?_
            refine X.i2l (pc := 110) (by decide +kernel) ?_
            obtain ⟨I36, L37, hv38, h⟩ := bnd2_some h
            refine X.callVv (pc := 111) (nc := 0) (ns := 0) (c_Mod_enters hE (dle hd (Nat.le_of_ble_eq_true rfl)) hS hv38) cv_Mod_24 (by decide +kernel) hS ⟨by decide, rfl⟩ (ddd hd (Nat.le_of_ble_eq_true rfl)) rfl (Nat.le_of_ble_eq_true rfl) rfl rfl ?_
            refine X.aload_0 (pc := 114) (by decide +kernel) ?_
            refine X.iload_3 (pc := 115) (by decide +kernel) ?_
            obtain ⟨x39, I40, hv41, h⟩ := bnd2_some h
            refine X.callVi (pc := 116) (nc := 0) (ns := 0) (c_Mod_steps hE (dle hd (Nat.le_of_ble_eq_true rfl)) hS hv41) cv_Mod_270 (by decide +kernel) hS ⟨by decide, rfl⟩ (ddd hd (Nat.le_of_ble_eq_true rfl)) rfl (Nat.le_of_ble_eq_true rfl) rfl rfl ?_
            have j0 := Option.some.inj h
            obtain ⟨i0, j1⟩ := Prod.mk.inj j0
            obtain ⟨i1, j2⟩ := Prod.mk.inj j1
            subst i0
            subst i1
            subst j2
            exact X.ireturn (pc := 119) (by decide +kernel) ⟨_, rfl, rfl⟩ ⟨rfl, rfl, rfl, rfl, rfl, rfl⟩
          have h := hr25
          rcases ifb_some h with ⟨hq22, h⟩ | ⟨hq22, h⟩
          · refine X.if_eq_t (pc := 82) (off := 7) (tgt := 89) hq22 rfl (by decide +kernel) ?_
            refine X.aload_0 (pc := 89) (by decide +kernel) ?_
            obtain ⟨x27, I28, hv29, h⟩ := bnd2_some h
            refine X.callVi (pc := 90) (nc := 0) (ns := 0) (c_Mod_turnByWeights hE (dle hd (Nat.le_of_ble_eq_true rfl)) hS hv29) cv_Mod_273 (by decide +kernel) hS ⟨by decide, rfl⟩ (ddd hd (Nat.le_of_ble_eq_true rfl)) rfl (Nat.le_of_ble_eq_true rfl) rfl rfl ?_
            have j0 := Option.some.inj h
            obtain ⟨i0, j1⟩ := Prod.mk.inj j0
            subst i0
            subst j1
            refine X.fgt (o' := [some (.ref (e_b E + t)), none, some (.int y19), none]) ⟨rfl, ⟨rfl, trivial⟩⟩ ?_
            exact hj26
          · refine X.if_eq_f (pc := 82) (off := 7) (tgt := 89) hq22 rfl (by decide +kernel) ?_
            refine X.iload_1 (pc := 85) (by decide +kernel) ?_
            refine X.goto (pc := 86) (off := 7) (tgt := 93) (by decide +kernel) rfl ?_
            have j0 := Option.some.inj h
            obtain ⟨i0, j1⟩ := Prod.mk.inj j0
            subst i0
            subst j1
            refine X.fgt (o' := [some (.ref (e_b E + t)), none, some (.int y19), none]) ⟨rfl, ⟨rfl, trivial⟩⟩ ?_
            exact hj26
        have h := hr20
        rcases ifb_some h with ⟨hq18, h⟩ | ⟨hq18, h⟩
        · refine X.icmp_ge_t (pc := 72) (off := 7) (tgt := 79) hq18 rfl (by decide +kernel) ?_
          refine X.iconst (pc := 79) (i := 0) (v := 0) ic_0 (by decide +kernel) ?_
          have j0 := Option.some.inj h
          subst j0
          exact hj21
        · refine X.icmp_ge_f (pc := 72) (off := 7) (tgt := 79) hq18 rfl (by decide +kernel) ?_
          refine X.iconst (pc := 75) (i := 1) (v := 1) ic_1 (by decide +kernel) ?_
          refine X.goto (pc := 76) (off := 4) (tgt := 80) (by decide +kernel) rfl ?_
          have j0 := Option.some.inj h
          subst j0
          exact hj21
    · refine X.if_eq_f (pc := 22) (off := 6) (tgt := 28) hq7 rfl (by decide +kernel) ?_
      refine X.bipush (pc := 25) (i := (-2)) (v := (-2)) bp_m2 (by decide +kernel) ?_
      have j0 := Option.some.inj h
      obtain ⟨i0, j1⟩ := Prod.mk.inj j0
      obtain ⟨i1, j2⟩ := Prod.mk.inj j1
      subst i0
      subst i1
      subst j2
      exact X.ireturn (pc := 27) (by decide +kernel) ⟨_, rfl, rfl⟩ ⟨rfl, rfl, rfl, rfl, rfl, rfl⟩
set_option maxRecDepth 100000 in
noncomputable def l_Mod_takesBack_54 (S : MS) (R : MR) (v0 : Nat) (v1 : Nat) (v2 : Int32) : Nat → MI → Int32 → Option MI
  | 0, _, _ => none
  | f + 1, I, v3 =>
    ifb (36 ≤ v3)
      (some I)
      (bnd1 (R v0 15) fun b26 =>
      lt ((v2 + 7) + v3) fun (x27 : Int32) =>
      asrt ((S v1).1 = 20) <|
      asrt (vp_in x27 (S v1).2) <|
      lt (I v1 (Int32.toNatClampNeg x27)) fun (x30 : Int32) =>
      asrt ((S b26).1 = 20) <|
      asrt (vp_in v3 (S b26).2) <|
      lt (wI I b26 (Int32.toNatClampNeg v3) x30) fun (I33 : MI) =>
      l_Mod_takesBack_54 S R v0 v1 v2 f I33 (v3 + 1))
set_option maxRecDepth 100000 in
set_option maxHeartbeats 4000000 in
theorem xl_Mod_takesBack_54 {E : Env} (hE : OKE E) {tg : Bool} {d : Nat} (hd : 0 ≤ d) {S : MS} {L : ML} {R : MR} {n : Nat} {v0 : Nat} {v1 : Nat} {v2 : Int32} {K : KT} :
    ∀ {f : Nat} {I : MI} {v3 : Int32} {I' : MI}, (S v0).1 = 12 → l_Mod_takesBack_54 S R v0 v1 v2 f I v3 = some I' → X E y_Mod_takesBack b_Mod_takesBack 4 none tg d 0 0 80 [none, none, none, none] [] S I' L R n K → X E y_Mod_takesBack b_Mod_takesBack 4 none tg d 0 0 54 [some (.ref (e_b E + v0)), some (.ref (e_b E + v1)), some (.int v2), some (.int v3)] [] S I L R n K := by
  intro f
  induction f with
  | zero =>
    intro I v3 I' hS h hk
    rw [l_Mod_takesBack_54] at h
    cases h
  | succ f ih =>
    intro I v3 I' hS h hk
    rw [l_Mod_takesBack_54] at h
    refine X.iload_3 (pc := 54) (by decide +kernel) ?_
    refine X.bipush (pc := 55) (i := 36) (v := 36) bp_36 (by decide +kernel) ?_
    rcases ifb_some h with ⟨hq25, h⟩ | ⟨hq25, h⟩
    · refine X.icmp_ge_t (pc := 57) (off := 23) (tgt := 80) hq25 rfl (by decide +kernel) ?_
      have j0 := Option.some.inj h
      subst j0
      refine X.fgt (o' := [none, none, none, none]) trivial ?_
      exact hk
    · refine X.icmp_ge_f (pc := 57) (off := 23) (tgt := 80) hq25 rfl (by decide +kernel) ?_
      refine X.aload_0 (pc := 60) (by decide +kernel) ?_
      obtain ⟨b26, hb26, h⟩ := bnd1_some h
      refine X.getR (pc := 61) (k := 15) fw_Mod_56 (by decide +kernel) (fun _ => rfl) hS hb26 ?_
      refine X.iload_3 (pc := 64) (by decide +kernel) ?_
      refine X.aload_1 (pc := 65) (by decide +kernel) ?_
      refine X.iload_2 (pc := 66) (by decide +kernel) ?_
      refine X.bipush (pc := 67) (i := 7) (v := 7) bp_7 (by decide +kernel) ?_
      refine X.iadd (pc := 69) (by decide +kernel) ?_
      refine X.iload_3 (pc := 70) (by decide +kernel) ?_
      refine X.iadd (pc := 71) (by decide +kernel) ?_
      refine X.nameI (fun x27 hx27 => ?_)
      have h := lt_at hx27 h
      obtain ⟨hc29, h⟩ := asrt_some h
      obtain ⟨hi28, h⟩ := asrt_some h
      refine X.iaload (pc := 72) (by decide +kernel) hc29 hi28 ?_
      refine X.nameI (fun x30 hx30 => ?_)
      have h := lt_at hx30 h
      obtain ⟨hc31, h⟩ := asrt_some h
      obtain ⟨hi32, h⟩ := asrt_some h
      refine X.iastore (pc := 73) (by decide +kernel) hc31 hi32 ?_
      refine X.nameMI (fun I33 hI33 => ?_)
      have h := lt_at hI33 h
      refine X.iinc_3 (pc := 74) (z := 1) (v := 1) ic_1 (by decide +kernel) (by decide) rfl ?_
      refine X.goto (pc := 77) (off := (-23)) (tgt := 54) (by decide +kernel) rfl ?_
      exact ih hS h hk
set_option maxRecDepth 100000 in
noncomputable def f_Mod_takesBack (g : Nat) (S : MS) (R : MR) (I : MI) (t : Nat) (p1 : Nat) (p2 : Int32) : Option MI :=
  asrt ((S p1).1 = 20) <|
  asrt (vp_in p2 (S p1).2) <|
  lt (I p1 (Int32.toNatClampNeg p2)) fun (x3 : Int32) =>
  lt (wI I t 7 x3) fun (I4 : MI) =>
  lt (p2 + 1) fun (x5 : Int32) =>
  asrt (vp_in x5 (S p1).2) <|
  lt (I4 p1 (Int32.toNatClampNeg x5)) fun (x7 : Int32) =>
  lt (wI I4 t 8 x7) fun (I8 : MI) =>
  lt (p2 + 2) fun (x9 : Int32) =>
  asrt (vp_in x9 (S p1).2) <|
  lt (I8 p1 (Int32.toNatClampNeg x9)) fun (x11 : Int32) =>
  lt (wI I8 t 10 x11) fun (I12 : MI) =>
  lt (p2 + 3) fun (x13 : Int32) =>
  asrt (vp_in x13 (S p1).2) <|
  lt (I12 p1 (Int32.toNatClampNeg x13)) fun (x15 : Int32) =>
  lt (wI I12 t 12 x15) fun (I16 : MI) =>
  lt (p2 + 4) fun (x17 : Int32) =>
  asrt (vp_in x17 (S p1).2) <|
  lt (I16 p1 (Int32.toNatClampNeg x17)) fun (x19 : Int32) =>
  lt (wI I16 t 13 x19) fun (I20 : MI) =>
  lt (p2 + 5) fun (x21 : Int32) =>
  asrt (vp_in x21 (S p1).2) <|
  lt (I20 p1 (Int32.toNatClampNeg x21)) fun (x23 : Int32) =>
  lt (wI I20 t 14 x23) fun (I24 : MI) =>
  bnd1 (l_Mod_takesBack_54 S R t p1 p2 g I24 0) fun I34 =>
  some I34
set_option maxRecDepth 100000 in
set_option maxHeartbeats 4000000 in
theorem c_Mod_takesBack {E : Env} (hE : OKE E) {tg : Bool} {d : Nat} (hd : 0 ≤ d) {g : Nat} {S : MS} {I : MI} {L : ML} {R : MR} {n : Nat} {t : Nat} {p1 : Nat} {p2 : Int32} {I' : MI} (hS : (S t).1 = 12) (h : f_Mod_takesBack g S R I t p1 p2 = some I') : C E y_Mod_takesBack b_Mod_takesBack 4 none tg d 0 0 [.ref (e_b E + t), .ref (e_b E + p1), .int p2] S I L R n (Kq none S I' L R n) := by
  refine C.of (o := [some (.ref (e_b E + t)), some (.ref (e_b E + p1)), some (.int p2), none]) (by decide) rfl (Nat.le_of_ble_eq_true rfl) ?_
  rw [f_Mod_takesBack] at h
  refine X.aload_0 (pc := 0) (by decide +kernel) ?_
  refine X.aload_1 (pc := 1) (by decide +kernel) ?_
  refine X.iload_2 (pc := 2) (by decide +kernel) ?_
  obtain ⟨hc2, h⟩ := asrt_some h
  obtain ⟨hi1, h⟩ := asrt_some h
  refine X.iaload (pc := 3) (by decide +kernel) hc2 hi1 ?_
  refine X.nameI (fun x3 hx3 => ?_)
  have h := lt_at hx3 h
  refine X.putI (pc := 4) (k := 7) fw_Mod_204 (by decide +kernel) rfl rfl hS ?_
  refine X.nameMI (fun I4 hI4 => ?_)
  have h := lt_at hI4 h
  refine X.aload_0 (pc := 7) (by decide +kernel) ?_
  refine X.aload_1 (pc := 8) (by decide +kernel) ?_
  refine X.iload_2 (pc := 9) (by decide +kernel) ?_
  refine X.iconst (pc := 10) (i := 1) (v := 1) ic_1 (by decide +kernel) ?_
  refine X.iadd (pc := 11) (by decide +kernel) ?_
  refine X.nameI (fun x5 hx5 => ?_)
  have h := lt_at hx5 h
  obtain ⟨hi6, h⟩ := asrt_some h
  refine X.iaload (pc := 12) (by decide +kernel) hc2 hi6 ?_
  refine X.nameI (fun x7 hx7 => ?_)
  have h := lt_at hx7 h
  refine X.putI (pc := 13) (k := 8) fw_Mod_207 (by decide +kernel) rfl rfl hS ?_
  refine X.nameMI (fun I8 hI8 => ?_)
  have h := lt_at hI8 h
  refine X.aload_0 (pc := 16) (by decide +kernel) ?_
  refine X.aload_1 (pc := 17) (by decide +kernel) ?_
  refine X.iload_2 (pc := 18) (by decide +kernel) ?_
  refine X.iconst (pc := 19) (i := 2) (v := 2) ic_2 (by decide +kernel) ?_
  refine X.iadd (pc := 20) (by decide +kernel) ?_
  refine X.nameI (fun x9 hx9 => ?_)
  have h := lt_at hx9 h
  obtain ⟨hi10, h⟩ := asrt_some h
  refine X.iaload (pc := 21) (by decide +kernel) hc2 hi10 ?_
  refine X.nameI (fun x11 hx11 => ?_)
  have h := lt_at hx11 h
  refine X.putI (pc := 22) (k := 10) fw_Mod_47 (by decide +kernel) rfl rfl hS ?_
  refine X.nameMI (fun I12 hI12 => ?_)
  have h := lt_at hI12 h
  refine X.aload_0 (pc := 25) (by decide +kernel) ?_
  refine X.aload_1 (pc := 26) (by decide +kernel) ?_
  refine X.iload_2 (pc := 27) (by decide +kernel) ?_
  refine X.iconst (pc := 28) (i := 3) (v := 3) ic_3 (by decide +kernel) ?_
  refine X.iadd (pc := 29) (by decide +kernel) ?_
  refine X.nameI (fun x13 hx13 => ?_)
  have h := lt_at hx13 h
  obtain ⟨hi14, h⟩ := asrt_some h
  refine X.iaload (pc := 30) (by decide +kernel) hc2 hi14 ?_
  refine X.nameI (fun x15 hx15 => ?_)
  have h := lt_at hx15 h
  refine X.putI (pc := 31) (k := 12) fw_Mod_53 (by decide +kernel) rfl rfl hS ?_
  refine X.nameMI (fun I16 hI16 => ?_)
  have h := lt_at hI16 h
  refine X.aload_0 (pc := 34) (by decide +kernel) ?_
  refine X.aload_1 (pc := 35) (by decide +kernel) ?_
  refine X.iload_2 (pc := 36) (by decide +kernel) ?_
  refine X.iconst (pc := 37) (i := 4) (v := 4) ic_4 (by decide +kernel) ?_
  refine X.iadd (pc := 38) (by decide +kernel) ?_
  refine X.nameI (fun x17 hx17 => ?_)
  have h := lt_at hx17 h
  obtain ⟨hi18, h⟩ := asrt_some h
  refine X.iaload (pc := 39) (by decide +kernel) hc2 hi18 ?_
  refine X.nameI (fun x19 hx19 => ?_)
  have h := lt_at hx19 h
  refine X.putI (pc := 40) (k := 13) fw_Mod_210 (by decide +kernel) rfl rfl hS ?_
  refine X.nameMI (fun I20 hI20 => ?_)
  have h := lt_at hI20 h
  refine X.aload_0 (pc := 43) (by decide +kernel) ?_
  refine X.aload_1 (pc := 44) (by decide +kernel) ?_
  refine X.iload_2 (pc := 45) (by decide +kernel) ?_
  refine X.iconst (pc := 46) (i := 5) (v := 5) ic_5 (by decide +kernel) ?_
  refine X.iadd (pc := 47) (by decide +kernel) ?_
  refine X.nameI (fun x21 hx21 => ?_)
  have h := lt_at hx21 h
  obtain ⟨hi22, h⟩ := asrt_some h
  refine X.iaload (pc := 48) (by decide +kernel) hc2 hi22 ?_
  refine X.nameI (fun x23 hx23 => ?_)
  have h := lt_at hx23 h
  refine X.putI (pc := 49) (k := 14) fw_Mod_213 (by decide +kernel) rfl rfl hS ?_
  refine X.nameMI (fun I24 hI24 => ?_)
  have h := lt_at hI24 h
  refine X.iconst (pc := 52) (i := 0) (v := 0) ic_0 (by decide +kernel) ?_
  refine X.istore_3 (pc := 53) (by decide +kernel) (by decide) rfl ?_
  obtain ⟨I34, hv35, h⟩ := bnd1_some h
  refine xl_Mod_takesBack_54 hE hd hS hv35 ?_
  have j0 := Option.some.inj h
  subst j0
  exact X.vreturn (pc := 80) (by decide +kernel) rfl ⟨rfl, rfl, rfl, rfl, rfl, rfl⟩
set_option maxRecDepth 100000 in
noncomputable def f_Mod_undo (g : Nat) (S : MS) (R : MR) (I : MI) (t : Nat) : Option (Int32 × MI) :=
  lt (wI I t 0 0) fun (I1 : MI) =>
  ifb ((I1 t 23) = 0)
    (some ((-1), I1))
    (lt ((I1 t 23) - 1) fun (x3 : Int32) =>
    lt (wI I1 t 23 x3) fun (I4 : MI) =>
    bnd1 (R t 24) fun b5 =>
    bnd1 (f_Mod_takesBack g S R I4 t b5 (43 * (I4 t 23))) fun I6 =>
    lt (I6 t 23) fun (x8 : Int32) =>
    some (x8, I6))
set_option maxRecDepth 100000 in
set_option maxHeartbeats 4000000 in
theorem c_Mod_undo {E : Env} (hE : OKE E) {tg : Bool} {d : Nat} (hd : 1 ≤ d) {g : Nat} {S : MS} {I : MI} {L : ML} {R : MR} {n : Nat} {t : Nat} {v : Int32} {I' : MI} (hS : (S t).1 = 12) (h : f_Mod_undo g S R I t = some (v, I')) : C E y_Mod_undo b_Mod_undo 1 (some .int) tg d 0 0 [.ref (e_b E + t)] S I L R n (Kq (some (.int v)) S I' L R n) := by
  refine C.of (o := [some (.ref (e_b E + t))]) (by decide) rfl (Nat.le_of_ble_eq_true rfl) ?_
  rw [f_Mod_undo] at h
  refine X.aload_0 (pc := 0) (by decide +kernel) ?_
  refine X.iconst (pc := 1) (i := 0) (v := 0) ic_0 (by decide +kernel) ?_
  refine X.putI (pc := 2) (k := 0) fw_Mod_3 (by decide +kernel) rfl rfl hS ?_
  refine X.nameMI (fun I1 hI1 => ?_)
  have h := lt_at hI1 h
  refine X.aload_0 (pc := 5) (by decide +kernel) ?_
  refine X.getI (pc := 6) (k := 23) fw_Mod_216 (by decide +kernel) (fun _ => rfl) hS ?_
  rcases ifb_some h with ⟨hq2, h⟩ | ⟨hq2, h⟩
  · refine X.if_ne_f (pc := 9) (off := 5) (tgt := 14) hq2 rfl (by decide +kernel) ?_
    refine X.iconst (pc := 12) (i := (-1)) (v := (-1)) ic_m1 (by decide +kernel) ?_
    have j0 := Option.some.inj h
    obtain ⟨i0, j1⟩ := Prod.mk.inj j0
    subst i0
    subst j1
    exact X.ireturn (pc := 13) (by decide +kernel) ⟨_, rfl, rfl⟩ ⟨rfl, rfl, rfl, rfl, rfl, rfl⟩
  · refine X.if_ne_t (pc := 9) (off := 5) (tgt := 14) hq2 rfl (by decide +kernel) ?_
    refine X.aload_0 (pc := 14) (by decide +kernel) ?_
    refine X.dupr (pc := 15) (by decide +kernel) ?_
    refine X.getI (pc := 16) (k := 23) fw_Mod_216 (by decide +kernel) (fun _ => rfl) hS ?_
    refine X.iconst (pc := 19) (i := 1) (v := 1) ic_1 (by decide +kernel) ?_
    refine X.isub (pc := 20) (by decide +kernel) ?_
    refine X.nameI (fun x3 hx3 => ?_)
    have h := lt_at hx3 h
    refine X.putI (pc := 21) (k := 23) fw_Mod_216 (by decide +kernel) rfl rfl hS ?_
    refine X.nameMI (fun I4 hI4 => ?_)
    have h := lt_at hI4 h
    refine X.aload_0 (pc := 24) (by decide +kernel) ?_
    refine X.aload_0 (pc := 25) (by decide +kernel) ?_
    obtain ⟨b5, hb5, h⟩ := bnd1_some h
    refine X.getR (pc := 26) (k := 24) fw_Mod_71 (by decide +kernel) (fun _ => rfl) hS hb5 ?_
    refine X.bipush (pc := 29) (i := 43) (v := 43) bp_43 (by decide +kernel) ?_
    refine X.aload_0 (pc := 31) (by decide +kernel) ?_
    refine X.getI (pc := 32) (k := 23) fw_Mod_216 (by decide +kernel) (fun _ => rfl) hS ?_
    refine X.imul (pc := 35) (by decide +kernel) ?_
    obtain ⟨I6, hv7, h⟩ := bnd1_some h
    refine X.callVv (pc := 36) (nc := 0) (ns := 0) (c_Mod_takesBack hE (dle hd (Nat.le_of_ble_eq_true rfl)) hS hv7) cv_Mod_276 (by decide +kernel) hS ⟨by decide, rfl⟩ (ddd hd (Nat.le_of_ble_eq_true rfl)) rfl (Nat.le_of_ble_eq_true rfl) rfl rfl ?_
    refine X.aload_0 (pc := 39) (by decide +kernel) ?_
    refine X.getI (pc := 40) (k := 23) fw_Mod_216 (by decide +kernel) (fun _ => rfl) hS ?_
    refine X.nameI (fun x8 hx8 => ?_)
    have h := lt_at hx8 h
    have j0 := Option.some.inj h
    obtain ⟨i0, j1⟩ := Prod.mk.inj j0
    subst i0
    subst j1
    exact X.ireturn (pc := 43) (by decide +kernel) ⟨_, rfl, rfl⟩ ⟨rfl, rfl, rfl, rfl, rfl, rfl⟩
set_option maxRecDepth 100000 in
noncomputable def f_Mod_endOf (p1 : Int32) : Option Int32 :=
  bnd1 (ifb (p1 = 1)
      (some 1)
      (ifb (p1 = 3)
        (some 2)
        (some 0))) fun (y2 : Int32) =>
  some y2
set_option maxRecDepth 100000 in
set_option maxHeartbeats 4000000 in
theorem c_Mod_endOf {E : Env} (hE : OKE E) {tg : Bool} {d : Nat} (hd : 0 ≤ d) {S : MS} {I : MI} {L : ML} {R : MR} {n : Nat} {p1 : Int32} {v : Int32} (h : f_Mod_endOf p1 = some v) : C E y_Mod_endOf b_Mod_endOf 1 (some .int) tg d 0 0 [.int p1] S I L R n (Kq (some (.int v)) S I L R n) := by
  refine C.of (o := [some (.int p1)]) (by decide) rfl (Nat.le_of_ble_eq_true rfl) ?_
  rw [f_Mod_endOf] at h
  refine X.iload_0 (pc := 0) (by decide +kernel) ?_
  refine X.iconst (pc := 1) (i := 1) (v := 1) ic_1 (by decide +kernel) ?_
  obtain ⟨y2, hr3, h⟩ := bnd1_some h
  have hj4 : X E y_Mod_endOf b_Mod_endOf 1 (some .int) tg d 0 0 19 [none] [.int y2] S I L R n (Kq (some (.int v)) S I L R n) := by
    have j0 := Option.some.inj h
    subst j0
    exact X.ireturn (pc := 19) (by decide +kernel) ⟨_, rfl, rfl⟩ ⟨rfl, rfl, rfl, rfl, rfl, rfl⟩
  have h := hr3
  rcases ifb_some h with ⟨hq1, h⟩ | ⟨hq1, h⟩
  · refine X.icmp_ne_f (pc := 2) (off := 7) (tgt := 9) hq1 rfl (by decide +kernel) ?_
    refine X.iconst (pc := 5) (i := 1) (v := 1) ic_1 (by decide +kernel) ?_
    refine X.goto (pc := 6) (off := 13) (tgt := 19) (by decide +kernel) rfl ?_
    have j0 := Option.some.inj h
    subst j0
    refine X.fgt (o' := [none]) trivial ?_
    exact hj4
  · refine X.icmp_ne_t (pc := 2) (off := 7) (tgt := 9) hq1 rfl (by decide +kernel) ?_
    refine X.iload_0 (pc := 9) (by decide +kernel) ?_
    refine X.iconst (pc := 10) (i := 3) (v := 3) ic_3 (by decide +kernel) ?_
    rcases ifb_some h with ⟨hq5, h⟩ | ⟨hq5, h⟩
    · refine X.icmp_ne_f (pc := 11) (off := 7) (tgt := 18) hq5 rfl (by decide +kernel) ?_
      refine X.iconst (pc := 14) (i := 2) (v := 2) ic_2 (by decide +kernel) ?_
      refine X.goto (pc := 15) (off := 4) (tgt := 19) (by decide +kernel) rfl ?_
      have j0 := Option.some.inj h
      subst j0
      refine X.fgt (o' := [none]) trivial ?_
      exact hj4
    · refine X.icmp_ne_t (pc := 11) (off := 7) (tgt := 18) hq5 rfl (by decide +kernel) ?_
      refine X.iconst (pc := 18) (i := 0) (v := 0) ic_0 (by decide +kernel) ?_
      have j0 := Option.some.inj h
      subst j0
      refine X.fgt (o' := [none]) trivial ?_
      exact hj4
set_option maxRecDepth 100000 in
noncomputable def l_Mod_look_12 (g : Nat) (S : MS) (R : MR) (v0 : Nat) (v1 : Int32) : Nat → MI → Option MI
  | 0, _ => none
  | f + 1, I =>
    ifb ((I v0 19) ≤ (I v0 18))
      (some I)
      (bnd1 (R v0 16) fun b6 =>
      lt (I v0 18) fun (x7 : Int32) =>
      asrt ((S b6).1 = 20) <|
      asrt (vp_in x7 (S b6).2) <|
      bnd1 (f_Mod_among g 8 (I b6 (Int32.toNatClampNeg x7))) fun x10 =>
      ifb (x10 < 0)
        (some I)
        (lt ((I v0 18) + 1) fun (x13 : Int32) =>
        lt (wI I v0 18 x13) fun (I14 : MI) =>
        l_Mod_look_12 g S R v0 v1 f I14))
set_option maxRecDepth 100000 in
set_option maxHeartbeats 4000000 in
theorem xl_Mod_look_12 {E : Env} (hE : OKE E) {tg : Bool} {d : Nat} (hd : 5 ≤ d) {g : Nat} {S : MS} {L : ML} {R : MR} {n : Nat} {v0 : Nat} {v1 : Int32} {K : KT} :
    ∀ {f : Nat} {I : MI}  {I' : MI}, (S v0).1 = 12 → l_Mod_look_12 g S R v0 v1 f I = some I' → X E y_Mod_look b_Mod_look 6 (some .int) tg d 0 0 54 [some (.ref (e_b E + v0)), some (.int v1), none, none, none, none] [] S I' L R n K → X E y_Mod_look b_Mod_look 6 (some .int) tg d 0 0 12 [some (.ref (e_b E + v0)), some (.int v1), none, none, none, none] [] S I L R n K := by
  intro f
  induction f with
  | zero =>
    intro I I' hS h hk
    rw [l_Mod_look_12] at h
    cases h
  | succ f ih =>
    intro I I' hS h hk
    rw [l_Mod_look_12] at h
    refine X.aload_0 (pc := 12) (by decide +kernel) ?_
    refine X.getI (pc := 13) (k := 18) fw_Mod_162 (by decide +kernel) (fun _ => rfl) hS ?_
    refine X.aload_0 (pc := 16) (by decide +kernel) ?_
    refine X.getI (pc := 17) (k := 19) fw_Mod_169 (by decide +kernel) (fun _ => rfl) hS ?_
    rcases ifb_some h with ⟨hq5, h⟩ | ⟨hq5, h⟩
    · refine X.icmp_ge_t (pc := 20) (off := 34) (tgt := 54) hq5 rfl (by decide +kernel) ?_
      have j0 := Option.some.inj h
      subst j0
      exact hk
    · refine X.icmp_ge_f (pc := 20) (off := 34) (tgt := 54) hq5 rfl (by decide +kernel) ?_
      refine X.ldcwS (pc := 23) (x := 279) (ix := 8) (tx := "lor") (by decide +kernel) (by decide +kernel) ?_
      refine X.aload_0 (pc := 26) (by decide +kernel) ?_
      obtain ⟨b6, hb6, h⟩ := bnd1_some h
      refine X.getR (pc := 27) (k := 16) fw_Mod_59 (by decide +kernel) (fun _ => rfl) hS hb6 ?_
      refine X.aload_0 (pc := 30) (by decide +kernel) ?_
      refine X.getI (pc := 31) (k := 18) fw_Mod_162 (by decide +kernel) (fun _ => rfl) hS ?_
      refine X.nameI (fun x7 hx7 => ?_)
      have h := lt_at hx7 h
      obtain ⟨hc9, h⟩ := asrt_some h
      obtain ⟨hi8, h⟩ := asrt_some h
      refine X.iaload (pc := 34) (by decide +kernel) hc9 hi8 ?_
      obtain ⟨x10, hv11, h⟩ := bnd1_some h
      refine X.callSi (pc := 35) (nc := 0) (ns := 0) (c_Mod_among hE (dle hd (Nat.le_of_ble_eq_true rfl)) hv11) cv_Mod_187 (by decide +kernel) (ddd hd (Nat.le_of_ble_eq_true rfl)) rfl (Nat.le_of_ble_eq_true rfl) rfl rfl ?_
      rcases ifb_some h with ⟨hq12, h⟩ | ⟨hq12, h⟩
      · refine X.if_lt_t (pc := 38) (off := 16) (tgt := 54) hq12 rfl (by decide +kernel) ?_
        have j0 := Option.some.inj h
        subst j0
        exact hk
      · refine X.if_lt_f (pc := 38) (off := 16) (tgt := 54) hq12 rfl (by decide +kernel) ?_
        refine X.aload_0 (pc := 41) (by decide +kernel) ?_
        refine X.dupr (pc := 42) (by decide +kernel) ?_
        refine X.getI (pc := 43) (k := 18) fw_Mod_162 (by decide +kernel) (fun _ => rfl) hS ?_
        refine X.iconst (pc := 46) (i := 1) (v := 1) ic_1 (by decide +kernel) ?_
        refine X.iadd (pc := 47) (by decide +kernel) ?_
        refine X.nameI (fun x13 hx13 => ?_)
        have h := lt_at hx13 h
        refine X.putI (pc := 48) (k := 18) fw_Mod_162 (by decide +kernel) rfl rfl hS ?_
        refine X.nameMI (fun I14 hI14 => ?_)
        have h := lt_at hI14 h
        refine X.goto (pc := 51) (off := (-39)) (tgt := 12) (by decide +kernel) rfl ?_
        exact ih hS h hk
set_option maxRecDepth 100000 in
noncomputable def l_Mod_look_83 (g : Nat) (S : MS) (R : MR) (I : MI) (v0 : Nat) (v1 : Int32) : Nat → Int32 → Int32 → Int32 → Option (Int32 × Int32)
  | 0, _, _, _ => none
  | f + 1, v3, v4, v5 =>
    ifb (v1 ≤ v5)
      (some (v3, v5))
      (bnd1 (f_Mod_isEnd S R I v0 v3) fun x23 =>
      ifb (x23 = 0)
        (bnd1 (R v0 16) fun b26 =>
        asrt ((S b26).1 = 20) <|
        asrt (vp_in v5 (S b26).2) <|
        bnd1 (f_Mod_among g 8 (I b26 (Int32.toNatClampNeg v5))) fun x29 =>
        bnd1 (f_Mod_turned v4 x29) fun x31 =>
        bnd1 (f_Mod_cellBy S R I v0 v3 x31) fun x33 =>
        l_Mod_look_83 g S R I v0 v1 f x33 x31 (v5 + 1))
        (some (v3, v5)))
set_option maxRecDepth 100000 in
set_option maxHeartbeats 4000000 in
theorem xl_Mod_look_83 {E : Env} (hE : OKE E) {tg : Bool} {d : Nat} (hd : 5 ≤ d) {g : Nat} {S : MS} {I : MI} {L : ML} {R : MR} {n : Nat} {v0 : Nat} {v1 : Int32} {K : KT} :
    ∀ {f : Nat}  {v3 : Int32} {v4 : Int32} {v5 : Int32} {o3 : Int32} {o5 : Int32}, (S v0).1 = 12 → l_Mod_look_83 g S R I v0 v1 f v3 v4 v5 = some (o3, o5) → X E y_Mod_look b_Mod_look 6 (some .int) tg d 0 0 131 [some (.ref (e_b E + v0)), none, none, some (.int o3), none, some (.int o5)] [] S I L R n K → X E y_Mod_look b_Mod_look 6 (some .int) tg d 0 0 83 [some (.ref (e_b E + v0)), some (.int v1), none, some (.int v3), some (.int v4), some (.int v5)] [] S I L R n K := by
  intro f
  induction f with
  | zero =>
    intro v3 v4 v5 o3 o5 hS h hk
    rw [l_Mod_look_83] at h
    cases h
  | succ f ih =>
    intro v3 v4 v5 o3 o5 hS h hk
    rw [l_Mod_look_83] at h
    refine X.iload_5 (pc := 83) (by decide +kernel) ?_
    refine X.iload_1 (pc := 85) (by decide +kernel) ?_
    rcases ifb_some h with ⟨hq22, h⟩ | ⟨hq22, h⟩
    · refine X.icmp_ge_t (pc := 86) (off := 45) (tgt := 131) hq22 rfl (by decide +kernel) ?_
      have j0 := Option.some.inj h
      obtain ⟨i0, j1⟩ := Prod.mk.inj j0
      subst i0
      subst j1
      refine X.fgt (o' := [some (.ref (e_b E + v0)), none, none, some (.int v3), none, some (.int v5)]) ⟨rfl, ⟨rfl, ⟨rfl, trivial⟩⟩⟩ ?_
      exact hk
    · refine X.icmp_ge_f (pc := 86) (off := 45) (tgt := 131) hq22 rfl (by decide +kernel) ?_
      refine X.aload_0 (pc := 89) (by decide +kernel) ?_
      refine X.iload_3 (pc := 90) (by decide +kernel) ?_
      obtain ⟨x23, hv24, h⟩ := bnd1_some h
      refine X.callVi (pc := 91) (nc := 0) (ns := 0) (c_Mod_isEnd hE (dle hd (Nat.le_of_ble_eq_true rfl)) hS hv24) cv_Mod_264 (by decide +kernel) hS ⟨by decide, rfl⟩ (ddd hd (Nat.le_of_ble_eq_true rfl)) rfl (Nat.le_of_ble_eq_true rfl) rfl rfl ?_
      rcases ifb_some h with ⟨hq25, h⟩ | ⟨hq25, h⟩
      · refine X.if_ne_f (pc := 94) (off := 37) (tgt := 131) hq25 rfl (by decide +kernel) ?_
        refine X.iload_4 (pc := 97) (by decide +kernel) ?_
        refine X.ldcwS (pc := 99) (x := 279) (ix := 8) (tx := "lor") (by decide +kernel) (by decide +kernel) ?_
        refine X.aload_0 (pc := 102) (by decide +kernel) ?_
        obtain ⟨b26, hb26, h⟩ := bnd1_some h
        refine X.getR (pc := 103) (k := 16) fw_Mod_59 (by decide +kernel) (fun _ => rfl) hS hb26 ?_
        refine X.iload_5 (pc := 106) (by decide +kernel) ?_
        obtain ⟨hc28, h⟩ := asrt_some h
        obtain ⟨hi27, h⟩ := asrt_some h
        refine X.iaload (pc := 108) (by decide +kernel) hc28 hi27 ?_
        obtain ⟨x29, hv30, h⟩ := bnd1_some h
        refine X.callSi (pc := 109) (nc := 0) (ns := 0) (c_Mod_among hE (dle hd (Nat.le_of_ble_eq_true rfl)) hv30) cv_Mod_187 (by decide +kernel) (ddd hd (Nat.le_of_ble_eq_true rfl)) rfl (Nat.le_of_ble_eq_true rfl) rfl rfl ?_
        obtain ⟨x31, hv32, h⟩ := bnd1_some h
        refine X.callSi (pc := 112) (nc := 0) (ns := 0) (c_Mod_turned hE (dle hd (Nat.le_of_ble_eq_true rfl)) hv32) cv_Mod_249 (by decide +kernel) (ddd hd (Nat.le_of_ble_eq_true rfl)) rfl (Nat.le_of_ble_eq_true rfl) rfl rfl ?_
        refine X.istore_4 (pc := 115) (by decide +kernel) (by decide) rfl ?_
        refine X.aload_0 (pc := 117) (by decide +kernel) ?_
        refine X.iload_3 (pc := 118) (by decide +kernel) ?_
        refine X.iload_4 (pc := 119) (by decide +kernel) ?_
        obtain ⟨x33, hv34, h⟩ := bnd1_some h
        refine X.callVi (pc := 121) (nc := 0) (ns := 0) (c_Mod_cellBy hE (dle hd (Nat.le_of_ble_eq_true rfl)) hS hv34) cv_Mod_252 (by decide +kernel) hS ⟨by decide, rfl⟩ (ddd hd (Nat.le_of_ble_eq_true rfl)) rfl (Nat.le_of_ble_eq_true rfl) rfl rfl ?_
        refine X.istore_3 (pc := 124) (by decide +kernel) (by decide) rfl ?_
        refine X.iinc_5 (pc := 125) (z := 1) (v := 1) ic_1 (by decide +kernel) (by decide) rfl ?_
        refine X.goto (pc := 128) (off := (-45)) (tgt := 83) (by decide +kernel) rfl ?_
        exact ih hS h hk
      · refine X.if_ne_t (pc := 94) (off := 37) (tgt := 131) hq25 rfl (by decide +kernel) ?_
        have j0 := Option.some.inj h
        obtain ⟨i0, j1⟩ := Prod.mk.inj j0
        subst i0
        subst j1
        refine X.fgt (o' := [some (.ref (e_b E + v0)), none, none, some (.int v3), none, some (.int v5)]) ⟨rfl, ⟨rfl, ⟨rfl, trivial⟩⟩⟩ ?_
        exact hk
set_option maxRecDepth 100000 in
noncomputable def f_Mod_look (g : Nat) (S : MS) (R : MR) (I : MI) (L : ML) (t : Nat) : Option (Int32 × MI × ML) :=
  lt (wI I t 0 0) fun (I1 : MI) =>
  bnd2 (f_Mod_begins_I S I1 t 30) fun x2 I3 =>
  bnd1 (l_Mod_look_12 g S R t x2 g I3) fun I15 =>
  bnd1 (f_Mod_faultOf S I15 t x2 30 1) fun x17 =>
  ifb (0 ≤ x17)
    (lt (I15 t 7) fun (x20 : Int32) =>
    lt (I15 t 8) fun (x21 : Int32) =>
    bnd2 (l_Mod_look_83 g S R I15 t x2 g x20 x21 0) fun x35 x36 =>
    lt (wI I15 t 1 0) fun (I38 : MI) =>
    bnd2 (f_Mod_enters S R I38 L t (Int32.toInt64 x36)) fun I39 L40 =>
    bnd1 (R t 5) fun b42 =>
    asrt ((S b42).1 = 20) <|
    asrt (vp_in x35 (S b42).2) <|
    bnd1 (f_Mod_endOf (I39 b42 (Int32.toNatClampNeg x35))) fun x45 =>
    bnd2 (f_Mod_enters S R I39 L40 t (Int32.toInt64 x45)) fun I47 L48 =>
    some (x35, I47, L48))
    (some (x17, I15, L))
set_option maxRecDepth 100000 in
set_option maxHeartbeats 4000000 in
theorem c_Mod_look {E : Env} (hE : OKE E) {tg : Bool} {d : Nat} (hd : 5 ≤ d) {g : Nat} {S : MS} {I : MI} {L : ML} {R : MR} {n : Nat} {t : Nat} {v : Int32} {I' : MI} {L' : ML} (hS : (S t).1 = 12) (h : f_Mod_look g S R I L t = some (v, I', L')) : C E y_Mod_look b_Mod_look 6 (some .int) tg d 0 0 [.ref (e_b E + t)] S I L R n (Kq (some (.int v)) S I' L' R n) := by
  refine C.of (o := [some (.ref (e_b E + t)), none, none, none, none, none]) (by decide) rfl (Nat.le_of_ble_eq_true rfl) ?_
  rw [f_Mod_look] at h
  refine X.aload_0 (pc := 0) (by decide +kernel) ?_
  refine X.iconst (pc := 1) (i := 0) (v := 0) ic_0 (by decide +kernel) ?_
  refine X.putI (pc := 2) (k := 0) fw_Mod_3 (by decide +kernel) rfl rfl hS ?_
  refine X.nameMI (fun I1 hI1 => ?_)
  have h := lt_at hI1 h
  refine X.aload_0 (pc := 5) (by decide +kernel) ?_
  refine X.bipush (pc := 6) (i := 30) (v := 30) bp_30 (by decide +kernel) ?_
  obtain ⟨x2, I3, hv4, h⟩ := bnd2_some h
  refine X.callVi (pc := 8) (nc := 0) (ns := 0) (c_Mod_begins_I hE (dle hd (Nat.le_of_ble_eq_true rfl)) hS hv4) cv_Mod_181 (by decide +kernel) hS ⟨by decide, rfl⟩ (ddd hd (Nat.le_of_ble_eq_true rfl)) rfl (Nat.le_of_ble_eq_true rfl) rfl rfl ?_
  refine X.istore_1 (pc := 11) (by decide +kernel) (by decide) rfl ?_
  obtain ⟨I15, hv16, h⟩ := bnd1_some h
  refine xl_Mod_look_12 hE hd hS hv16 ?_
  refine X.aload_0 (pc := 54) (by decide +kernel) ?_
  refine X.iload_1 (pc := 55) (by decide +kernel) ?_
  refine X.bipush (pc := 56) (i := 30) (v := 30) bp_30 (by decide +kernel) ?_
  refine X.iconst (pc := 58) (i := 1) (v := 1) ic_1 (by decide +kernel) ?_
  obtain ⟨x17, hv18, h⟩ := bnd1_some h
  refine X.callVi (pc := 59) (nc := 0) (ns := 0) (c_Mod_faultOf hE (dle hd (Nat.le_of_ble_eq_true rfl)) hS hv18) cv_Mod_232 (by decide +kernel) hS ⟨by decide, rfl⟩ (ddd hd (Nat.le_of_ble_eq_true rfl)) rfl (Nat.le_of_ble_eq_true rfl) rfl rfl ?_
  refine X.istore_2 (pc := 62) (by decide +kernel) (by decide) rfl ?_
  refine X.iload_2 (pc := 63) (by decide +kernel) ?_
  rcases ifb_some h with ⟨hq19, h⟩ | ⟨hq19, h⟩
  · refine X.if_ge_t (pc := 64) (off := 5) (tgt := 69) hq19 rfl (by decide +kernel) ?_
    refine X.aload_0 (pc := 69) (by decide +kernel) ?_
    refine X.getI (pc := 70) (k := 7) fw_Mod_204 (by decide +kernel) (fun _ => rfl) hS ?_
    refine X.nameI (fun x20 hx20 => ?_)
    have h := lt_at hx20 h
    refine X.istore_3 (pc := 73) (by decide +kernel) (by decide) rfl ?_
    refine X.aload_0 (pc := 74) (by decide +kernel) ?_
    refine X.getI (pc := 75) (k := 8) fw_Mod_207 (by decide +kernel) (fun _ => rfl) hS ?_
    refine X.nameI (fun x21 hx21 => ?_)
    have h := lt_at hx21 h
    refine X.istore_4 (pc := 78) (by decide +kernel) (by decide) rfl ?_
    refine X.iconst (pc := 80) (i := 0) (v := 0) ic_0 (by decide +kernel) ?_
    refine X.istore_5 (pc := 81) (by decide +kernel) (by decide) rfl ?_
    obtain ⟨x35, x36, hv37, h⟩ := bnd2_some h
    refine X.fgt (o' := [some (.ref (e_b E + t)), some (.int x2), none, some (.int x20), some (.int x21), some (.int 0)]) ⟨rfl, ⟨rfl, ⟨rfl, ⟨rfl, ⟨rfl, trivial⟩⟩⟩⟩⟩ ?_
    refine xl_Mod_look_83 hE hd hS hv37 ?_
    refine X.aload_0 (pc := 131) (by decide +kernel) ?_
    refine X.iconst (pc := 132) (i := 0) (v := 0) ic_0 (by decide +kernel) ?_
    refine X.putI (pc := 133) (k := 1) fw_Mod_21 (by decide +kernel) rfl rfl hS ?_
    refine X.nameMI (fun I38 hI38 => ?_)
    have h := lt_at hI38 h
    refine X.aload_0 (pc := 136) (by decide +kernel) ?_
    refine X.iload_5 (pc := 137) (by decide +kernel) ?_
    refine X.i2l (pc := 139) (by decide +kernel) ?_
    obtain ⟨I39, L40, hv41, h⟩ := bnd2_some h
    refine X.callVv (pc := 140) (nc := 0) (ns := 0) (c_Mod_enters hE (dle hd (Nat.le_of_ble_eq_true rfl)) hS hv41) cv_Mod_24 (by decide +kernel) hS ⟨by decide, rfl⟩ (ddd hd (Nat.le_of_ble_eq_true rfl)) rfl (Nat.le_of_ble_eq_true rfl) rfl rfl ?_
    refine X.aload_0 (pc := 143) (by decide +kernel) ?_
    refine X.aload_0 (pc := 144) (by decide +kernel) ?_
    obtain ⟨b42, hb42, h⟩ := bnd1_some h
    refine X.getR (pc := 145) (k := 5) fw_Mod_40 (by decide +kernel) (fun _ => rfl) hS hb42 ?_
    refine X.iload_3 (pc := 148) (by decide +kernel) ?_
    obtain ⟨hc44, h⟩ := asrt_some h
    obtain ⟨hi43, h⟩ := asrt_some h
    refine X.iaload (pc := 149) (by decide +kernel) hc44 hi43 ?_
    obtain ⟨x45, hv46, h⟩ := bnd1_some h
    refine X.callSi (pc := 150) (nc := 0) (ns := 0) (c_Mod_endOf hE (dle hd (Nat.le_of_ble_eq_true rfl)) hv46) cv_Mod_281 (by decide +kernel) (ddd hd (Nat.le_of_ble_eq_true rfl)) rfl (Nat.le_of_ble_eq_true rfl) rfl rfl ?_
    refine X.i2l (pc := 153) (by decide +kernel) ?_
    obtain ⟨I47, L48, hv49, h⟩ := bnd2_some h
    refine X.callVv (pc := 154) (nc := 0) (ns := 0) (c_Mod_enters hE (dle hd (Nat.le_of_ble_eq_true rfl)) hS hv49) cv_Mod_24 (by decide +kernel) hS ⟨by decide, rfl⟩ (ddd hd (Nat.le_of_ble_eq_true rfl)) rfl (Nat.le_of_ble_eq_true rfl) rfl rfl ?_
    refine X.iload_3 (pc := 157) (by decide +kernel) ?_
    have j0 := Option.some.inj h
    obtain ⟨i0, j1⟩ := Prod.mk.inj j0
    obtain ⟨i1, j2⟩ := Prod.mk.inj j1
    subst i0
    subst i1
    subst j2
    exact X.ireturn (pc := 158) (by decide +kernel) ⟨_, rfl, rfl⟩ ⟨rfl, rfl, rfl, rfl, rfl, rfl⟩
  · refine X.if_ge_f (pc := 64) (off := 5) (tgt := 69) hq19 rfl (by decide +kernel) ?_
    refine X.iload_2 (pc := 67) (by decide +kernel) ?_
    have j0 := Option.some.inj h
    obtain ⟨i0, j1⟩ := Prod.mk.inj j0
    obtain ⟨i1, j2⟩ := Prod.mk.inj j1
    subst i0
    subst i1
    subst j2
    exact X.ireturn (pc := 68) (by decide +kernel) ⟨_, rfl, rfl⟩ ⟨rfl, rfl, rfl, rfl, rfl, rfl⟩
set_option maxRecDepth 100000 in
noncomputable def f_Mod_farBehind (S : MS) (R : MR) (I : MI) (t : Nat) (p1 : Int32) (p2 : Int32) (p3 : Int32) : Option Int32 :=
  bnd1 (f_Mod_turned p2 p3) fun x1 =>
  bnd1 (R t 25) fun b3 =>
  bnd1 (f_Mod_cellBy S R I t p1 x1) fun x4 =>
  lt ((4 * x4) + x1) fun (x6 : Int32) =>
  asrt ((S b3).1 = 20) <|
  asrt (vp_in x6 (S b3).2) <|
  lt (I b3 (Int32.toNatClampNeg x6)) fun (x9 : Int32) =>
  some x9
set_option maxRecDepth 100000 in
set_option maxHeartbeats 4000000 in
theorem c_Mod_farBehind {E : Env} (hE : OKE E) {tg : Bool} {d : Nat} (hd : 2 ≤ d) {S : MS} {I : MI} {L : ML} {R : MR} {n : Nat} {t : Nat} {p1 : Int32} {p2 : Int32} {p3 : Int32} {v : Int32} (hS : (S t).1 = 12) (h : f_Mod_farBehind S R I t p1 p2 p3 = some v) : C E y_Mod_farBehind b_Mod_farBehind 5 (some .int) tg d 0 0 [.ref (e_b E + t), .int p1, .int p2, .int p3] S I L R n (Kq (some (.int v)) S I L R n) := by
  refine C.of (o := [some (.ref (e_b E + t)), some (.int p1), some (.int p2), some (.int p3), none]) (by decide) rfl (Nat.le_of_ble_eq_true rfl) ?_
  rw [f_Mod_farBehind] at h
  refine X.iload_2 (pc := 0) (by decide +kernel) ?_
  refine X.iload_3 (pc := 1) (by decide +kernel) ?_
  obtain ⟨x1, hv2, h⟩ := bnd1_some h
  refine X.callSi (pc := 2) (nc := 0) (ns := 0) (c_Mod_turned hE (dle hd (Nat.le_of_ble_eq_true rfl)) hv2) cv_Mod_249 (by decide +kernel) (ddd hd (Nat.le_of_ble_eq_true rfl)) rfl (Nat.le_of_ble_eq_true rfl) rfl rfl ?_
  refine X.istore_4 (pc := 5) (by decide +kernel) (by decide) rfl ?_
  refine X.aload_0 (pc := 7) (by decide +kernel) ?_
  obtain ⟨b3, hb3, h⟩ := bnd1_some h
  refine X.getR (pc := 8) (k := 25) fw_Mod_74 (by decide +kernel) (fun _ => rfl) hS hb3 ?_
  refine X.iconst (pc := 11) (i := 4) (v := 4) ic_4 (by decide +kernel) ?_
  refine X.aload_0 (pc := 12) (by decide +kernel) ?_
  refine X.iload_1 (pc := 13) (by decide +kernel) ?_
  refine X.iload_4 (pc := 14) (by decide +kernel) ?_
  obtain ⟨x4, hv5, h⟩ := bnd1_some h
  refine X.callVi (pc := 16) (nc := 0) (ns := 0) (c_Mod_cellBy hE (dle hd (Nat.le_of_ble_eq_true rfl)) hS hv5) cv_Mod_252 (by decide +kernel) hS ⟨by decide, rfl⟩ (ddd hd (Nat.le_of_ble_eq_true rfl)) rfl (Nat.le_of_ble_eq_true rfl) rfl rfl ?_
  refine X.imul (pc := 19) (by decide +kernel) ?_
  refine X.iload_4 (pc := 20) (by decide +kernel) ?_
  refine X.iadd (pc := 22) (by decide +kernel) ?_
  refine X.nameI (fun x6 hx6 => ?_)
  have h := lt_at hx6 h
  obtain ⟨hc8, h⟩ := asrt_some h
  obtain ⟨hi7, h⟩ := asrt_some h
  refine X.iaload (pc := 23) (by decide +kernel) hc8 hi7 ?_
  refine X.nameI (fun x9 hx9 => ?_)
  have h := lt_at hx9 h
  have j0 := Option.some.inj h
  subst j0
  exact X.ireturn (pc := 24) (by decide +kernel) ⟨_, rfl, rfl⟩ ⟨rfl, rfl, rfl, rfl, rfl, rfl⟩
set_option maxRecDepth 100000 in
noncomputable def l_Mod_measures_12 (S : MS) (R : MR) (v0 : Nat) (v1 : Int32) : Nat → MI → Int32 → Option MI
  | 0, _, _ => none
  | f + 1, I, v2 =>
    ifb (4 ≤ v2)
      (some I)
      (bnd1 (R v0 25) fun b5 =>
      bnd1 (R v0 5) fun b6 =>
      asrt ((S b6).1 = 20) <|
      asrt (vp_in v1 (S b6).2) <|
      bnd1 (ifb ((I b6 (Int32.toNatClampNeg v1)) = 3)
          (some 0)
          (some 1000000)) fun (y10 : Int32) =>
      asrt ((S b5).1 = 20) <|
      asrt (vp_in ((4 * v1) + v2) (S b5).2) <|
      lt (wI I b5 (Int32.toNatClampNeg ((4 * v1) + v2)) y10) fun (I15 : MI) =>
      l_Mod_measures_12 S R v0 v1 f I15 (v2 + 1))
set_option maxRecDepth 100000 in
set_option maxHeartbeats 4000000 in
theorem xl_Mod_measures_12 {E : Env} (hE : OKE E) {tg : Bool} {d : Nat} (hd : 3 ≤ d) {S : MS} {L : ML} {R : MR} {n : Nat} {v0 : Nat} {v1 : Int32} {K : KT} :
    ∀ {f : Nat} {I : MI} {v2 : Int32} {I' : MI}, (S v0).1 = 12 → l_Mod_measures_12 S R v0 v1 f I v2 = some I' → X E y_Mod_measures b_Mod_measures 6 none tg d 0 0 50 [some (.ref (e_b E + v0)), some (.int v1), none, none, none, none] [] S I' L R n K → X E y_Mod_measures b_Mod_measures 6 none tg d 0 0 12 [some (.ref (e_b E + v0)), some (.int v1), some (.int v2), none, none, none] [] S I L R n K := by
  intro f
  induction f with
  | zero =>
    intro I v2 I' hS h hk
    rw [l_Mod_measures_12] at h
    cases h
  | succ f ih =>
    intro I v2 I' hS h hk
    rw [l_Mod_measures_12] at h
    refine X.iload_2 (pc := 12) (by decide +kernel) ?_
    refine X.iconst (pc := 13) (i := 4) (v := 4) ic_4 (by decide +kernel) ?_
    rcases ifb_some h with ⟨hq4, h⟩ | ⟨hq4, h⟩
    · refine X.icmp_ge_t (pc := 14) (off := 36) (tgt := 50) hq4 rfl (by decide +kernel) ?_
      have j0 := Option.some.inj h
      subst j0
      refine X.fgt (o' := [some (.ref (e_b E + v0)), some (.int v1), none, none, none, none]) ⟨rfl, ⟨rfl, trivial⟩⟩ ?_
      exact hk
    · refine X.icmp_ge_f (pc := 14) (off := 36) (tgt := 50) hq4 rfl (by decide +kernel) ?_
      refine X.aload_0 (pc := 17) (by decide +kernel) ?_
      obtain ⟨b5, hb5, h⟩ := bnd1_some h
      refine X.getR (pc := 18) (k := 25) fw_Mod_74 (by decide +kernel) (fun _ => rfl) hS hb5 ?_
      refine X.iconst (pc := 21) (i := 4) (v := 4) ic_4 (by decide +kernel) ?_
      refine X.iload_1 (pc := 22) (by decide +kernel) ?_
      refine X.imul (pc := 23) (by decide +kernel) ?_
      refine X.iload_2 (pc := 24) (by decide +kernel) ?_
      refine X.iadd (pc := 25) (by decide +kernel) ?_
      refine X.aload_0 (pc := 26) (by decide +kernel) ?_
      obtain ⟨b6, hb6, h⟩ := bnd1_some h
      refine X.getR (pc := 27) (k := 5) fw_Mod_40 (by decide +kernel) (fun _ => rfl) hS hb6 ?_
      refine X.iload_1 (pc := 30) (by decide +kernel) ?_
      obtain ⟨hc8, h⟩ := asrt_some h
      obtain ⟨hi7, h⟩ := asrt_some h
      refine X.iaload (pc := 31) (by decide +kernel) hc8 hi7 ?_
      refine X.iconst (pc := 32) (i := 3) (v := 3) ic_3 (by decide +kernel) ?_
      obtain ⟨y10, hr11, h⟩ := bnd1_some h
      have hj12 : X E y_Mod_measures b_Mod_measures 6 none tg d 0 0 43 [some (.ref (e_b E + v0)), some (.int v1), some (.int v2), none, none, none] [.int y10, .int ((4 * v1) + v2), .ref (e_b E + b5)] S I L R n K := by
        obtain ⟨hc13, h⟩ := asrt_some h
        obtain ⟨hi14, h⟩ := asrt_some h
        refine X.iastore (pc := 43) (by decide +kernel) hc13 hi14 ?_
        refine X.nameMI (fun I15 hI15 => ?_)
        have h := lt_at hI15 h
        refine X.iinc_2 (pc := 44) (z := 1) (v := 1) ic_1 (by decide +kernel) (by decide) rfl ?_
        refine X.goto (pc := 47) (off := (-35)) (tgt := 12) (by decide +kernel) rfl ?_
        exact ih hS h hk
      have h := hr11
      rcases ifb_some h with ⟨hq9, h⟩ | ⟨hq9, h⟩
      · refine X.icmp_ne_f (pc := 33) (off := 7) (tgt := 40) hq9 rfl (by decide +kernel) ?_
        refine X.iconst (pc := 36) (i := 0) (v := 0) ic_0 (by decide +kernel) ?_
        refine X.goto (pc := 37) (off := 6) (tgt := 43) (by decide +kernel) rfl ?_
        have j0 := Option.some.inj h
        subst j0
        exact hj12
      · refine X.icmp_ne_t (pc := 33) (off := 7) (tgt := 40) hq9 rfl (by decide +kernel) ?_
        refine X.ldcw (pc := 40) (x := 284) (v := 1000000) ld_Mod_284 (by decide +kernel) ?_
        have j0 := Option.some.inj h
        subst j0
        exact hj12
set_option maxRecDepth 100000 in
noncomputable def l_Mod_measures_2 (g : Nat) (S : MS) (R : MR) (v0 : Nat) : Nat → MI → Int32 → Option MI
  | 0, _, _ => none
  | f + 1, I, v1 =>
    bnd1 (f_Mod_cells S I v0) fun x1 =>
    ifb (x1 ≤ v1)
      (some I)
      (bnd1 (l_Mod_measures_12 S R v0 v1 g I 0) fun I16 =>
      l_Mod_measures_2 g S R v0 f I16 (v1 + 1))
set_option maxRecDepth 100000 in
set_option maxHeartbeats 4000000 in
theorem xl_Mod_measures_2 {E : Env} (hE : OKE E) {tg : Bool} {d : Nat} (hd : 3 ≤ d) {g : Nat} {S : MS} {L : ML} {R : MR} {n : Nat} {v0 : Nat} {K : KT} :
    ∀ {f : Nat} {I : MI} {v1 : Int32} {I' : MI}, (S v0).1 = 12 → l_Mod_measures_2 g S R v0 f I v1 = some I' → X E y_Mod_measures b_Mod_measures 6 none tg d 0 0 56 [some (.ref (e_b E + v0)), none, none, none, none, none] [] S I' L R n K → X E y_Mod_measures b_Mod_measures 6 none tg d 0 0 2 [some (.ref (e_b E + v0)), some (.int v1), none, none, none, none] [] S I L R n K := by
  intro f
  induction f with
  | zero =>
    intro I v1 I' hS h hk
    rw [l_Mod_measures_2] at h
    cases h
  | succ f ih =>
    intro I v1 I' hS h hk
    rw [l_Mod_measures_2] at h
    refine X.iload_1 (pc := 2) (by decide +kernel) ?_
    refine X.aload_0 (pc := 3) (by decide +kernel) ?_
    obtain ⟨x1, hv2, h⟩ := bnd1_some h
    refine X.callVi (pc := 4) (nc := 0) (ns := 0) (c_Mod_cells hE (dle hd (Nat.le_of_ble_eq_true rfl)) hS hv2) cv_Mod_148 (by decide +kernel) hS ⟨by decide, rfl⟩ (ddd hd (Nat.le_of_ble_eq_true rfl)) rfl (Nat.le_of_ble_eq_true rfl) rfl rfl ?_
    rcases ifb_some h with ⟨hq3, h⟩ | ⟨hq3, h⟩
    · refine X.icmp_ge_t (pc := 7) (off := 49) (tgt := 56) hq3 rfl (by decide +kernel) ?_
      have j0 := Option.some.inj h
      subst j0
      refine X.fgt (o' := [some (.ref (e_b E + v0)), none, none, none, none, none]) ⟨rfl, trivial⟩ ?_
      exact hk
    · refine X.icmp_ge_f (pc := 7) (off := 49) (tgt := 56) hq3 rfl (by decide +kernel) ?_
      refine X.iconst (pc := 10) (i := 0) (v := 0) ic_0 (by decide +kernel) ?_
      refine X.istore_2 (pc := 11) (by decide +kernel) (by decide) rfl ?_
      obtain ⟨I16, hv17, h⟩ := bnd1_some h
      refine xl_Mod_measures_12 hE hd hS hv17 ?_
      refine X.iinc_1 (pc := 50) (z := 1) (v := 1) ic_1 (by decide +kernel) (by decide) rfl ?_
      refine X.goto (pc := 53) (off := (-51)) (tgt := 2) (by decide +kernel) rfl ?_
      exact ih hS h hk
set_option maxRecDepth 100000 in
noncomputable def l_Mod_measures_104 (S : MS) (R : MR) (I : MI) (v0 : Nat) (v1 : Int32) (v2 : Int32) (v3 : Int32) : Nat → Int32 → Int32 → Option Int32
  | 0, _, _ => none
  | f + 1, v4, v5 =>
    ifb (3 ≤ v5)
      (some v4)
      (bnd1 (f_Mod_farBehind S R I v0 v2 v3 v5) fun x34 =>
      bnd1 (f_JMath_min v4 (1 + x34)) fun x36 =>
      l_Mod_measures_104 S R I v0 v1 v2 v3 f x36 (v5 + 1))
set_option maxRecDepth 100000 in
set_option maxHeartbeats 4000000 in
theorem xl_Mod_measures_104 {E : Env} (hE : OKE E) {tg : Bool} {d : Nat} (hd : 3 ≤ d) {S : MS} {I : MI} {L : ML} {R : MR} {n : Nat} {v0 : Nat} {v1 : Int32} {v2 : Int32} {v3 : Int32} {K : KT} :
    ∀ {f : Nat}  {v4 : Int32} {v5 : Int32} {o4 : Int32}, (S v0).1 = 12 → l_Mod_measures_104 S R I v0 v1 v2 v3 f v4 v5 = some o4 → X E y_Mod_measures b_Mod_measures 6 none tg d 0 0 133 [some (.ref (e_b E + v0)), some (.int v1), some (.int v2), some (.int v3), some (.int o4), none] [] S I L R n K → X E y_Mod_measures b_Mod_measures 6 none tg d 0 0 104 [some (.ref (e_b E + v0)), some (.int v1), some (.int v2), some (.int v3), some (.int v4), some (.int v5)] [] S I L R n K := by
  intro f
  induction f with
  | zero =>
    intro v4 v5 o4 hS h hk
    rw [l_Mod_measures_104] at h
    cases h
  | succ f ih =>
    intro v4 v5 o4 hS h hk
    rw [l_Mod_measures_104] at h
    refine X.iload_5 (pc := 104) (by decide +kernel) ?_
    refine X.iconst (pc := 106) (i := 3) (v := 3) ic_3 (by decide +kernel) ?_
    rcases ifb_some h with ⟨hq33, h⟩ | ⟨hq33, h⟩
    · refine X.icmp_ge_t (pc := 107) (off := 26) (tgt := 133) hq33 rfl (by decide +kernel) ?_
      have j0 := Option.some.inj h
      subst j0
      refine X.fgt (o' := [some (.ref (e_b E + v0)), some (.int v1), some (.int v2), some (.int v3), some (.int v4), none]) ⟨rfl, ⟨rfl, ⟨rfl, ⟨rfl, ⟨rfl, trivial⟩⟩⟩⟩⟩ ?_
      exact hk
    · refine X.icmp_ge_f (pc := 107) (off := 26) (tgt := 133) hq33 rfl (by decide +kernel) ?_
      refine X.iload_4 (pc := 110) (by decide +kernel) ?_
      refine X.iconst (pc := 112) (i := 1) (v := 1) ic_1 (by decide +kernel) ?_
      refine X.aload_0 (pc := 113) (by decide +kernel) ?_
      refine X.iload_2 (pc := 114) (by decide +kernel) ?_
      refine X.iload_3 (pc := 115) (by decide +kernel) ?_
      refine X.iload_5 (pc := 116) (by decide +kernel) ?_
      obtain ⟨x34, hv35, h⟩ := bnd1_some h
      refine X.callVi (pc := 118) (nc := 0) (ns := 0) (c_Mod_farBehind hE (dle hd (Nat.le_of_ble_eq_true rfl)) hS hv35) cv_Mod_285 (by decide +kernel) hS ⟨by decide, rfl⟩ (ddd hd (Nat.le_of_ble_eq_true rfl)) rfl (Nat.le_of_ble_eq_true rfl) rfl rfl ?_
      refine X.iadd (pc := 121) (by decide +kernel) ?_
      obtain ⟨x36, hv37, h⟩ := bnd1_some h
      refine X.callSi (pc := 122) (nc := 0) (ns := 0) (c_JMath_min hE (dle hd (Nat.le_of_ble_eq_true rfl)) hv37) cv_Mod_165 (by decide +kernel) (ddd hd (Nat.le_of_ble_eq_true rfl)) rfl (Nat.le_of_ble_eq_true rfl) rfl rfl ?_
      refine X.istore_4 (pc := 125) (by decide +kernel) (by decide) rfl ?_
      refine X.iinc_5 (pc := 127) (z := 1) (v := 1) ic_1 (by decide +kernel) (by decide) rfl ?_
      refine X.goto (pc := 130) (off := (-26)) (tgt := 104) (by decide +kernel) rfl ?_
      exact ih hS h hk
set_option maxRecDepth 100000 in
noncomputable def l_Mod_measures_76 (g : Nat) (S : MS) (R : MR) (v0 : Nat) (v2 : Int32) : Nat → MI → Int32 → Int32 → Option (Int32 × MI)
  | 0, _, _, _ => none
  | f + 1, I, v1, v3 =>
    ifb (4 ≤ v3)
      (some (v1, I))
      (bnd1 (f_Mod_isEnd S R I v0 v2) fun x25 =>
      ifb (x25 = 0)
        (bnd1 (R v0 25) fun b28 =>
        lt ((4 * v2) + v3) fun (x29 : Int32) =>
        asrt ((S b28).1 = 20) <|
        asrt (vp_in x29 (S b28).2) <|
        lt (I b28 (Int32.toNatClampNeg x29)) fun (x32 : Int32) =>
        bnd1 (l_Mod_measures_104 S R I v0 v1 v2 v3 g x32 0) fun x38 =>
        bnd1 (ifb (v1 = 0)
            (lt ((4 * v2) + v3) fun (x44 : Int32) =>
            asrt (vp_in x44 (S b28).2) <|
            ifb ((I b28 (Int32.toNatClampNeg x44)) ≤ x38)
              (some 0)
              (some 1))
            (some 1)) fun (y41 : Int32) =>
        asrt (vp_in ((4 * v2) + v3) (S b28).2) <|
        lt (wI I b28 (Int32.toNatClampNeg ((4 * v2) + v3)) x38) fun (I48 : MI) =>
        l_Mod_measures_76 g S R v0 v2 f I48 y41 (v3 + 1))
        (some (v1, I)))
set_option maxRecDepth 100000 in
set_option maxHeartbeats 4000000 in
theorem xl_Mod_measures_76 {E : Env} (hE : OKE E) {tg : Bool} {d : Nat} (hd : 3 ≤ d) {g : Nat} {S : MS} {L : ML} {R : MR} {n : Nat} {v0 : Nat} {v2 : Int32} {K : KT} :
    ∀ {f : Nat} {I : MI} {v1 : Int32} {v3 : Int32} {o1 : Int32} {I' : MI}, (S v0).1 = 12 → l_Mod_measures_76 g S R v0 v2 f I v1 v3 = some (o1, I') → X E y_Mod_measures b_Mod_measures 6 none tg d 0 0 176 [some (.ref (e_b E + v0)), some (.int o1), some (.int v2), none, none, none] [] S I' L R n K → X E y_Mod_measures b_Mod_measures 6 none tg d 0 0 76 [some (.ref (e_b E + v0)), some (.int v1), some (.int v2), some (.int v3), none, none] [] S I L R n K := by
  intro f
  induction f with
  | zero =>
    intro I v1 v3 o1 I' hS h hk
    rw [l_Mod_measures_76] at h
    cases h
  | succ f ih =>
    intro I v1 v3 o1 I' hS h hk
    rw [l_Mod_measures_76] at h
    refine X.iload_3 (pc := 76) (by decide +kernel) ?_
    refine X.iconst (pc := 77) (i := 4) (v := 4) ic_4 (by decide +kernel) ?_
    rcases ifb_some h with ⟨hq24, h⟩ | ⟨hq24, h⟩
    · refine X.icmp_ge_t (pc := 78) (off := 98) (tgt := 176) hq24 rfl (by decide +kernel) ?_
      have j0 := Option.some.inj h
      obtain ⟨i0, j1⟩ := Prod.mk.inj j0
      subst i0
      subst j1
      refine X.fgt (o' := [some (.ref (e_b E + v0)), some (.int v1), some (.int v2), none, none, none]) ⟨rfl, ⟨rfl, ⟨rfl, trivial⟩⟩⟩ ?_
      exact hk
    · refine X.icmp_ge_f (pc := 78) (off := 98) (tgt := 176) hq24 rfl (by decide +kernel) ?_
      refine X.aload_0 (pc := 81) (by decide +kernel) ?_
      refine X.iload_2 (pc := 82) (by decide +kernel) ?_
      obtain ⟨x25, hv26, h⟩ := bnd1_some h
      refine X.callVi (pc := 83) (nc := 0) (ns := 0) (c_Mod_isEnd hE (dle hd (Nat.le_of_ble_eq_true rfl)) hS hv26) cv_Mod_264 (by decide +kernel) hS ⟨by decide, rfl⟩ (ddd hd (Nat.le_of_ble_eq_true rfl)) rfl (Nat.le_of_ble_eq_true rfl) rfl rfl ?_
      rcases ifb_some h with ⟨hq27, h⟩ | ⟨hq27, h⟩
      · refine X.if_ne_f (pc := 86) (off := 90) (tgt := 176) hq27 rfl (by decide +kernel) ?_
        refine X.aload_0 (pc := 89) (by decide +kernel) ?_
        obtain ⟨b28, hb28, h⟩ := bnd1_some h
        refine X.getR (pc := 90) (k := 25) fw_Mod_74 (by decide +kernel) (fun _ => rfl) hS hb28 ?_
        refine X.iconst (pc := 93) (i := 4) (v := 4) ic_4 (by decide +kernel) ?_
        refine X.iload_2 (pc := 94) (by decide +kernel) ?_
        refine X.imul (pc := 95) (by decide +kernel) ?_
        refine X.iload_3 (pc := 96) (by decide +kernel) ?_
        refine X.iadd (pc := 97) (by decide +kernel) ?_
        refine X.nameI (fun x29 hx29 => ?_)
        have h := lt_at hx29 h
        obtain ⟨hc31, h⟩ := asrt_some h
        obtain ⟨hi30, h⟩ := asrt_some h
        refine X.iaload (pc := 98) (by decide +kernel) hc31 hi30 ?_
        refine X.nameI (fun x32 hx32 => ?_)
        have h := lt_at hx32 h
        refine X.istore_4 (pc := 99) (by decide +kernel) (by decide) rfl ?_
        refine X.iconst (pc := 101) (i := 0) (v := 0) ic_0 (by decide +kernel) ?_
        refine X.istore_5 (pc := 102) (by decide +kernel) (by decide) rfl ?_
        obtain ⟨x38, hv39, h⟩ := bnd1_some h
        refine xl_Mod_measures_104 hE hd hS hv39 ?_
        refine X.iload_1 (pc := 133) (by decide +kernel) ?_
        obtain ⟨y41, hr42, h⟩ := bnd1_some h
        have hj43 : X E y_Mod_measures b_Mod_measures 6 none tg d 0 0 157 [some (.ref (e_b E + v0)), none, some (.int v2), some (.int v3), some (.int x38), none] [.int y41] S I L R n K := by
          refine X.istore_1 (pc := 157) (by decide +kernel) (by decide) rfl ?_
          refine X.aload_0 (pc := 158) (by decide +kernel) ?_
          refine X.getR (pc := 159) (k := 25) fw_Mod_74 (by decide +kernel) (fun _ => rfl) hS hb28 ?_
          refine X.iconst (pc := 162) (i := 4) (v := 4) ic_4 (by decide +kernel) ?_
          refine X.iload_2 (pc := 163) (by decide +kernel) ?_
          refine X.imul (pc := 164) (by decide +kernel) ?_
          refine X.iload_3 (pc := 165) (by decide +kernel) ?_
          refine X.iadd (pc := 166) (by decide +kernel) ?_
          refine X.iload_4 (pc := 167) (by decide +kernel) ?_
          obtain ⟨hi47, h⟩ := asrt_some h
          refine X.iastore (pc := 169) (by decide +kernel) hc31 hi47 ?_
          refine X.nameMI (fun I48 hI48 => ?_)
          have h := lt_at hI48 h
          refine X.iinc_3 (pc := 170) (z := 1) (v := 1) ic_1 (by decide +kernel) (by decide) rfl ?_
          refine X.goto (pc := 173) (off := (-97)) (tgt := 76) (by decide +kernel) rfl ?_
          refine X.fgt (o' := [some (.ref (e_b E + v0)), some (.int y41), some (.int v2), some (.int (v3 + 1)), none, none]) ⟨rfl, ⟨rfl, ⟨rfl, ⟨rfl, trivial⟩⟩⟩⟩ ?_
          exact ih hS h hk
        have h := hr42
        rcases ifb_some h with ⟨hq40, h⟩ | ⟨hq40, h⟩
        · refine X.if_ne_f (pc := 134) (off := 18) (tgt := 152) hq40 rfl (by decide +kernel) ?_
          refine X.iload_4 (pc := 137) (by decide +kernel) ?_
          refine X.aload_0 (pc := 139) (by decide +kernel) ?_
          refine X.getR (pc := 140) (k := 25) fw_Mod_74 (by decide +kernel) (fun _ => rfl) hS hb28 ?_
          refine X.iconst (pc := 143) (i := 4) (v := 4) ic_4 (by decide +kernel) ?_
          refine X.iload_2 (pc := 144) (by decide +kernel) ?_
          refine X.imul (pc := 145) (by decide +kernel) ?_
          refine X.iload_3 (pc := 146) (by decide +kernel) ?_
          refine X.iadd (pc := 147) (by decide +kernel) ?_
          refine X.nameI (fun x44 hx44 => ?_)
          have h := lt_at hx44 h
          obtain ⟨hi45, h⟩ := asrt_some h
          refine X.iaload (pc := 148) (by decide +kernel) hc31 hi45 ?_
          rcases ifb_some h with ⟨hq46, h⟩ | ⟨hq46, h⟩
          · refine X.icmp_ge_t (pc := 149) (off := 7) (tgt := 156) hq46 rfl (by decide +kernel) ?_
            refine X.iconst (pc := 156) (i := 0) (v := 0) ic_0 (by decide +kernel) ?_
            have j0 := Option.some.inj h
            subst j0
            refine X.fgt (o' := [some (.ref (e_b E + v0)), none, some (.int v2), some (.int v3), some (.int x38), none]) ⟨rfl, ⟨rfl, ⟨rfl, ⟨rfl, trivial⟩⟩⟩⟩ ?_
            exact hj43
          · refine X.icmp_ge_f (pc := 149) (off := 7) (tgt := 156) hq46 rfl (by decide +kernel) ?_
            refine X.iconst (pc := 152) (i := 1) (v := 1) ic_1 (by decide +kernel) ?_
            refine X.goto (pc := 153) (off := 4) (tgt := 157) (by decide +kernel) rfl ?_
            have j0 := Option.some.inj h
            subst j0
            refine X.fgt (o' := [some (.ref (e_b E + v0)), none, some (.int v2), some (.int v3), some (.int x38), none]) ⟨rfl, ⟨rfl, ⟨rfl, ⟨rfl, trivial⟩⟩⟩⟩ ?_
            exact hj43
        · refine X.if_ne_t (pc := 134) (off := 18) (tgt := 152) hq40 rfl (by decide +kernel) ?_
          refine X.iconst (pc := 152) (i := 1) (v := 1) ic_1 (by decide +kernel) ?_
          refine X.goto (pc := 153) (off := 4) (tgt := 157) (by decide +kernel) rfl ?_
          have j0 := Option.some.inj h
          subst j0
          refine X.fgt (o' := [some (.ref (e_b E + v0)), none, some (.int v2), some (.int v3), some (.int x38), none]) ⟨rfl, ⟨rfl, ⟨rfl, ⟨rfl, trivial⟩⟩⟩⟩ ?_
          exact hj43
      · refine X.if_ne_t (pc := 86) (off := 90) (tgt := 176) hq27 rfl (by decide +kernel) ?_
        have j0 := Option.some.inj h
        obtain ⟨i0, j1⟩ := Prod.mk.inj j0
        subst i0
        subst j1
        refine X.fgt (o' := [some (.ref (e_b E + v0)), some (.int v1), some (.int v2), none, none, none]) ⟨rfl, ⟨rfl, ⟨rfl, trivial⟩⟩⟩ ?_
        exact hk
set_option maxRecDepth 100000 in
noncomputable def l_Mod_measures_66 (g : Nat) (S : MS) (R : MR) (v0 : Nat) : Nat → MI → Int32 → Int32 → Option (Int32 × MI)
  | 0, _, _, _ => none
  | f + 1, I, v1, v2 =>
    bnd1 (f_Mod_cells S I v0) fun x21 =>
    ifb (x21 ≤ v2)
      (some (v1, I))
      (bnd2 (l_Mod_measures_76 g S R v0 v2 g I v1 0) fun x49 I50 =>
      l_Mod_measures_66 g S R v0 f I50 x49 (v2 + 1))
set_option maxRecDepth 100000 in
set_option maxHeartbeats 4000000 in
theorem xl_Mod_measures_66 {E : Env} (hE : OKE E) {tg : Bool} {d : Nat} (hd : 3 ≤ d) {g : Nat} {S : MS} {L : ML} {R : MR} {n : Nat} {v0 : Nat} {K : KT} :
    ∀ {f : Nat} {I : MI} {v1 : Int32} {v2 : Int32} {o1 : Int32} {I' : MI}, (S v0).1 = 12 → l_Mod_measures_66 g S R v0 f I v1 v2 = some (o1, I') → X E y_Mod_measures b_Mod_measures 6 none tg d 0 0 182 [some (.ref (e_b E + v0)), some (.int o1), none, none, none, none] [] S I' L R n K → X E y_Mod_measures b_Mod_measures 6 none tg d 0 0 66 [some (.ref (e_b E + v0)), some (.int v1), some (.int v2), none, none, none] [] S I L R n K := by
  intro f
  induction f with
  | zero =>
    intro I v1 v2 o1 I' hS h hk
    rw [l_Mod_measures_66] at h
    cases h
  | succ f ih =>
    intro I v1 v2 o1 I' hS h hk
    rw [l_Mod_measures_66] at h
    refine X.iload_2 (pc := 66) (by decide +kernel) ?_
    refine X.aload_0 (pc := 67) (by decide +kernel) ?_
    obtain ⟨x21, hv22, h⟩ := bnd1_some h
    refine X.callVi (pc := 68) (nc := 0) (ns := 0) (c_Mod_cells hE (dle hd (Nat.le_of_ble_eq_true rfl)) hS hv22) cv_Mod_148 (by decide +kernel) hS ⟨by decide, rfl⟩ (ddd hd (Nat.le_of_ble_eq_true rfl)) rfl (Nat.le_of_ble_eq_true rfl) rfl rfl ?_
    rcases ifb_some h with ⟨hq23, h⟩ | ⟨hq23, h⟩
    · refine X.icmp_ge_t (pc := 71) (off := 111) (tgt := 182) hq23 rfl (by decide +kernel) ?_
      have j0 := Option.some.inj h
      obtain ⟨i0, j1⟩ := Prod.mk.inj j0
      subst i0
      subst j1
      refine X.fgt (o' := [some (.ref (e_b E + v0)), some (.int v1), none, none, none, none]) ⟨rfl, ⟨rfl, trivial⟩⟩ ?_
      exact hk
    · refine X.icmp_ge_f (pc := 71) (off := 111) (tgt := 182) hq23 rfl (by decide +kernel) ?_
      refine X.iconst (pc := 74) (i := 0) (v := 0) ic_0 (by decide +kernel) ?_
      refine X.istore_3 (pc := 75) (by decide +kernel) (by decide) rfl ?_
      obtain ⟨x49, I50, hv51, h⟩ := bnd2_some h
      refine xl_Mod_measures_76 hE hd hS hv51 ?_
      refine X.iinc_2 (pc := 176) (z := 1) (v := 1) ic_1 (by decide +kernel) (by decide) rfl ?_
      refine X.goto (pc := 179) (off := (-113)) (tgt := 66) (by decide +kernel) rfl ?_
      exact ih hS h hk
set_option maxRecDepth 100000 in
noncomputable def l_Mod_measures_58 (g : Nat) (S : MS) (R : MR) (v0 : Nat) : Nat → MI → Int32 → Option MI
  | 0, _, _ => none
  | f + 1, I, v1 =>
    ifb (v1 = 0)
      (some I)
      (bnd2 (l_Mod_measures_66 g S R v0 g I 0 0) fun x52 I53 =>
      l_Mod_measures_58 g S R v0 f I53 x52)
set_option maxRecDepth 100000 in
set_option maxHeartbeats 4000000 in
theorem xl_Mod_measures_58 {E : Env} (hE : OKE E) {tg : Bool} {d : Nat} (hd : 3 ≤ d) {g : Nat} {S : MS} {L : ML} {R : MR} {n : Nat} {v0 : Nat} {K : KT} :
    ∀ {f : Nat} {I : MI} {v1 : Int32} {I' : MI}, (S v0).1 = 12 → l_Mod_measures_58 g S R v0 f I v1 = some I' → X E y_Mod_measures b_Mod_measures 6 none tg d 0 0 185 [none, none, none, none, none, none] [] S I' L R n K → X E y_Mod_measures b_Mod_measures 6 none tg d 0 0 58 [some (.ref (e_b E + v0)), some (.int v1), none, none, none, none] [] S I L R n K := by
  intro f
  induction f with
  | zero =>
    intro I v1 I' hS h hk
    rw [l_Mod_measures_58] at h
    cases h
  | succ f ih =>
    intro I v1 I' hS h hk
    rw [l_Mod_measures_58] at h
    refine X.iload_1 (pc := 58) (by decide +kernel) ?_
    rcases ifb_some h with ⟨hq20, h⟩ | ⟨hq20, h⟩
    · refine X.if_eq_t (pc := 59) (off := 126) (tgt := 185) hq20 rfl (by decide +kernel) ?_
      have j0 := Option.some.inj h
      subst j0
      refine X.fgt (o' := [none, none, none, none, none, none]) trivial ?_
      exact hk
    · refine X.if_eq_f (pc := 59) (off := 126) (tgt := 185) hq20 rfl (by decide +kernel) ?_
      refine X.iconst (pc := 62) (i := 0) (v := 0) ic_0 (by decide +kernel) ?_
      refine X.istore_1 (pc := 63) (by decide +kernel) (by decide) rfl ?_
      refine X.iconst (pc := 64) (i := 0) (v := 0) ic_0 (by decide +kernel) ?_
      refine X.istore_2 (pc := 65) (by decide +kernel) (by decide) rfl ?_
      obtain ⟨x52, I53, hv54, h⟩ := bnd2_some h
      refine xl_Mod_measures_66 hE hd hS hv54 ?_
      refine X.goto (pc := 182) (off := (-124)) (tgt := 58) (by decide +kernel) rfl ?_
      exact ih hS h hk
set_option maxRecDepth 100000 in
noncomputable def f_Mod_measures (g : Nat) (S : MS) (R : MR) (I : MI) (t : Nat) : Option MI :=
  bnd1 (l_Mod_measures_2 g S R t g I 0) fun I18 =>
  bnd1 (l_Mod_measures_58 g S R t g I18 1) fun I55 =>
  some I55
set_option maxRecDepth 100000 in
set_option maxHeartbeats 4000000 in
theorem c_Mod_measures {E : Env} (hE : OKE E) {tg : Bool} {d : Nat} (hd : 3 ≤ d) {g : Nat} {S : MS} {I : MI} {L : ML} {R : MR} {n : Nat} {t : Nat} {I' : MI} (hS : (S t).1 = 12) (h : f_Mod_measures g S R I t = some I') : C E y_Mod_measures b_Mod_measures 6 none tg d 0 0 [.ref (e_b E + t)] S I L R n (Kq none S I' L R n) := by
  refine C.of (o := [some (.ref (e_b E + t)), none, none, none, none, none]) (by decide) rfl (Nat.le_of_ble_eq_true rfl) ?_
  rw [f_Mod_measures] at h
  refine X.iconst (pc := 0) (i := 0) (v := 0) ic_0 (by decide +kernel) ?_
  refine X.istore_1 (pc := 1) (by decide +kernel) (by decide) rfl ?_
  obtain ⟨I18, hv19, h⟩ := bnd1_some h
  refine xl_Mod_measures_2 hE hd hS hv19 ?_
  refine X.iconst (pc := 56) (i := 1) (v := 1) ic_1 (by decide +kernel) ?_
  refine X.istore_1 (pc := 57) (by decide +kernel) (by decide) rfl ?_
  obtain ⟨I55, hv56, h⟩ := bnd1_some h
  refine xl_Mod_measures_58 hE hd hS hv56 ?_
  have j0 := Option.some.inj h
  subst j0
  exact X.vreturn (pc := 185) (by decide +kernel) rfl ⟨rfl, rfl, rfl, rfl, rfl, rfl⟩
set_option maxRecDepth 100000 in
noncomputable def l_Mod_way_62 (S : MS) (R : MR) (I : MI) (v0 : Nat) (v1 : Int32) (v2 : Int32) (v3 : Int32) (v4 : Int32) : Nat → Int32 → Option Int32
  | 0, _ => none
  | f + 1, v5 =>
    bnd1 (f_Mod_farBehind S R I v0 v2 v3 v5) fun x14 =>
    ifb (x14 = (v4 - 1))
      (some v5)
      (l_Mod_way_62 S R I v0 v1 v2 v3 v4 f (v5 + 1))
set_option maxRecDepth 100000 in
set_option maxHeartbeats 4000000 in
theorem xl_Mod_way_62 {E : Env} (hE : OKE E) {tg : Bool} {d : Nat} (hd : 4 ≤ d) {S : MS} {I : MI} {L : ML} {R : MR} {n : Nat} {v0 : Nat} {v1 : Int32} {v2 : Int32} {v3 : Int32} {v4 : Int32} {K : KT} :
    ∀ {f : Nat}  {v5 : Int32} {o5 : Int32}, (S v0).1 = 12 → l_Mod_way_62 S R I v0 v1 v2 v3 v4 f v5 = some o5 → X E y_Mod_way b_Mod_way 6 (some .int) tg d 0 0 83 [some (.ref (e_b E + v0)), some (.int v1), some (.int v2), some (.int v3), some (.int v4), some (.int o5)] [] S I L R n K → X E y_Mod_way b_Mod_way 6 (some .int) tg d 0 0 62 [some (.ref (e_b E + v0)), some (.int v1), some (.int v2), some (.int v3), some (.int v4), some (.int v5)] [] S I L R n K := by
  intro f
  induction f with
  | zero =>
    intro v5 o5 hS h hk
    rw [l_Mod_way_62] at h
    cases h
  | succ f ih =>
    intro v5 o5 hS h hk
    rw [l_Mod_way_62] at h
    refine X.aload_0 (pc := 62) (by decide +kernel) ?_
    refine X.iload_2 (pc := 63) (by decide +kernel) ?_
    refine X.iload_3 (pc := 64) (by decide +kernel) ?_
    refine X.iload_5 (pc := 65) (by decide +kernel) ?_
    obtain ⟨x14, hv15, h⟩ := bnd1_some h
    refine X.callVi (pc := 67) (nc := 0) (ns := 0) (c_Mod_farBehind hE (dle hd (Nat.le_of_ble_eq_true rfl)) hS hv15) cv_Mod_285 (by decide +kernel) hS ⟨by decide, rfl⟩ (ddd hd (Nat.le_of_ble_eq_true rfl)) rfl (Nat.le_of_ble_eq_true rfl) rfl rfl ?_
    refine X.iload_4 (pc := 70) (by decide +kernel) ?_
    refine X.iconst (pc := 72) (i := 1) (v := 1) ic_1 (by decide +kernel) ?_
    refine X.isub (pc := 73) (by decide +kernel) ?_
    rcases ifb_some h with ⟨hq16, h⟩ | ⟨hq16, h⟩
    · refine X.icmp_eq_t (pc := 74) (off := 9) (tgt := 83) hq16 rfl (by decide +kernel) ?_
      have j0 := Option.some.inj h
      subst j0
      exact hk
    · refine X.icmp_eq_f (pc := 74) (off := 9) (tgt := 83) hq16 rfl (by decide +kernel) ?_
      refine X.iinc_5 (pc := 77) (z := 1) (v := 1) ic_1 (by decide +kernel) (by decide) rfl ?_
      refine X.goto (pc := 80) (off := (-18)) (tgt := 62) (by decide +kernel) rfl ?_
      exact ih hS h hk
set_option maxRecDepth 100000 in
noncomputable def l_Mod_way_54 (g : Nat) (S : MS) (R : MR) (v0 : Nat) (v1 : Int32) : Nat → MI → ML → Int32 → Int32 → Int32 → Option (MI × ML)
  | 0, _, _, _, _, _ => none
  | f + 1, I, L, v2, v3, v4 =>
    ifb (v4 ≤ 0)
      (some (I, L))
      (bnd1 (l_Mod_way_62 S R I v0 v1 v2 v3 v4 g 0) fun x17 =>
      bnd2 (ifb (10 ≤ (v1 - v4))
          (some (I, L))
          (bnd2 (f_Mod_enters S R I L v0 (Int32.toInt64 x17)) fun I24 L25 =>
          some (I24, L25))) fun (I20 : MI) (L21 : ML) =>
      bnd1 (f_Mod_turned v3 x17) fun x27 =>
      bnd1 (f_Mod_cellBy S R I20 v0 v2 x27) fun x29 =>
      l_Mod_way_54 g S R v0 v1 f I20 L21 x29 x27 (v4 + (-1)))
set_option maxRecDepth 100000 in
set_option maxHeartbeats 4000000 in
theorem xl_Mod_way_54 {E : Env} (hE : OKE E) {tg : Bool} {d : Nat} (hd : 4 ≤ d) {g : Nat} {S : MS} {R : MR} {n : Nat} {v0 : Nat} {v1 : Int32} {K : KT} :
    ∀ {f : Nat} {I : MI} {L : ML} {v2 : Int32} {v3 : Int32} {v4 : Int32} {I' : MI} {L' : ML}, (S v0).1 = 12 → l_Mod_way_54 g S R v0 v1 f I L v2 v3 v4 = some (I', L') → X E y_Mod_way b_Mod_way 6 (some .int) tg d 0 0 119 [none, some (.int v1), none, none, none, none] [] S I' L' R n K → X E y_Mod_way b_Mod_way 6 (some .int) tg d 0 0 54 [some (.ref (e_b E + v0)), some (.int v1), some (.int v2), some (.int v3), some (.int v4), none] [] S I L R n K := by
  intro f
  induction f with
  | zero =>
    intro I L v2 v3 v4 I' L' hS h hk
    rw [l_Mod_way_54] at h
    cases h
  | succ f ih =>
    intro I L v2 v3 v4 I' L' hS h hk
    rw [l_Mod_way_54] at h
    refine X.iload_4 (pc := 54) (by decide +kernel) ?_
    rcases ifb_some h with ⟨hq13, h⟩ | ⟨hq13, h⟩
    · refine X.if_le_t (pc := 56) (off := 63) (tgt := 119) hq13 rfl (by decide +kernel) ?_
      have j0 := Option.some.inj h
      obtain ⟨i0, j1⟩ := Prod.mk.inj j0
      subst i0
      subst j1
      refine X.fgt (o' := [none, some (.int v1), none, none, none, none]) ⟨rfl, trivial⟩ ?_
      exact hk
    · refine X.if_le_f (pc := 56) (off := 63) (tgt := 119) hq13 rfl (by decide +kernel) ?_
      refine X.iconst (pc := 59) (i := 0) (v := 0) ic_0 (by decide +kernel) ?_
      refine X.istore_5 (pc := 60) (by decide +kernel) (by decide) rfl ?_
      obtain ⟨x17, hv18, h⟩ := bnd1_some h
      refine xl_Mod_way_62 hE hd hS hv18 ?_
      refine X.iload_1 (pc := 83) (by decide +kernel) ?_
      refine X.iload_4 (pc := 84) (by decide +kernel) ?_
      refine X.isub (pc := 86) (by decide +kernel) ?_
      refine X.bipush (pc := 87) (i := 10) (v := 10) bp_10 (by decide +kernel) ?_
      obtain ⟨I20, L21, hr22, h⟩ := bnd2_some h
      have hj23 : X E y_Mod_way b_Mod_way 6 (some .int) tg d 0 0 99 [some (.ref (e_b E + v0)), some (.int v1), some (.int v2), some (.int v3), some (.int v4), some (.int x17)] [] S I20 L21 R n K := by
        refine X.iload_3 (pc := 99) (by decide +kernel) ?_
        refine X.iload_5 (pc := 100) (by decide +kernel) ?_
        obtain ⟨x27, hv28, h⟩ := bnd1_some h
        refine X.callSi (pc := 102) (nc := 0) (ns := 0) (c_Mod_turned hE (dle hd (Nat.le_of_ble_eq_true rfl)) hv28) cv_Mod_249 (by decide +kernel) (ddd hd (Nat.le_of_ble_eq_true rfl)) rfl (Nat.le_of_ble_eq_true rfl) rfl rfl ?_
        refine X.istore_3 (pc := 105) (by decide +kernel) (by decide) rfl ?_
        refine X.aload_0 (pc := 106) (by decide +kernel) ?_
        refine X.iload_2 (pc := 107) (by decide +kernel) ?_
        refine X.iload_3 (pc := 108) (by decide +kernel) ?_
        obtain ⟨x29, hv30, h⟩ := bnd1_some h
        refine X.callVi (pc := 109) (nc := 0) (ns := 0) (c_Mod_cellBy hE (dle hd (Nat.le_of_ble_eq_true rfl)) hS hv30) cv_Mod_252 (by decide +kernel) hS ⟨by decide, rfl⟩ (ddd hd (Nat.le_of_ble_eq_true rfl)) rfl (Nat.le_of_ble_eq_true rfl) rfl rfl ?_
        refine X.istore_2 (pc := 112) (by decide +kernel) (by decide) rfl ?_
        refine X.iinc_4 (pc := 113) (z := (-1)) (v := (-1)) ic_m1 (by decide +kernel) (by decide) rfl ?_
        refine X.goto (pc := 116) (off := (-62)) (tgt := 54) (by decide +kernel) rfl ?_
        refine X.fgt (o' := [some (.ref (e_b E + v0)), some (.int v1), some (.int x29), some (.int x27), some (.int (v4 + (-1))), none]) ⟨rfl, ⟨rfl, ⟨rfl, ⟨rfl, ⟨rfl, trivial⟩⟩⟩⟩⟩ ?_
        exact ih hS h hk
      have h := hr22
      rcases ifb_some h with ⟨hq19, h⟩ | ⟨hq19, h⟩
      · refine X.icmp_ge_t (pc := 89) (off := 10) (tgt := 99) hq19 rfl (by decide +kernel) ?_
        have j0 := Option.some.inj h
        obtain ⟨i0, j1⟩ := Prod.mk.inj j0
        subst i0
        subst j1
        exact hj23
      · refine X.icmp_ge_f (pc := 89) (off := 10) (tgt := 99) hq19 rfl (by decide +kernel) ?_
        refine X.aload_0 (pc := 92) (by decide +kernel) ?_
        refine X.iload_5 (pc := 93) (by decide +kernel) ?_
        refine X.i2l (pc := 95) (by decide +kernel) ?_
        obtain ⟨I24, L25, hv26, h⟩ := bnd2_some h
        refine X.callVv (pc := 96) (nc := 0) (ns := 0) (c_Mod_enters hE (dle hd (Nat.le_of_ble_eq_true rfl)) hS hv26) cv_Mod_24 (by decide +kernel) hS ⟨by decide, rfl⟩ (ddd hd (Nat.le_of_ble_eq_true rfl)) rfl (Nat.le_of_ble_eq_true rfl) rfl rfl ?_
        have j0 := Option.some.inj h
        obtain ⟨i0, j1⟩ := Prod.mk.inj j0
        subst i0
        subst j1
        exact hj23
set_option maxRecDepth 100000 in
noncomputable def f_Mod_way (g : Nat) (S : MS) (R : MR) (I : MI) (L : ML) (t : Nat) : Option (Int32 × MI × ML) :=
  lt (wI I t 0 0) fun (I1 : MI) =>
  bnd1 (f_Mod_measures g S R I1 t) fun I2 =>
  bnd1 (R t 25) fun b4 =>
  lt ((4 * (I2 t 7)) + (I2 t 8)) fun (x5 : Int32) =>
  asrt ((S b4).1 = 20) <|
  asrt (vp_in x5 (S b4).2) <|
  lt (I2 b4 (Int32.toNatClampNeg x5)) fun (x8 : Int32) =>
  ifb (x8 < 1000000)
    (lt (wI I2 t 1 0) fun (I10 : MI) =>
    lt (I10 t 7) fun (x11 : Int32) =>
    lt (I10 t 8) fun (x12 : Int32) =>
    bnd2 (l_Mod_way_54 g S R t x8 g I10 L x11 x12 x8) fun I31 L32 =>
    some (x8, I31, L32))
    (some ((-2), I2, L))
set_option maxRecDepth 100000 in
set_option maxHeartbeats 4000000 in
theorem c_Mod_way {E : Env} (hE : OKE E) {tg : Bool} {d : Nat} (hd : 4 ≤ d) {g : Nat} {S : MS} {I : MI} {L : ML} {R : MR} {n : Nat} {t : Nat} {v : Int32} {I' : MI} {L' : ML} (hS : (S t).1 = 12) (h : f_Mod_way g S R I L t = some (v, I', L')) : C E y_Mod_way b_Mod_way 6 (some .int) tg d 0 0 [.ref (e_b E + t)] S I L R n (Kq (some (.int v)) S I' L' R n) := by
  refine C.of (o := [some (.ref (e_b E + t)), none, none, none, none, none]) (by decide) rfl (Nat.le_of_ble_eq_true rfl) ?_
  rw [f_Mod_way] at h
  refine X.aload_0 (pc := 0) (by decide +kernel) ?_
  refine X.iconst (pc := 1) (i := 0) (v := 0) ic_0 (by decide +kernel) ?_
  refine X.putI (pc := 2) (k := 0) fw_Mod_3 (by decide +kernel) rfl rfl hS ?_
  refine X.nameMI (fun I1 hI1 => ?_)
  have h := lt_at hI1 h
  refine X.aload_0 (pc := 5) (by decide +kernel) ?_
  obtain ⟨I2, hv3, h⟩ := bnd1_some h
  refine X.callVv (pc := 6) (nc := 0) (ns := 0) (c_Mod_measures hE (dle hd (Nat.le_of_ble_eq_true rfl)) hS hv3) cv_Mod_289 (by decide +kernel) hS ⟨by decide, rfl⟩ (ddd hd (Nat.le_of_ble_eq_true rfl)) rfl (Nat.le_of_ble_eq_true rfl) rfl rfl ?_
  refine X.aload_0 (pc := 9) (by decide +kernel) ?_
  obtain ⟨b4, hb4, h⟩ := bnd1_some h
  refine X.getR (pc := 10) (k := 25) fw_Mod_74 (by decide +kernel) (fun _ => rfl) hS hb4 ?_
  refine X.iconst (pc := 13) (i := 4) (v := 4) ic_4 (by decide +kernel) ?_
  refine X.aload_0 (pc := 14) (by decide +kernel) ?_
  refine X.getI (pc := 15) (k := 7) fw_Mod_204 (by decide +kernel) (fun _ => rfl) hS ?_
  refine X.imul (pc := 18) (by decide +kernel) ?_
  refine X.aload_0 (pc := 19) (by decide +kernel) ?_
  refine X.getI (pc := 20) (k := 8) fw_Mod_207 (by decide +kernel) (fun _ => rfl) hS ?_
  refine X.iadd (pc := 23) (by decide +kernel) ?_
  refine X.nameI (fun x5 hx5 => ?_)
  have h := lt_at hx5 h
  obtain ⟨hc7, h⟩ := asrt_some h
  obtain ⟨hi6, h⟩ := asrt_some h
  refine X.iaload (pc := 24) (by decide +kernel) hc7 hi6 ?_
  refine X.nameI (fun x8 hx8 => ?_)
  have h := lt_at hx8 h
  refine X.istore_1 (pc := 25) (by decide +kernel) (by decide) rfl ?_
  refine X.iload_1 (pc := 26) (by decide +kernel) ?_
  refine X.ldcw (pc := 27) (x := 284) (v := 1000000) ld_Mod_284 (by decide +kernel) ?_
  rcases ifb_some h with ⟨hq9, h⟩ | ⟨hq9, h⟩
  · refine X.icmp_lt_t (pc := 30) (off := 6) (tgt := 36) hq9 rfl (by decide +kernel) ?_
    refine X.aload_0 (pc := 36) (by decide +kernel) ?_
    refine X.iconst (pc := 37) (i := 0) (v := 0) ic_0 (by decide +kernel) ?_
    refine X.putI (pc := 38) (k := 1) fw_Mod_21 (by decide +kernel) rfl rfl hS ?_
    refine X.nameMI (fun I10 hI10 => ?_)
    have h := lt_at hI10 h
    refine X.aload_0 (pc := 41) (by decide +kernel) ?_
    refine X.getI (pc := 42) (k := 7) fw_Mod_204 (by decide +kernel) (fun _ => rfl) hS ?_
    refine X.nameI (fun x11 hx11 => ?_)
    have h := lt_at hx11 h
    refine X.istore_2 (pc := 45) (by decide +kernel) (by decide) rfl ?_
    refine X.aload_0 (pc := 46) (by decide +kernel) ?_
    refine X.getI (pc := 47) (k := 8) fw_Mod_207 (by decide +kernel) (fun _ => rfl) hS ?_
    refine X.nameI (fun x12 hx12 => ?_)
    have h := lt_at hx12 h
    refine X.istore_3 (pc := 50) (by decide +kernel) (by decide) rfl ?_
    refine X.iload_1 (pc := 51) (by decide +kernel) ?_
    refine X.istore_4 (pc := 52) (by decide +kernel) (by decide) rfl ?_
    obtain ⟨I31, L32, hv33, h⟩ := bnd2_some h
    refine xl_Mod_way_54 hE hd hS hv33 ?_
    refine X.iload_1 (pc := 119) (by decide +kernel) ?_
    have j0 := Option.some.inj h
    obtain ⟨i0, j1⟩ := Prod.mk.inj j0
    obtain ⟨i1, j2⟩ := Prod.mk.inj j1
    subst i0
    subst i1
    subst j2
    exact X.ireturn (pc := 120) (by decide +kernel) ⟨_, rfl, rfl⟩ ⟨rfl, rfl, rfl, rfl, rfl, rfl⟩
  · refine X.icmp_lt_f (pc := 30) (off := 6) (tgt := 36) hq9 rfl (by decide +kernel) ?_
    refine X.bipush (pc := 33) (i := (-2)) (v := (-2)) bp_m2 (by decide +kernel) ?_
    have j0 := Option.some.inj h
    obtain ⟨i0, j1⟩ := Prod.mk.inj j0
    obtain ⟨i1, j2⟩ := Prod.mk.inj j1
    subst i0
    subst i1
    subst j2
    exact X.ireturn (pc := 35) (by decide +kernel) ⟨_, rfl, rfl⟩ ⟨rfl, rfl, rfl, rfl, rfl, rfl⟩
set_option maxRecDepth 100000 in
noncomputable def l_Mod_seesHere_2 (S : MS) (R : MR) (v0 : Nat) : Nat → MI → Int32 → Option MI
  | 0, _, _ => none
  | f + 1, I, v1 =>
    ifb (144 ≤ v1)
      (some I)
      (bnd1 (R v0 26) fun b2 =>
      bnd1 (ifb (v1 = ((4 * (I v0 7)) + (I v0 8)))
          (some 1)
          (some 0)) fun (y4 : Int32) =>
      asrt ((S b2).1 = 22) <|
      asrt (vp_in v1 (S b2).2) <|
      lt (wI I b2 (Int32.toNatClampNeg v1) (y4 &&& 1)) fun (I9 : MI) =>
      l_Mod_seesHere_2 S R v0 f I9 (v1 + 1))
set_option maxRecDepth 100000 in
set_option maxHeartbeats 4000000 in
theorem xl_Mod_seesHere_2 {E : Env} (hE : OKE E) {tg : Bool} {d : Nat} (hd : 0 ≤ d) {S : MS} {L : ML} {R : MR} {n : Nat} {v0 : Nat} {K : KT} :
    ∀ {f : Nat} {I : MI} {v1 : Int32} {I' : MI}, (S v0).1 = 12 → l_Mod_seesHere_2 S R v0 f I v1 = some I' → X E y_Mod_seesHere b_Mod_seesHere 2 none tg d 0 0 41 [none, none] [] S I' L R n K → X E y_Mod_seesHere b_Mod_seesHere 2 none tg d 0 0 2 [some (.ref (e_b E + v0)), some (.int v1)] [] S I L R n K := by
  intro f
  induction f with
  | zero =>
    intro I v1 I' hS h hk
    rw [l_Mod_seesHere_2] at h
    cases h
  | succ f ih =>
    intro I v1 I' hS h hk
    rw [l_Mod_seesHere_2] at h
    refine X.iload_1 (pc := 2) (by decide +kernel) ?_
    refine X.sipush (pc := 3) (i := 144) (v := 144) sp_144 (by decide +kernel) ?_
    rcases ifb_some h with ⟨hq1, h⟩ | ⟨hq1, h⟩
    · refine X.icmp_ge_t (pc := 6) (off := 35) (tgt := 41) hq1 rfl (by decide +kernel) ?_
      have j0 := Option.some.inj h
      subst j0
      refine X.fgt (o' := [none, none]) trivial ?_
      exact hk
    · refine X.icmp_ge_f (pc := 6) (off := 35) (tgt := 41) hq1 rfl (by decide +kernel) ?_
      refine X.aload_0 (pc := 9) (by decide +kernel) ?_
      obtain ⟨b2, hb2, h⟩ := bnd1_some h
      refine X.getR (pc := 10) (k := 26) fw_Mod_77 (by decide +kernel) (fun _ => rfl) hS hb2 ?_
      refine X.iload_1 (pc := 13) (by decide +kernel) ?_
      refine X.iload_1 (pc := 14) (by decide +kernel) ?_
      refine X.iconst (pc := 15) (i := 4) (v := 4) ic_4 (by decide +kernel) ?_
      refine X.aload_0 (pc := 16) (by decide +kernel) ?_
      refine X.getI (pc := 17) (k := 7) fw_Mod_204 (by decide +kernel) (fun _ => rfl) hS ?_
      refine X.imul (pc := 20) (by decide +kernel) ?_
      refine X.aload_0 (pc := 21) (by decide +kernel) ?_
      refine X.getI (pc := 22) (k := 8) fw_Mod_207 (by decide +kernel) (fun _ => rfl) hS ?_
      refine X.iadd (pc := 25) (by decide +kernel) ?_
      obtain ⟨y4, hr5, h⟩ := bnd1_some h
      have hj6 : X E y_Mod_seesHere b_Mod_seesHere 2 none tg d 0 0 34 [some (.ref (e_b E + v0)), some (.int v1)] [.int y4, .int v1, .ref (e_b E + b2)] S I L R n K := by
        obtain ⟨hc7, h⟩ := asrt_some h
        obtain ⟨hi8, h⟩ := asrt_some h
        refine X.bastore (pc := 34) (by decide +kernel) hc7 hi8 ?_
        refine X.nameMI (fun I9 hI9 => ?_)
        have h := lt_at hI9 h
        refine X.iinc_1 (pc := 35) (z := 1) (v := 1) ic_1 (by decide +kernel) (by decide) rfl ?_
        refine X.goto (pc := 38) (off := (-36)) (tgt := 2) (by decide +kernel) rfl ?_
        exact ih hS h hk
      have h := hr5
      rcases ifb_some h with ⟨hq3, h⟩ | ⟨hq3, h⟩
      · refine X.icmp_ne_f (pc := 26) (off := 7) (tgt := 33) hq3 rfl (by decide +kernel) ?_
        refine X.iconst (pc := 29) (i := 1) (v := 1) ic_1 (by decide +kernel) ?_
        refine X.goto (pc := 30) (off := 4) (tgt := 34) (by decide +kernel) rfl ?_
        have j0 := Option.some.inj h
        subst j0
        exact hj6
      · refine X.icmp_ne_t (pc := 26) (off := 7) (tgt := 33) hq3 rfl (by decide +kernel) ?_
        refine X.iconst (pc := 33) (i := 0) (v := 0) ic_0 (by decide +kernel) ?_
        have j0 := Option.some.inj h
        subst j0
        exact hj6
set_option maxRecDepth 100000 in
noncomputable def f_Mod_seesHere (g : Nat) (S : MS) (R : MR) (I : MI) (t : Nat) : Option MI :=
  bnd1 (l_Mod_seesHere_2 S R t g I 0) fun I10 =>
  some I10
set_option maxRecDepth 100000 in
set_option maxHeartbeats 4000000 in
theorem c_Mod_seesHere {E : Env} (hE : OKE E) {tg : Bool} {d : Nat} (hd : 0 ≤ d) {g : Nat} {S : MS} {I : MI} {L : ML} {R : MR} {n : Nat} {t : Nat} {I' : MI} (hS : (S t).1 = 12) (h : f_Mod_seesHere g S R I t = some I') : C E y_Mod_seesHere b_Mod_seesHere 2 none tg d 0 0 [.ref (e_b E + t)] S I L R n (Kq none S I' L R n) := by
  refine C.of (o := [some (.ref (e_b E + t)), none]) (by decide) rfl (Nat.le_of_ble_eq_true rfl) ?_
  rw [f_Mod_seesHere] at h
  refine X.iconst (pc := 0) (i := 0) (v := 0) ic_0 (by decide +kernel) ?_
  refine X.istore_1 (pc := 1) (by decide +kernel) (by decide) rfl ?_
  obtain ⟨I10, hv11, h⟩ := bnd1_some h
  refine xl_Mod_seesHere_2 hE hd hS hv11 ?_
  have j0 := Option.some.inj h
  subst j0
  exact X.vreturn (pc := 41) (by decide +kernel) rfl ⟨rfl, rfl, rfl, rfl, rfl, rfl⟩
set_option maxRecDepth 100000 in
noncomputable def l_Mod_spreads_4 (S : MS) (R : MR) (v0 : Nat) (v1 : Int32) (v2 : Int32) : Nat → MI → Int32 → Option MI
  | 0, _, _ => none
  | f + 1, I, v3 =>
    ifb (144 ≤ v3)
      (some I)
      (bnd1 (R v0 27) fun b2 =>
      bnd1 (R v0 26) fun b3 =>
      asrt ((S b3).1 = 22) <|
      asrt (vp_in v3 (S b3).2) <|
      lt (I b3 (Int32.toNatClampNeg v3)) fun (x6 : Int32) =>
      asrt ((S b2).1 = 22) <|
      asrt (vp_in v3 (S b2).2) <|
      lt (wI I b2 (Int32.toNatClampNeg v3) (x6 &&& 1)) fun (I9 : MI) =>
      l_Mod_spreads_4 S R v0 v1 v2 f I9 (v3 + 1))
set_option maxRecDepth 100000 in
set_option maxHeartbeats 4000000 in
theorem xl_Mod_spreads_4 {E : Env} (hE : OKE E) {tg : Bool} {d : Nat} (hd : 2 ≤ d) {S : MS} {L : ML} {R : MR} {n : Nat} {v0 : Nat} {v1 : Int32} {v2 : Int32} {K : KT} :
    ∀ {f : Nat} {I : MI} {v3 : Int32} {I' : MI}, (S v0).1 = 12 → l_Mod_spreads_4 S R v0 v1 v2 f I v3 = some I' → X E y_Mod_spreads b_Mod_spreads 7 (some .boolean) tg d 0 0 29 [some (.ref (e_b E + v0)), some (.int v1), some (.int v2), none, none, none, none] [] S I' L R n K → X E y_Mod_spreads b_Mod_spreads 7 (some .boolean) tg d 0 0 4 [some (.ref (e_b E + v0)), some (.int v1), some (.int v2), some (.int v3), none, none, none] [] S I L R n K := by
  intro f
  induction f with
  | zero =>
    intro I v3 I' hS h hk
    rw [l_Mod_spreads_4] at h
    cases h
  | succ f ih =>
    intro I v3 I' hS h hk
    rw [l_Mod_spreads_4] at h
    refine X.iload_3 (pc := 4) (by decide +kernel) ?_
    refine X.sipush (pc := 5) (i := 144) (v := 144) sp_144 (by decide +kernel) ?_
    rcases ifb_some h with ⟨hq1, h⟩ | ⟨hq1, h⟩
    · refine X.icmp_ge_t (pc := 8) (off := 21) (tgt := 29) hq1 rfl (by decide +kernel) ?_
      have j0 := Option.some.inj h
      subst j0
      refine X.fgt (o' := [some (.ref (e_b E + v0)), some (.int v1), some (.int v2), none, none, none, none]) ⟨rfl, ⟨rfl, ⟨rfl, trivial⟩⟩⟩ ?_
      exact hk
    · refine X.icmp_ge_f (pc := 8) (off := 21) (tgt := 29) hq1 rfl (by decide +kernel) ?_
      refine X.aload_0 (pc := 11) (by decide +kernel) ?_
      obtain ⟨b2, hb2, h⟩ := bnd1_some h
      refine X.getR (pc := 12) (k := 27) fw_Mod_81 (by decide +kernel) (fun _ => rfl) hS hb2 ?_
      refine X.iload_3 (pc := 15) (by decide +kernel) ?_
      refine X.aload_0 (pc := 16) (by decide +kernel) ?_
      obtain ⟨b3, hb3, h⟩ := bnd1_some h
      refine X.getR (pc := 17) (k := 26) fw_Mod_77 (by decide +kernel) (fun _ => rfl) hS hb3 ?_
      refine X.iload_3 (pc := 20) (by decide +kernel) ?_
      obtain ⟨hc5, h⟩ := asrt_some h
      obtain ⟨hi4, h⟩ := asrt_some h
      refine X.baload (pc := 21) (by decide +kernel) hc5 hi4 ?_
      refine X.nameI (fun x6 hx6 => ?_)
      have h := lt_at hx6 h
      obtain ⟨hc7, h⟩ := asrt_some h
      obtain ⟨hi8, h⟩ := asrt_some h
      refine X.bastore (pc := 22) (by decide +kernel) hc7 hi8 ?_
      refine X.nameMI (fun I9 hI9 => ?_)
      have h := lt_at hI9 h
      refine X.iinc_3 (pc := 23) (z := 1) (v := 1) ic_1 (by decide +kernel) (by decide) rfl ?_
      refine X.goto (pc := 26) (off := (-22)) (tgt := 4) (by decide +kernel) rfl ?_
      exact ih hS h hk
set_option maxRecDepth 100000 in
noncomputable def l_Mod_spreads_51 (S : MS) (R : MR) (v0 : Nat) (v1 : Int32) (v2 : Int32) (v3 : Int32) (v4 : Int32) : Nat → MI → Int32 → Option MI
  | 0, _, _ => none
  | f + 1, I, v5 =>
    ifb (3 ≤ v5)
      (some I)
      (bnd1 (R v0 26) fun b17 =>
      lt ((4 * v3) + v4) fun (x18 : Int32) =>
      asrt ((S b17).1 = 22) <|
      asrt (vp_in x18 (S b17).2) <|
      ifb ((I b17 (Int32.toNatClampNeg x18)) = 0)
        (some I)
        (bnd1 (f_Mod_isEnd S R I v0 v3) fun x22 =>
        ifb (x22 = 0)
          (bnd1 (ifb (v1 = 0)
              (bnd1 (f_Mod_turned v4 v5) fun x29 =>
              bnd1 (R v0 27) fun b31 =>
              bnd1 (f_Mod_cellBy S R I v0 v3 x29) fun x32 =>
              asrt ((S b31).1 = 22) <|
              asrt (vp_in ((4 * x32) + x29) (S b31).2) <|
              lt (wI I b31 (Int32.toNatClampNeg ((4 * x32) + x29)) (1 &&& 1)) fun (I36 : MI) =>
              some I36)
              (bnd1 (R v0 9) fun b37 =>
              asrt ((S b37).1 = 20) <|
              asrt (vp_in v5 (S b37).2) <|
              ifb ((I b37 (Int32.toNatClampNeg v5)) ≤ 0)
                (some I)
                (bnd1 (f_Mod_turned v4 v5) fun x41 =>
                bnd1 (R v0 27) fun b43 =>
                bnd1 (f_Mod_cellBy S R I v0 v3 x41) fun x44 =>
                asrt ((S b43).1 = 22) <|
                asrt (vp_in ((4 * x44) + x41) (S b43).2) <|
                lt (wI I b43 (Int32.toNatClampNeg ((4 * x44) + x41)) (1 &&& 1)) fun (I48 : MI) =>
                some I48))) fun (I26 : MI) =>
          l_Mod_spreads_51 S R v0 v1 v2 v3 v4 f I26 (v5 + 1))
          (some I)))
set_option maxRecDepth 100000 in
set_option maxHeartbeats 4000000 in
theorem xl_Mod_spreads_51 {E : Env} (hE : OKE E) {tg : Bool} {d : Nat} (hd : 2 ≤ d) {S : MS} {L : ML} {R : MR} {n : Nat} {v0 : Nat} {v1 : Int32} {v2 : Int32} {v3 : Int32} {v4 : Int32} {K : KT} :
    ∀ {f : Nat} {I : MI} {v5 : Int32} {I' : MI}, (S v0).1 = 12 → l_Mod_spreads_51 S R v0 v1 v2 v3 v4 f I v5 = some I' → X E y_Mod_spreads b_Mod_spreads 7 (some .boolean) tg d 0 0 126 [some (.ref (e_b E + v0)), some (.int v1), some (.int v2), some (.int v3), some (.int v4), none, none] [] S I' L R n K → X E y_Mod_spreads b_Mod_spreads 7 (some .boolean) tg d 0 0 51 [some (.ref (e_b E + v0)), some (.int v1), some (.int v2), some (.int v3), some (.int v4), some (.int v5), none] [] S I L R n K := by
  intro f
  induction f with
  | zero =>
    intro I v5 I' hS h hk
    rw [l_Mod_spreads_51] at h
    cases h
  | succ f ih =>
    intro I v5 I' hS h hk
    rw [l_Mod_spreads_51] at h
    refine X.iload_5 (pc := 51) (by decide +kernel) ?_
    refine X.iconst (pc := 53) (i := 3) (v := 3) ic_3 (by decide +kernel) ?_
    rcases ifb_some h with ⟨hq16, h⟩ | ⟨hq16, h⟩
    · refine X.icmp_ge_t (pc := 54) (off := 72) (tgt := 126) hq16 rfl (by decide +kernel) ?_
      have j0 := Option.some.inj h
      subst j0
      refine X.fgt (o' := [some (.ref (e_b E + v0)), some (.int v1), some (.int v2), some (.int v3), some (.int v4), none, none]) ⟨rfl, ⟨rfl, ⟨rfl, ⟨rfl, ⟨rfl, trivial⟩⟩⟩⟩⟩ ?_
      exact hk
    · refine X.icmp_ge_f (pc := 54) (off := 72) (tgt := 126) hq16 rfl (by decide +kernel) ?_
      refine X.aload_0 (pc := 57) (by decide +kernel) ?_
      obtain ⟨b17, hb17, h⟩ := bnd1_some h
      refine X.getR (pc := 58) (k := 26) fw_Mod_77 (by decide +kernel) (fun _ => rfl) hS hb17 ?_
      refine X.iconst (pc := 61) (i := 4) (v := 4) ic_4 (by decide +kernel) ?_
      refine X.iload_3 (pc := 62) (by decide +kernel) ?_
      refine X.imul (pc := 63) (by decide +kernel) ?_
      refine X.iload_4 (pc := 64) (by decide +kernel) ?_
      refine X.iadd (pc := 66) (by decide +kernel) ?_
      refine X.nameI (fun x18 hx18 => ?_)
      have h := lt_at hx18 h
      obtain ⟨hc20, h⟩ := asrt_some h
      obtain ⟨hi19, h⟩ := asrt_some h
      refine X.baload (pc := 67) (by decide +kernel) hc20 hi19 ?_
      rcases ifb_some h with ⟨hq21, h⟩ | ⟨hq21, h⟩
      · refine X.if_eq_t (pc := 68) (off := 58) (tgt := 126) hq21 rfl (by decide +kernel) ?_
        have j0 := Option.some.inj h
        subst j0
        refine X.fgt (o' := [some (.ref (e_b E + v0)), some (.int v1), some (.int v2), some (.int v3), some (.int v4), none, none]) ⟨rfl, ⟨rfl, ⟨rfl, ⟨rfl, ⟨rfl, trivial⟩⟩⟩⟩⟩ ?_
        exact hk
      · refine X.if_eq_f (pc := 68) (off := 58) (tgt := 126) hq21 rfl (by decide +kernel) ?_
        refine X.aload_0 (pc := 71) (by decide +kernel) ?_
        refine X.iload_3 (pc := 72) (by decide +kernel) ?_
        obtain ⟨x22, hv23, h⟩ := bnd1_some h
        refine X.callVi (pc := 73) (nc := 0) (ns := 0) (c_Mod_isEnd hE (dle hd (Nat.le_of_ble_eq_true rfl)) hS hv23) cv_Mod_264 (by decide +kernel) hS ⟨by decide, rfl⟩ (ddd hd (Nat.le_of_ble_eq_true rfl)) rfl (Nat.le_of_ble_eq_true rfl) rfl rfl ?_
        rcases ifb_some h with ⟨hq24, h⟩ | ⟨hq24, h⟩
        · refine X.if_ne_f (pc := 76) (off := 50) (tgt := 126) hq24 rfl (by decide +kernel) ?_
          refine X.iload_1 (pc := 79) (by decide +kernel) ?_
          obtain ⟨I26, hr27, h⟩ := bnd1_some h
          have hj28 : X E y_Mod_spreads b_Mod_spreads 7 (some .boolean) tg d 0 0 120 [some (.ref (e_b E + v0)), some (.int v1), some (.int v2), some (.int v3), some (.int v4), some (.int v5), none] [] S I26 L R n K := by
            refine X.iinc_5 (pc := 120) (z := 1) (v := 1) ic_1 (by decide +kernel) (by decide) rfl ?_
            refine X.goto (pc := 123) (off := (-72)) (tgt := 51) (by decide +kernel) rfl ?_
            exact ih hS h hk
          have h := hr27
          rcases ifb_some h with ⟨hq25, h⟩ | ⟨hq25, h⟩
          · refine X.if_eq_t (pc := 80) (off := 13) (tgt := 93) hq25 rfl (by decide +kernel) ?_
            refine X.iload_4 (pc := 93) (by decide +kernel) ?_
            refine X.iload_5 (pc := 95) (by decide +kernel) ?_
            obtain ⟨x29, hv30, h⟩ := bnd1_some h
            refine X.callSi (pc := 97) (nc := 0) (ns := 0) (c_Mod_turned hE (dle hd (Nat.le_of_ble_eq_true rfl)) hv30) cv_Mod_249 (by decide +kernel) (ddd hd (Nat.le_of_ble_eq_true rfl)) rfl (Nat.le_of_ble_eq_true rfl) rfl rfl ?_
            refine X.istore_6 (pc := 100) (by decide +kernel) (by decide) rfl ?_
            refine X.aload_0 (pc := 102) (by decide +kernel) ?_
            obtain ⟨b31, hb31, h⟩ := bnd1_some h
            refine X.getR (pc := 103) (k := 27) fw_Mod_81 (by decide +kernel) (fun _ => rfl) hS hb31 ?_
            refine X.iconst (pc := 106) (i := 4) (v := 4) ic_4 (by decide +kernel) ?_
            refine X.aload_0 (pc := 107) (by decide +kernel) ?_
            refine X.iload_3 (pc := 108) (by decide +kernel) ?_
            refine X.iload_6 (pc := 109) (by decide +kernel) ?_
            obtain ⟨x32, hv33, h⟩ := bnd1_some h
            refine X.callVi (pc := 111) (nc := 0) (ns := 0) (c_Mod_cellBy hE (dle hd (Nat.le_of_ble_eq_true rfl)) hS hv33) cv_Mod_252 (by decide +kernel) hS ⟨by decide, rfl⟩ (ddd hd (Nat.le_of_ble_eq_true rfl)) rfl (Nat.le_of_ble_eq_true rfl) rfl rfl ?_
            refine X.imul (pc := 114) (by decide +kernel) ?_
            refine X.iload_6 (pc := 115) (by decide +kernel) ?_
            refine X.iadd (pc := 117) (by decide +kernel) ?_
            refine X.iconst (pc := 118) (i := 1) (v := 1) ic_1 (by decide +kernel) ?_
            obtain ⟨hc34, h⟩ := asrt_some h
            obtain ⟨hi35, h⟩ := asrt_some h
            refine X.bastore (pc := 119) (by decide +kernel) hc34 hi35 ?_
            refine X.nameMI (fun I36 hI36 => ?_)
            have h := lt_at hI36 h
            have j0 := Option.some.inj h
            subst j0
            refine X.fgt (o' := [some (.ref (e_b E + v0)), some (.int v1), some (.int v2), some (.int v3), some (.int v4), some (.int v5), none]) ⟨rfl, ⟨rfl, ⟨rfl, ⟨rfl, ⟨rfl, ⟨rfl, trivial⟩⟩⟩⟩⟩⟩ ?_
            exact hj28
          · refine X.if_eq_f (pc := 80) (off := 13) (tgt := 93) hq25 rfl (by decide +kernel) ?_
            refine X.aload_0 (pc := 83) (by decide +kernel) ?_
            obtain ⟨b37, hb37, h⟩ := bnd1_some h
            refine X.getR (pc := 84) (k := 9) fw_Mod_44 (by decide +kernel) (fun _ => rfl) hS hb37 ?_
            refine X.iload_5 (pc := 87) (by decide +kernel) ?_
            obtain ⟨hc39, h⟩ := asrt_some h
            obtain ⟨hi38, h⟩ := asrt_some h
            refine X.iaload (pc := 89) (by decide +kernel) hc39 hi38 ?_
            rcases ifb_some h with ⟨hq40, h⟩ | ⟨hq40, h⟩
            · refine X.if_le_t (pc := 90) (off := 30) (tgt := 120) hq40 rfl (by decide +kernel) ?_
              have j0 := Option.some.inj h
              subst j0
              exact hj28
            · refine X.if_le_f (pc := 90) (off := 30) (tgt := 120) hq40 rfl (by decide +kernel) ?_
              refine X.iload_4 (pc := 93) (by decide +kernel) ?_
              refine X.iload_5 (pc := 95) (by decide +kernel) ?_
              obtain ⟨x41, hv42, h⟩ := bnd1_some h
              refine X.callSi (pc := 97) (nc := 0) (ns := 0) (c_Mod_turned hE (dle hd (Nat.le_of_ble_eq_true rfl)) hv42) cv_Mod_249 (by decide +kernel) (ddd hd (Nat.le_of_ble_eq_true rfl)) rfl (Nat.le_of_ble_eq_true rfl) rfl rfl ?_
              refine X.istore_6 (pc := 100) (by decide +kernel) (by decide) rfl ?_
              refine X.aload_0 (pc := 102) (by decide +kernel) ?_
              obtain ⟨b43, hb43, h⟩ := bnd1_some h
              refine X.getR (pc := 103) (k := 27) fw_Mod_81 (by decide +kernel) (fun _ => rfl) hS hb43 ?_
              refine X.iconst (pc := 106) (i := 4) (v := 4) ic_4 (by decide +kernel) ?_
              refine X.aload_0 (pc := 107) (by decide +kernel) ?_
              refine X.iload_3 (pc := 108) (by decide +kernel) ?_
              refine X.iload_6 (pc := 109) (by decide +kernel) ?_
              obtain ⟨x44, hv45, h⟩ := bnd1_some h
              refine X.callVi (pc := 111) (nc := 0) (ns := 0) (c_Mod_cellBy hE (dle hd (Nat.le_of_ble_eq_true rfl)) hS hv45) cv_Mod_252 (by decide +kernel) hS ⟨by decide, rfl⟩ (ddd hd (Nat.le_of_ble_eq_true rfl)) rfl (Nat.le_of_ble_eq_true rfl) rfl rfl ?_
              refine X.imul (pc := 114) (by decide +kernel) ?_
              refine X.iload_6 (pc := 115) (by decide +kernel) ?_
              refine X.iadd (pc := 117) (by decide +kernel) ?_
              refine X.iconst (pc := 118) (i := 1) (v := 1) ic_1 (by decide +kernel) ?_
              obtain ⟨hc46, h⟩ := asrt_some h
              obtain ⟨hi47, h⟩ := asrt_some h
              refine X.bastore (pc := 119) (by decide +kernel) hc46 hi47 ?_
              refine X.nameMI (fun I48 hI48 => ?_)
              have h := lt_at hI48 h
              have j0 := Option.some.inj h
              subst j0
              refine X.fgt (o' := [some (.ref (e_b E + v0)), some (.int v1), some (.int v2), some (.int v3), some (.int v4), some (.int v5), none]) ⟨rfl, ⟨rfl, ⟨rfl, ⟨rfl, ⟨rfl, ⟨rfl, trivial⟩⟩⟩⟩⟩⟩ ?_
              exact hj28
        · refine X.if_ne_t (pc := 76) (off := 50) (tgt := 126) hq24 rfl (by decide +kernel) ?_
          have j0 := Option.some.inj h
          subst j0
          refine X.fgt (o' := [some (.ref (e_b E + v0)), some (.int v1), some (.int v2), some (.int v3), some (.int v4), none, none]) ⟨rfl, ⟨rfl, ⟨rfl, ⟨rfl, ⟨rfl, trivial⟩⟩⟩⟩⟩ ?_
          exact hk
set_option maxRecDepth 100000 in
noncomputable def l_Mod_spreads_42 (g : Nat) (S : MS) (R : MR) (v0 : Nat) (v1 : Int32) (v2 : Int32) (v3 : Int32) : Nat → MI → Int32 → Option MI
  | 0, _, _ => none
  | f + 1, I, v4 =>
    ifb (4 ≤ v4)
      (some I)
      (bnd1 (l_Mod_spreads_51 S R v0 v1 v2 v3 v4 g I 0) fun I49 =>
      l_Mod_spreads_42 g S R v0 v1 v2 v3 f I49 (v4 + 1))
set_option maxRecDepth 100000 in
set_option maxHeartbeats 4000000 in
theorem xl_Mod_spreads_42 {E : Env} (hE : OKE E) {tg : Bool} {d : Nat} (hd : 2 ≤ d) {g : Nat} {S : MS} {L : ML} {R : MR} {n : Nat} {v0 : Nat} {v1 : Int32} {v2 : Int32} {v3 : Int32} {K : KT} :
    ∀ {f : Nat} {I : MI} {v4 : Int32} {I' : MI}, (S v0).1 = 12 → l_Mod_spreads_42 g S R v0 v1 v2 v3 f I v4 = some I' → X E y_Mod_spreads b_Mod_spreads 7 (some .boolean) tg d 0 0 132 [some (.ref (e_b E + v0)), some (.int v1), some (.int v2), some (.int v3), none, none, none] [] S I' L R n K → X E y_Mod_spreads b_Mod_spreads 7 (some .boolean) tg d 0 0 42 [some (.ref (e_b E + v0)), some (.int v1), some (.int v2), some (.int v3), some (.int v4), none, none] [] S I L R n K := by
  intro f
  induction f with
  | zero =>
    intro I v4 I' hS h hk
    rw [l_Mod_spreads_42] at h
    cases h
  | succ f ih =>
    intro I v4 I' hS h hk
    rw [l_Mod_spreads_42] at h
    refine X.iload_4 (pc := 42) (by decide +kernel) ?_
    refine X.iconst (pc := 44) (i := 4) (v := 4) ic_4 (by decide +kernel) ?_
    rcases ifb_some h with ⟨hq15, h⟩ | ⟨hq15, h⟩
    · refine X.icmp_ge_t (pc := 45) (off := 87) (tgt := 132) hq15 rfl (by decide +kernel) ?_
      have j0 := Option.some.inj h
      subst j0
      refine X.fgt (o' := [some (.ref (e_b E + v0)), some (.int v1), some (.int v2), some (.int v3), none, none, none]) ⟨rfl, ⟨rfl, ⟨rfl, ⟨rfl, trivial⟩⟩⟩⟩ ?_
      exact hk
    · refine X.icmp_ge_f (pc := 45) (off := 87) (tgt := 132) hq15 rfl (by decide +kernel) ?_
      refine X.iconst (pc := 48) (i := 0) (v := 0) ic_0 (by decide +kernel) ?_
      refine X.istore_5 (pc := 49) (by decide +kernel) (by decide) rfl ?_
      obtain ⟨I49, hv50, h⟩ := bnd1_some h
      refine xl_Mod_spreads_51 hE hd hS hv50 ?_
      refine X.iinc_4 (pc := 126) (z := 1) (v := 1) ic_1 (by decide +kernel) (by decide) rfl ?_
      refine X.goto (pc := 129) (off := (-87)) (tgt := 42) (by decide +kernel) rfl ?_
      exact ih hS h hk
set_option maxRecDepth 100000 in
noncomputable def l_Mod_spreads_31 (g : Nat) (S : MS) (R : MR) (v0 : Nat) (v1 : Int32) (v2 : Int32) : Nat → MI → Int32 → Option MI
  | 0, _, _ => none
  | f + 1, I, v3 =>
    bnd1 (f_Mod_cells S I v0) fun x12 =>
    ifb (x12 ≤ v3)
      (some I)
      (bnd1 (l_Mod_spreads_42 g S R v0 v1 v2 v3 g I 0) fun I51 =>
      l_Mod_spreads_31 g S R v0 v1 v2 f I51 (v3 + 1))
set_option maxRecDepth 100000 in
set_option maxHeartbeats 4000000 in
theorem xl_Mod_spreads_31 {E : Env} (hE : OKE E) {tg : Bool} {d : Nat} (hd : 2 ≤ d) {g : Nat} {S : MS} {L : ML} {R : MR} {n : Nat} {v0 : Nat} {v1 : Int32} {v2 : Int32} {K : KT} :
    ∀ {f : Nat} {I : MI} {v3 : Int32} {I' : MI}, (S v0).1 = 12 → l_Mod_spreads_31 g S R v0 v1 v2 f I v3 = some I' → X E y_Mod_spreads b_Mod_spreads 7 (some .boolean) tg d 0 0 138 [some (.ref (e_b E + v0)), none, some (.int v2), none, none, none, none] [] S I' L R n K → X E y_Mod_spreads b_Mod_spreads 7 (some .boolean) tg d 0 0 31 [some (.ref (e_b E + v0)), some (.int v1), some (.int v2), some (.int v3), none, none, none] [] S I L R n K := by
  intro f
  induction f with
  | zero =>
    intro I v3 I' hS h hk
    rw [l_Mod_spreads_31] at h
    cases h
  | succ f ih =>
    intro I v3 I' hS h hk
    rw [l_Mod_spreads_31] at h
    refine X.iload_3 (pc := 31) (by decide +kernel) ?_
    refine X.aload_0 (pc := 32) (by decide +kernel) ?_
    obtain ⟨x12, hv13, h⟩ := bnd1_some h
    refine X.callVi (pc := 33) (nc := 0) (ns := 0) (c_Mod_cells hE (dle hd (Nat.le_of_ble_eq_true rfl)) hS hv13) cv_Mod_148 (by decide +kernel) hS ⟨by decide, rfl⟩ (ddd hd (Nat.le_of_ble_eq_true rfl)) rfl (Nat.le_of_ble_eq_true rfl) rfl rfl ?_
    rcases ifb_some h with ⟨hq14, h⟩ | ⟨hq14, h⟩
    · refine X.icmp_ge_t (pc := 36) (off := 102) (tgt := 138) hq14 rfl (by decide +kernel) ?_
      have j0 := Option.some.inj h
      subst j0
      refine X.fgt (o' := [some (.ref (e_b E + v0)), none, some (.int v2), none, none, none, none]) ⟨rfl, ⟨rfl, trivial⟩⟩ ?_
      exact hk
    · refine X.icmp_ge_f (pc := 36) (off := 102) (tgt := 138) hq14 rfl (by decide +kernel) ?_
      refine X.iconst (pc := 39) (i := 0) (v := 0) ic_0 (by decide +kernel) ?_
      refine X.istore_4 (pc := 40) (by decide +kernel) (by decide) rfl ?_
      obtain ⟨I51, hv52, h⟩ := bnd1_some h
      refine xl_Mod_spreads_42 hE hd hS hv52 ?_
      refine X.iinc_3 (pc := 132) (z := 1) (v := 1) ic_1 (by decide +kernel) (by decide) rfl ?_
      refine X.goto (pc := 135) (off := (-104)) (tgt := 31) (by decide +kernel) rfl ?_
      exact ih hS h hk
set_option maxRecDepth 100000 in
noncomputable def l_Mod_spreads_140 (S : MS) (R : MR) (v0 : Nat) : Nat → MI → Int32 → Int32 → Option (Int32 × MI)
  | 0, _, _, _ => none
  | f + 1, I, v2, v3 =>
    ifb (144 ≤ v3)
      (some (v2, I))
      (bnd1 (ifb (v2 = 0)
          (bnd1 (R v0 27) fun b60 =>
          asrt ((S b60).1 = 22) <|
          asrt (vp_in v3 (S b60).2) <|
          bnd1 (R v0 26) fun b63 =>
          asrt ((S b63).1 = 22) <|
          asrt (vp_in v3 (S b63).2) <|
          ifb ((I b60 (Int32.toNatClampNeg v3)) = (I b63 (Int32.toNatClampNeg v3)))
            (some 0)
            (some 1))
          (some 1)) fun (y57 : Int32) =>
      bnd1 (R v0 26) fun b67 =>
      bnd1 (R v0 27) fun b68 =>
      asrt ((S b68).1 = 22) <|
      asrt (vp_in v3 (S b68).2) <|
      lt (I b68 (Int32.toNatClampNeg v3)) fun (x71 : Int32) =>
      asrt ((S b67).1 = 22) <|
      asrt (vp_in v3 (S b67).2) <|
      lt (wI I b67 (Int32.toNatClampNeg v3) (x71 &&& 1)) fun (I74 : MI) =>
      l_Mod_spreads_140 S R v0 f I74 y57 (v3 + 1))
set_option maxRecDepth 100000 in
set_option maxHeartbeats 4000000 in
theorem xl_Mod_spreads_140 {E : Env} (hE : OKE E) {tg : Bool} {d : Nat} (hd : 2 ≤ d) {S : MS} {L : ML} {R : MR} {n : Nat} {v0 : Nat} {K : KT} :
    ∀ {f : Nat} {I : MI} {v2 : Int32} {v3 : Int32} {o2 : Int32} {I' : MI}, (S v0).1 = 12 → l_Mod_spreads_140 S R v0 f I v2 v3 = some (o2, I') → X E y_Mod_spreads b_Mod_spreads 7 (some .boolean) tg d 0 0 190 [none, none, some (.int o2), none, none, none, none] [] S I' L R n K → X E y_Mod_spreads b_Mod_spreads 7 (some .boolean) tg d 0 0 140 [some (.ref (e_b E + v0)), none, some (.int v2), some (.int v3), none, none, none] [] S I L R n K := by
  intro f
  induction f with
  | zero =>
    intro I v2 v3 o2 I' hS h hk
    rw [l_Mod_spreads_140] at h
    cases h
  | succ f ih =>
    intro I v2 v3 o2 I' hS h hk
    rw [l_Mod_spreads_140] at h
    refine X.iload_3 (pc := 140) (by decide +kernel) ?_
    refine X.sipush (pc := 141) (i := 144) (v := 144) sp_144 (by decide +kernel) ?_
    rcases ifb_some h with ⟨hq55, h⟩ | ⟨hq55, h⟩
    · refine X.icmp_ge_t (pc := 144) (off := 46) (tgt := 190) hq55 rfl (by decide +kernel) ?_
      have j0 := Option.some.inj h
      obtain ⟨i0, j1⟩ := Prod.mk.inj j0
      subst i0
      subst j1
      refine X.fgt (o' := [none, none, some (.int v2), none, none, none, none]) ⟨rfl, trivial⟩ ?_
      exact hk
    · refine X.icmp_ge_f (pc := 144) (off := 46) (tgt := 190) hq55 rfl (by decide +kernel) ?_
      refine X.iload_2 (pc := 147) (by decide +kernel) ?_
      obtain ⟨y57, hr58, h⟩ := bnd1_some h
      have hj59 : X E y_Mod_spreads b_Mod_spreads 7 (some .boolean) tg d 0 0 171 [some (.ref (e_b E + v0)), none, none, some (.int v3), none, none, none] [.int y57] S I L R n K := by
        refine X.istore_2 (pc := 171) (by decide +kernel) (by decide) rfl ?_
        refine X.aload_0 (pc := 172) (by decide +kernel) ?_
        obtain ⟨b67, hb67, h⟩ := bnd1_some h
        refine X.getR (pc := 173) (k := 26) fw_Mod_77 (by decide +kernel) (fun _ => rfl) hS hb67 ?_
        refine X.iload_3 (pc := 176) (by decide +kernel) ?_
        refine X.aload_0 (pc := 177) (by decide +kernel) ?_
        obtain ⟨b68, hb68, h⟩ := bnd1_some h
        refine X.getR (pc := 178) (k := 27) fw_Mod_81 (by decide +kernel) (fun _ => rfl) hS hb68 ?_
        refine X.iload_3 (pc := 181) (by decide +kernel) ?_
        obtain ⟨hc70, h⟩ := asrt_some h
        obtain ⟨hi69, h⟩ := asrt_some h
        refine X.baload (pc := 182) (by decide +kernel) hc70 hi69 ?_
        refine X.nameI (fun x71 hx71 => ?_)
        have h := lt_at hx71 h
        obtain ⟨hc72, h⟩ := asrt_some h
        obtain ⟨hi73, h⟩ := asrt_some h
        refine X.bastore (pc := 183) (by decide +kernel) hc72 hi73 ?_
        refine X.nameMI (fun I74 hI74 => ?_)
        have h := lt_at hI74 h
        refine X.iinc_3 (pc := 184) (z := 1) (v := 1) ic_1 (by decide +kernel) (by decide) rfl ?_
        refine X.goto (pc := 187) (off := (-47)) (tgt := 140) (by decide +kernel) rfl ?_
        exact ih hS h hk
      have h := hr58
      rcases ifb_some h with ⟨hq56, h⟩ | ⟨hq56, h⟩
      · refine X.if_ne_f (pc := 148) (off := 18) (tgt := 166) hq56 rfl (by decide +kernel) ?_
        refine X.aload_0 (pc := 151) (by decide +kernel) ?_
        obtain ⟨b60, hb60, h⟩ := bnd1_some h
        refine X.getR (pc := 152) (k := 27) fw_Mod_81 (by decide +kernel) (fun _ => rfl) hS hb60 ?_
        refine X.iload_3 (pc := 155) (by decide +kernel) ?_
        obtain ⟨hc62, h⟩ := asrt_some h
        obtain ⟨hi61, h⟩ := asrt_some h
        refine X.baload (pc := 156) (by decide +kernel) hc62 hi61 ?_
        refine X.aload_0 (pc := 157) (by decide +kernel) ?_
        obtain ⟨b63, hb63, h⟩ := bnd1_some h
        refine X.getR (pc := 158) (k := 26) fw_Mod_77 (by decide +kernel) (fun _ => rfl) hS hb63 ?_
        refine X.iload_3 (pc := 161) (by decide +kernel) ?_
        obtain ⟨hc65, h⟩ := asrt_some h
        obtain ⟨hi64, h⟩ := asrt_some h
        refine X.baload (pc := 162) (by decide +kernel) hc65 hi64 ?_
        rcases ifb_some h with ⟨hq66, h⟩ | ⟨hq66, h⟩
        · refine X.icmp_eq_t (pc := 163) (off := 7) (tgt := 170) hq66 rfl (by decide +kernel) ?_
          refine X.iconst (pc := 170) (i := 0) (v := 0) ic_0 (by decide +kernel) ?_
          have j0 := Option.some.inj h
          subst j0
          refine X.fgt (o' := [some (.ref (e_b E + v0)), none, none, some (.int v3), none, none, none]) ⟨rfl, ⟨rfl, trivial⟩⟩ ?_
          exact hj59
        · refine X.icmp_eq_f (pc := 163) (off := 7) (tgt := 170) hq66 rfl (by decide +kernel) ?_
          refine X.iconst (pc := 166) (i := 1) (v := 1) ic_1 (by decide +kernel) ?_
          refine X.goto (pc := 167) (off := 4) (tgt := 171) (by decide +kernel) rfl ?_
          have j0 := Option.some.inj h
          subst j0
          refine X.fgt (o' := [some (.ref (e_b E + v0)), none, none, some (.int v3), none, none, none]) ⟨rfl, ⟨rfl, trivial⟩⟩ ?_
          exact hj59
      · refine X.if_ne_t (pc := 148) (off := 18) (tgt := 166) hq56 rfl (by decide +kernel) ?_
        refine X.iconst (pc := 166) (i := 1) (v := 1) ic_1 (by decide +kernel) ?_
        refine X.goto (pc := 167) (off := 4) (tgt := 171) (by decide +kernel) rfl ?_
        have j0 := Option.some.inj h
        subst j0
        refine X.fgt (o' := [some (.ref (e_b E + v0)), none, none, some (.int v3), none, none, none]) ⟨rfl, ⟨rfl, trivial⟩⟩ ?_
        exact hj59
set_option maxRecDepth 100000 in
noncomputable def f_Mod_spreads (g : Nat) (S : MS) (R : MR) (I : MI) (t : Nat) (p1 : Int32) : Option (Int32 × MI) :=
  bnd1 (l_Mod_spreads_4 S R t p1 0 g I 0) fun I10 =>
  bnd1 (l_Mod_spreads_31 g S R t p1 0 g I10 0) fun I53 =>
  bnd2 (l_Mod_spreads_140 S R t g I53 0 0) fun x75 I76 =>
  asrt (x75 = 0 ∨ x75 = 1) <|
  some (x75, I76)
set_option maxRecDepth 100000 in
set_option maxHeartbeats 4000000 in
theorem c_Mod_spreads {E : Env} (hE : OKE E) {tg : Bool} {d : Nat} (hd : 2 ≤ d) {g : Nat} {S : MS} {I : MI} {L : ML} {R : MR} {n : Nat} {t : Nat} {p1 : Int32} {v : Int32} {I' : MI} (hS : (S t).1 = 12) (h : f_Mod_spreads g S R I t p1 = some (v, I')) : C E y_Mod_spreads b_Mod_spreads 7 (some .boolean) tg d 0 0 [.ref (e_b E + t), .int p1] S I L R n (Kq (some (.int v)) S I' L R n) := by
  refine C.of (o := [some (.ref (e_b E + t)), some (.int p1), none, none, none, none, none]) (by decide) rfl (Nat.le_of_ble_eq_true rfl) ?_
  rw [f_Mod_spreads] at h
  refine X.iconst (pc := 0) (i := 0) (v := 0) ic_0 (by decide +kernel) ?_
  refine X.istore_2 (pc := 1) (by decide +kernel) (by decide) rfl ?_
  refine X.iconst (pc := 2) (i := 0) (v := 0) ic_0 (by decide +kernel) ?_
  refine X.istore_3 (pc := 3) (by decide +kernel) (by decide) rfl ?_
  obtain ⟨I10, hv11, h⟩ := bnd1_some h
  refine xl_Mod_spreads_4 hE hd hS hv11 ?_
  refine X.iconst (pc := 29) (i := 0) (v := 0) ic_0 (by decide +kernel) ?_
  refine X.istore_3 (pc := 30) (by decide +kernel) (by decide) rfl ?_
  obtain ⟨I53, hv54, h⟩ := bnd1_some h
  refine xl_Mod_spreads_31 hE hd hS hv54 ?_
  refine X.iconst (pc := 138) (i := 0) (v := 0) ic_0 (by decide +kernel) ?_
  refine X.istore_3 (pc := 139) (by decide +kernel) (by decide) rfl ?_
  obtain ⟨x75, I76, hv77, h⟩ := bnd2_some h
  refine xl_Mod_spreads_140 hE hd hS hv77 ?_
  refine X.iload_2 (pc := 190) (by decide +kernel) ?_
  obtain ⟨hb78, h⟩ := asrt_some h
  have j0 := Option.some.inj h
  obtain ⟨i0, j1⟩ := Prod.mk.inj j0
  subst i0
  subst j1
  exact X.ireturn (pc := 191) (by decide +kernel) ⟨_, rfl, nz01 hb78⟩ ⟨rfl, rfl, rfl, rfl, rfl, rfl⟩
set_option maxRecDepth 100000 in
noncomputable def l_Mod_tellsSeen_26 (S : MS) (R : MR) (I : MI) (v0 : Nat) (v1 : Int32) (v2 : Int64) (v4 : Int64) (v6 : Int32) (v7 : Int32) : Nat → Int32 → Int32 → Option Int32
  | 0, _, _ => none
  | f + 1, v8, v9 =>
    ifb (4 ≤ v9)
      (some v8)
      (bnd1 (ifb (v8 = 0)
          (bnd1 (R v0 26) fun b9 =>
          lt ((4 * v7) + v9) fun (x10 : Int32) =>
          asrt ((S b9).1 = 22) <|
          asrt (vp_in x10 (S b9).2) <|
          ifb ((I b9 (Int32.toNatClampNeg x10)) = 0)
            (some 0)
            (some 1))
          (some 1)) fun (y6 : Int32) =>
      l_Mod_tellsSeen_26 S R I v0 v1 v2 v4 v6 v7 f y6 (v9 + 1))
set_option maxRecDepth 100000 in
set_option maxHeartbeats 4000000 in
theorem xl_Mod_tellsSeen_26 {E : Env} (hE : OKE E) {tg : Bool} {d : Nat} (hd : 1 ≤ d) {S : MS} {I : MI} {L : ML} {R : MR} {n : Nat} {v0 : Nat} {v1 : Int32} {v2 : Int64} {v4 : Int64} {v6 : Int32} {v7 : Int32} {K : KT} :
    ∀ {f : Nat}  {v8 : Int32} {v9 : Int32} {o8 : Int32}, (S v0).1 = 12 → l_Mod_tellsSeen_26 S R I v0 v1 v2 v4 v6 v7 f v8 v9 = some o8 → X E y_Mod_tellsSeen b_Mod_tellsSeen 10 (some .int) tg d 0 0 65 [some (.ref (e_b E + v0)), some (.int v1), some (.long v2), none, some (.long v4), none, some (.int v6), some (.int v7), some (.int o8), none] [] S I L R n K → X E y_Mod_tellsSeen b_Mod_tellsSeen 10 (some .int) tg d 0 0 26 [some (.ref (e_b E + v0)), some (.int v1), some (.long v2), none, some (.long v4), none, some (.int v6), some (.int v7), some (.int v8), some (.int v9)] [] S I L R n K := by
  intro f
  induction f with
  | zero =>
    intro v8 v9 o8 hS h hk
    rw [l_Mod_tellsSeen_26] at h
    cases h
  | succ f ih =>
    intro v8 v9 o8 hS h hk
    rw [l_Mod_tellsSeen_26] at h
    refine X.iload_9 (pc := 26) (by decide +kernel) ?_
    refine X.iconst (pc := 28) (i := 4) (v := 4) ic_4 (by decide +kernel) ?_
    rcases ifb_some h with ⟨hq4, h⟩ | ⟨hq4, h⟩
    · refine X.icmp_ge_t (pc := 29) (off := 36) (tgt := 65) hq4 rfl (by decide +kernel) ?_
      have j0 := Option.some.inj h
      subst j0
      refine X.fgt (o' := [some (.ref (e_b E + v0)), some (.int v1), some (.long v2), none, some (.long v4), none, some (.int v6), some (.int v7), some (.int v8), none]) ⟨rfl, ⟨rfl, ⟨rfl, ⟨rfl, ⟨rfl, ⟨rfl, ⟨rfl, trivial⟩⟩⟩⟩⟩⟩⟩ ?_
      exact hk
    · refine X.icmp_ge_f (pc := 29) (off := 36) (tgt := 65) hq4 rfl (by decide +kernel) ?_
      refine X.iload_8 (pc := 32) (by decide +kernel) ?_
      obtain ⟨y6, hr7, h⟩ := bnd1_some h
      have hj8 : X E y_Mod_tellsSeen b_Mod_tellsSeen 10 (some .int) tg d 0 0 57 [some (.ref (e_b E + v0)), some (.int v1), some (.long v2), none, some (.long v4), none, some (.int v6), some (.int v7), none, some (.int v9)] [.int y6] S I L R n K := by
        refine X.istore_8 (pc := 57) (by decide +kernel) (by decide) rfl ?_
        refine X.iinc_9 (pc := 59) (z := 1) (v := 1) ic_1 (by decide +kernel) (by decide) rfl ?_
        refine X.goto (pc := 62) (off := (-36)) (tgt := 26) (by decide +kernel) rfl ?_
        exact ih hS h hk
      have h := hr7
      rcases ifb_some h with ⟨hq5, h⟩ | ⟨hq5, h⟩
      · refine X.if_ne_f (pc := 34) (off := 18) (tgt := 52) hq5 rfl (by decide +kernel) ?_
        refine X.aload_0 (pc := 37) (by decide +kernel) ?_
        obtain ⟨b9, hb9, h⟩ := bnd1_some h
        refine X.getR (pc := 38) (k := 26) fw_Mod_77 (by decide +kernel) (fun _ => rfl) hS hb9 ?_
        refine X.iconst (pc := 41) (i := 4) (v := 4) ic_4 (by decide +kernel) ?_
        refine X.iload_7 (pc := 42) (by decide +kernel) ?_
        refine X.imul (pc := 44) (by decide +kernel) ?_
        refine X.iload_9 (pc := 45) (by decide +kernel) ?_
        refine X.iadd (pc := 47) (by decide +kernel) ?_
        refine X.nameI (fun x10 hx10 => ?_)
        have h := lt_at hx10 h
        obtain ⟨hc12, h⟩ := asrt_some h
        obtain ⟨hi11, h⟩ := asrt_some h
        refine X.baload (pc := 48) (by decide +kernel) hc12 hi11 ?_
        rcases ifb_some h with ⟨hq13, h⟩ | ⟨hq13, h⟩
        · refine X.if_eq_t (pc := 49) (off := 7) (tgt := 56) hq13 rfl (by decide +kernel) ?_
          refine X.iconst (pc := 56) (i := 0) (v := 0) ic_0 (by decide +kernel) ?_
          have j0 := Option.some.inj h
          subst j0
          refine X.fgt (o' := [some (.ref (e_b E + v0)), some (.int v1), some (.long v2), none, some (.long v4), none, some (.int v6), some (.int v7), none, some (.int v9)]) ⟨rfl, ⟨rfl, ⟨rfl, ⟨rfl, ⟨rfl, ⟨rfl, ⟨rfl, trivial⟩⟩⟩⟩⟩⟩⟩ ?_
          exact hj8
        · refine X.if_eq_f (pc := 49) (off := 7) (tgt := 56) hq13 rfl (by decide +kernel) ?_
          refine X.iconst (pc := 52) (i := 1) (v := 1) ic_1 (by decide +kernel) ?_
          refine X.goto (pc := 53) (off := 4) (tgt := 57) (by decide +kernel) rfl ?_
          have j0 := Option.some.inj h
          subst j0
          refine X.fgt (o' := [some (.ref (e_b E + v0)), some (.int v1), some (.long v2), none, some (.long v4), none, some (.int v6), some (.int v7), none, some (.int v9)]) ⟨rfl, ⟨rfl, ⟨rfl, ⟨rfl, ⟨rfl, ⟨rfl, ⟨rfl, trivial⟩⟩⟩⟩⟩⟩⟩ ?_
          exact hj8
      · refine X.if_ne_t (pc := 34) (off := 18) (tgt := 52) hq5 rfl (by decide +kernel) ?_
        refine X.iconst (pc := 52) (i := 1) (v := 1) ic_1 (by decide +kernel) ?_
        refine X.goto (pc := 53) (off := 4) (tgt := 57) (by decide +kernel) rfl ?_
        have j0 := Option.some.inj h
        subst j0
        refine X.fgt (o' := [some (.ref (e_b E + v0)), some (.int v1), some (.long v2), none, some (.long v4), none, some (.int v6), some (.int v7), none, some (.int v9)]) ⟨rfl, ⟨rfl, ⟨rfl, ⟨rfl, ⟨rfl, ⟨rfl, ⟨rfl, trivial⟩⟩⟩⟩⟩⟩⟩ ?_
        exact hj8
set_option maxRecDepth 100000 in
noncomputable def l_Mod_tellsSeen_11 (g : Nat) (S : MS) (R : MR) (I : MI) (v0 : Nat) (v1 : Int32) : Nat → Int64 → Int64 → Int32 → Int32 → Option (Int64 × Int64 × Int32)
  | 0, _, _, _, _ => none
  | f + 1, v2, v4, v6, v7 =>
    bnd1 (f_Mod_cells S I v0) fun x1 =>
    ifb (x1 ≤ v7)
      (some (v2, v4, v6))
      (bnd1 (l_Mod_tellsSeen_26 S R I v0 v1 v2 v4 v6 v7 g 0 0) fun x14 =>
      bnd3 (ifb (x14 = 0)
          (some (v2, v4, v6))
          (ifb (v1 = 0)
            (bnd1 (ifb (18 ≤ v7)
                (some 0)
                (some (lsl 1 v7))) fun (y24 : Int64) =>
            lt (v2 ||| y24) fun (x27 : Int64) =>
            bnd1 (ifb (18 ≤ v7)
                (some (lsl 1 (v7 - 18)))
                (some 0)) fun (y29 : Int64) =>
            lt (v4 ||| y29) fun (x32 : Int64) =>
            some (x27, x32, v6 + 1))
            (bnd1 (R v0 5) fun b33 =>
            asrt ((S b33).1 = 20) <|
            asrt (vp_in v7 (S b33).2) <|
            ifb ((I b33 (Int32.toNatClampNeg v7)) = 1)
              (bnd1 (ifb (18 ≤ v7)
                  (some 0)
                  (some (lsl 1 v7))) fun (y38 : Int64) =>
              lt (v2 ||| y38) fun (x41 : Int64) =>
              bnd1 (ifb (18 ≤ v7)
                  (some (lsl 1 (v7 - 18)))
                  (some 0)) fun (y43 : Int64) =>
              lt (v4 ||| y43) fun (x46 : Int64) =>
              some (x41, x46, v6 + 1))
              (some (v2, v4, v6))))) fun (z17 : Int64) (z18 : Int64) (z19 : Int32) =>
      l_Mod_tellsSeen_11 g S R I v0 v1 f z17 z18 z19 (v7 + 1))
set_option maxRecDepth 100000 in
set_option maxHeartbeats 4000000 in
theorem xl_Mod_tellsSeen_11 {E : Env} (hE : OKE E) {tg : Bool} {d : Nat} (hd : 1 ≤ d) {g : Nat} {S : MS} {I : MI} {L : ML} {R : MR} {n : Nat} {v0 : Nat} {v1 : Int32} {K : KT} :
    ∀ {f : Nat}  {v2 : Int64} {v4 : Int64} {v6 : Int32} {v7 : Int32} {o2 : Int64} {o4 : Int64} {o6 : Int32}, (S v0).1 = 12 → l_Mod_tellsSeen_11 g S R I v0 v1 f v2 v4 v6 v7 = some (o2, o4, o6) → X E y_Mod_tellsSeen b_Mod_tellsSeen 10 (some .int) tg d 0 0 135 [some (.ref (e_b E + v0)), none, some (.long o2), none, some (.long o4), none, some (.int o6), none, none, none] [] S I L R n K → X E y_Mod_tellsSeen b_Mod_tellsSeen 10 (some .int) tg d 0 0 11 [some (.ref (e_b E + v0)), some (.int v1), some (.long v2), none, some (.long v4), none, some (.int v6), some (.int v7), none, none] [] S I L R n K := by
  intro f
  induction f with
  | zero =>
    intro v2 v4 v6 v7 o2 o4 o6 hS h hk
    rw [l_Mod_tellsSeen_11] at h
    cases h
  | succ f ih =>
    intro v2 v4 v6 v7 o2 o4 o6 hS h hk
    rw [l_Mod_tellsSeen_11] at h
    refine X.iload_7 (pc := 11) (by decide +kernel) ?_
    refine X.aload_0 (pc := 13) (by decide +kernel) ?_
    obtain ⟨x1, hv2, h⟩ := bnd1_some h
    refine X.callVi (pc := 14) (nc := 0) (ns := 0) (c_Mod_cells hE (dle hd (Nat.le_of_ble_eq_true rfl)) hS hv2) cv_Mod_148 (by decide +kernel) hS ⟨by decide, rfl⟩ (ddd hd (Nat.le_of_ble_eq_true rfl)) rfl (Nat.le_of_ble_eq_true rfl) rfl rfl ?_
    rcases ifb_some h with ⟨hq3, h⟩ | ⟨hq3, h⟩
    · refine X.icmp_ge_t (pc := 17) (off := 118) (tgt := 135) hq3 rfl (by decide +kernel) ?_
      have j0 := Option.some.inj h
      obtain ⟨i0, j1⟩ := Prod.mk.inj j0
      obtain ⟨i1, j2⟩ := Prod.mk.inj j1
      subst i0
      subst i1
      subst j2
      refine X.fgt (o' := [some (.ref (e_b E + v0)), none, some (.long v2), none, some (.long v4), none, some (.int v6), none, none, none]) ⟨rfl, ⟨rfl, ⟨rfl, ⟨rfl, trivial⟩⟩⟩⟩ ?_
      exact hk
    · refine X.icmp_ge_f (pc := 17) (off := 118) (tgt := 135) hq3 rfl (by decide +kernel) ?_
      refine X.iconst (pc := 20) (i := 0) (v := 0) ic_0 (by decide +kernel) ?_
      refine X.istore_8 (pc := 21) (by decide +kernel) (by decide) rfl ?_
      refine X.iconst (pc := 23) (i := 0) (v := 0) ic_0 (by decide +kernel) ?_
      refine X.istore_9 (pc := 24) (by decide +kernel) (by decide) rfl ?_
      obtain ⟨x14, hv15, h⟩ := bnd1_some h
      refine xl_Mod_tellsSeen_26 hE hd hS hv15 ?_
      refine X.iload_8 (pc := 65) (by decide +kernel) ?_
      obtain ⟨z17, z18, z19, hr20, h⟩ := bnd3_some h
      have hj21 : X E y_Mod_tellsSeen b_Mod_tellsSeen 10 (some .int) tg d 0 0 129 [some (.ref (e_b E + v0)), some (.int v1), some (.long z17), none, some (.long z18), none, some (.int z19), some (.int v7), none, none] [] S I L R n K := by
        refine X.iinc_7 (pc := 129) (z := 1) (v := 1) ic_1 (by decide +kernel) (by decide) rfl ?_
        refine X.goto (pc := 132) (off := (-121)) (tgt := 11) (by decide +kernel) rfl ?_
        exact ih hS h hk
      have h := hr20
      rcases ifb_some h with ⟨hq16, h⟩ | ⟨hq16, h⟩
      · refine X.if_eq_t (pc := 67) (off := 62) (tgt := 129) hq16 rfl (by decide +kernel) ?_
        have j0 := Option.some.inj h
        obtain ⟨i0, j1⟩ := Prod.mk.inj j0
        obtain ⟨i1, j2⟩ := Prod.mk.inj j1
        subst i0
        subst i1
        subst j2
        refine X.fgt (o' := [some (.ref (e_b E + v0)), some (.int v1), some (.long v2), none, some (.long v4), none, some (.int v6), some (.int v7), none, none]) ⟨rfl, ⟨rfl, ⟨rfl, ⟨rfl, ⟨rfl, ⟨rfl, trivial⟩⟩⟩⟩⟩⟩ ?_
        exact hj21
      · refine X.if_eq_f (pc := 67) (off := 62) (tgt := 129) hq16 rfl (by decide +kernel) ?_
        refine X.iload_1 (pc := 70) (by decide +kernel) ?_
        rcases ifb_some h with ⟨hq22, h⟩ | ⟨hq22, h⟩
        · refine X.if_eq_t (pc := 71) (off := 14) (tgt := 85) hq22 rfl (by decide +kernel) ?_
          refine X.lload_2 (pc := 85) (by decide +kernel) ?_
          refine X.iload_7 (pc := 86) (by decide +kernel) ?_
          refine X.bipush (pc := 88) (i := 18) (v := 18) bp_18 (by decide +kernel) ?_
          obtain ⟨y24, hr25, h⟩ := bnd1_some h
          have hj26 : X E y_Mod_tellsSeen b_Mod_tellsSeen 10 (some .int) tg d 0 0 101 [some (.ref (e_b E + v0)), some (.int v1), none, none, some (.long v4), none, some (.int v6), some (.int v7), none, none] [.long y24, .long v2] S I L R n K := by
            refine X.lor (pc := 101) (by decide +kernel) ?_
            refine X.nameL (fun x27 hx27 => ?_)
            have h := lt_at hx27 h
            refine X.lstore_2 (pc := 102) (by decide +kernel) (by decide) rfl ?_
            refine X.lload_4 (pc := 103) (by decide +kernel) ?_
            refine X.iload_7 (pc := 105) (by decide +kernel) ?_
            refine X.bipush (pc := 107) (i := 18) (v := 18) bp_18 (by decide +kernel) ?_
            obtain ⟨y29, hr30, h⟩ := bnd1_some h
            have hj31 : X E y_Mod_tellsSeen b_Mod_tellsSeen 10 (some .int) tg d 0 0 123 [some (.ref (e_b E + v0)), some (.int v1), some (.long x27), none, none, none, some (.int v6), some (.int v7), none, none] [.long y29, .long v4] S I L R n K := by
              refine X.lor (pc := 123) (by decide +kernel) ?_
              refine X.nameL (fun x32 hx32 => ?_)
              have h := lt_at hx32 h
              refine X.lstore_4 (pc := 124) (by decide +kernel) (by decide) rfl ?_
              refine X.iinc_6 (pc := 126) (z := 1) (v := 1) ic_1 (by decide +kernel) (by decide) rfl ?_
              have j0 := Option.some.inj h
              obtain ⟨i0, j1⟩ := Prod.mk.inj j0
              obtain ⟨i1, j2⟩ := Prod.mk.inj j1
              subst i0
              subst i1
              subst j2
              exact hj21
            have h := hr30
            rcases ifb_some h with ⟨hq28, h⟩ | ⟨hq28, h⟩
            · refine X.icmp_ge_t (pc := 109) (off := 7) (tgt := 116) hq28 rfl (by decide +kernel) ?_
              refine X.lconst (pc := 116) (i := 1) (v := 1) rfl (by decide +kernel) ?_
              refine X.iload_7 (pc := 117) (by decide +kernel) ?_
              refine X.bipush (pc := 119) (i := 18) (v := 18) bp_18 (by decide +kernel) ?_
              refine X.isub (pc := 121) (by decide +kernel) ?_
              refine X.lshl (pc := 122) (by decide +kernel) ?_
              have j0 := Option.some.inj h
              subst j0
              refine X.fgt (o' := [some (.ref (e_b E + v0)), some (.int v1), some (.long x27), none, none, none, some (.int v6), some (.int v7), none, none]) ⟨rfl, ⟨rfl, ⟨rfl, ⟨rfl, ⟨rfl, trivial⟩⟩⟩⟩⟩ ?_
              exact hj31
            · refine X.icmp_ge_f (pc := 109) (off := 7) (tgt := 116) hq28 rfl (by decide +kernel) ?_
              refine X.lconst (pc := 112) (i := 0) (v := 0) rfl (by decide +kernel) ?_
              refine X.goto (pc := 113) (off := 10) (tgt := 123) (by decide +kernel) rfl ?_
              have j0 := Option.some.inj h
              subst j0
              refine X.fgt (o' := [some (.ref (e_b E + v0)), some (.int v1), some (.long x27), none, none, none, some (.int v6), some (.int v7), none, none]) ⟨rfl, ⟨rfl, ⟨rfl, ⟨rfl, ⟨rfl, trivial⟩⟩⟩⟩⟩ ?_
              exact hj31
          have h := hr25
          rcases ifb_some h with ⟨hq23, h⟩ | ⟨hq23, h⟩
          · refine X.icmp_ge_t (pc := 90) (off := 10) (tgt := 100) hq23 rfl (by decide +kernel) ?_
            refine X.lconst (pc := 100) (i := 0) (v := 0) rfl (by decide +kernel) ?_
            have j0 := Option.some.inj h
            subst j0
            refine X.fgt (o' := [some (.ref (e_b E + v0)), some (.int v1), none, none, some (.long v4), none, some (.int v6), some (.int v7), none, none]) ⟨rfl, ⟨rfl, ⟨rfl, ⟨rfl, ⟨rfl, trivial⟩⟩⟩⟩⟩ ?_
            exact hj26
          · refine X.icmp_ge_f (pc := 90) (off := 10) (tgt := 100) hq23 rfl (by decide +kernel) ?_
            refine X.lconst (pc := 93) (i := 1) (v := 1) rfl (by decide +kernel) ?_
            refine X.iload_7 (pc := 94) (by decide +kernel) ?_
            refine X.lshl (pc := 96) (by decide +kernel) ?_
            refine X.goto (pc := 97) (off := 4) (tgt := 101) (by decide +kernel) rfl ?_
            have j0 := Option.some.inj h
            subst j0
            refine X.fgt (o' := [some (.ref (e_b E + v0)), some (.int v1), none, none, some (.long v4), none, some (.int v6), some (.int v7), none, none]) ⟨rfl, ⟨rfl, ⟨rfl, ⟨rfl, ⟨rfl, trivial⟩⟩⟩⟩⟩ ?_
            exact hj26
        · refine X.if_eq_f (pc := 71) (off := 14) (tgt := 85) hq22 rfl (by decide +kernel) ?_
          refine X.aload_0 (pc := 74) (by decide +kernel) ?_
          obtain ⟨b33, hb33, h⟩ := bnd1_some h
          refine X.getR (pc := 75) (k := 5) fw_Mod_40 (by decide +kernel) (fun _ => rfl) hS hb33 ?_
          refine X.iload_7 (pc := 78) (by decide +kernel) ?_
          obtain ⟨hc35, h⟩ := asrt_some h
          obtain ⟨hi34, h⟩ := asrt_some h
          refine X.iaload (pc := 80) (by decide +kernel) hc35 hi34 ?_
          refine X.iconst (pc := 81) (i := 1) (v := 1) ic_1 (by decide +kernel) ?_
          rcases ifb_some h with ⟨hq36, h⟩ | ⟨hq36, h⟩
          · refine X.icmp_ne_f (pc := 82) (off := 47) (tgt := 129) hq36 rfl (by decide +kernel) ?_
            refine X.lload_2 (pc := 85) (by decide +kernel) ?_
            refine X.iload_7 (pc := 86) (by decide +kernel) ?_
            refine X.bipush (pc := 88) (i := 18) (v := 18) bp_18 (by decide +kernel) ?_
            obtain ⟨y38, hr39, h⟩ := bnd1_some h
            have hj40 : X E y_Mod_tellsSeen b_Mod_tellsSeen 10 (some .int) tg d 0 0 101 [some (.ref (e_b E + v0)), some (.int v1), none, none, some (.long v4), none, some (.int v6), some (.int v7), none, none] [.long y38, .long v2] S I L R n K := by
              refine X.lor (pc := 101) (by decide +kernel) ?_
              refine X.nameL (fun x41 hx41 => ?_)
              have h := lt_at hx41 h
              refine X.lstore_2 (pc := 102) (by decide +kernel) (by decide) rfl ?_
              refine X.lload_4 (pc := 103) (by decide +kernel) ?_
              refine X.iload_7 (pc := 105) (by decide +kernel) ?_
              refine X.bipush (pc := 107) (i := 18) (v := 18) bp_18 (by decide +kernel) ?_
              obtain ⟨y43, hr44, h⟩ := bnd1_some h
              have hj45 : X E y_Mod_tellsSeen b_Mod_tellsSeen 10 (some .int) tg d 0 0 123 [some (.ref (e_b E + v0)), some (.int v1), some (.long x41), none, none, none, some (.int v6), some (.int v7), none, none] [.long y43, .long v4] S I L R n K := by
                refine X.lor (pc := 123) (by decide +kernel) ?_
                refine X.nameL (fun x46 hx46 => ?_)
                have h := lt_at hx46 h
                refine X.lstore_4 (pc := 124) (by decide +kernel) (by decide) rfl ?_
                refine X.iinc_6 (pc := 126) (z := 1) (v := 1) ic_1 (by decide +kernel) (by decide) rfl ?_
                have j0 := Option.some.inj h
                obtain ⟨i0, j1⟩ := Prod.mk.inj j0
                obtain ⟨i1, j2⟩ := Prod.mk.inj j1
                subst i0
                subst i1
                subst j2
                exact hj21
              have h := hr44
              rcases ifb_some h with ⟨hq42, h⟩ | ⟨hq42, h⟩
              · refine X.icmp_ge_t (pc := 109) (off := 7) (tgt := 116) hq42 rfl (by decide +kernel) ?_
                refine X.lconst (pc := 116) (i := 1) (v := 1) rfl (by decide +kernel) ?_
                refine X.iload_7 (pc := 117) (by decide +kernel) ?_
                refine X.bipush (pc := 119) (i := 18) (v := 18) bp_18 (by decide +kernel) ?_
                refine X.isub (pc := 121) (by decide +kernel) ?_
                refine X.lshl (pc := 122) (by decide +kernel) ?_
                have j0 := Option.some.inj h
                subst j0
                refine X.fgt (o' := [some (.ref (e_b E + v0)), some (.int v1), some (.long x41), none, none, none, some (.int v6), some (.int v7), none, none]) ⟨rfl, ⟨rfl, ⟨rfl, ⟨rfl, ⟨rfl, trivial⟩⟩⟩⟩⟩ ?_
                exact hj45
              · refine X.icmp_ge_f (pc := 109) (off := 7) (tgt := 116) hq42 rfl (by decide +kernel) ?_
                refine X.lconst (pc := 112) (i := 0) (v := 0) rfl (by decide +kernel) ?_
                refine X.goto (pc := 113) (off := 10) (tgt := 123) (by decide +kernel) rfl ?_
                have j0 := Option.some.inj h
                subst j0
                refine X.fgt (o' := [some (.ref (e_b E + v0)), some (.int v1), some (.long x41), none, none, none, some (.int v6), some (.int v7), none, none]) ⟨rfl, ⟨rfl, ⟨rfl, ⟨rfl, ⟨rfl, trivial⟩⟩⟩⟩⟩ ?_
                exact hj45
            have h := hr39
            rcases ifb_some h with ⟨hq37, h⟩ | ⟨hq37, h⟩
            · refine X.icmp_ge_t (pc := 90) (off := 10) (tgt := 100) hq37 rfl (by decide +kernel) ?_
              refine X.lconst (pc := 100) (i := 0) (v := 0) rfl (by decide +kernel) ?_
              have j0 := Option.some.inj h
              subst j0
              refine X.fgt (o' := [some (.ref (e_b E + v0)), some (.int v1), none, none, some (.long v4), none, some (.int v6), some (.int v7), none, none]) ⟨rfl, ⟨rfl, ⟨rfl, ⟨rfl, ⟨rfl, trivial⟩⟩⟩⟩⟩ ?_
              exact hj40
            · refine X.icmp_ge_f (pc := 90) (off := 10) (tgt := 100) hq37 rfl (by decide +kernel) ?_
              refine X.lconst (pc := 93) (i := 1) (v := 1) rfl (by decide +kernel) ?_
              refine X.iload_7 (pc := 94) (by decide +kernel) ?_
              refine X.lshl (pc := 96) (by decide +kernel) ?_
              refine X.goto (pc := 97) (off := 4) (tgt := 101) (by decide +kernel) rfl ?_
              have j0 := Option.some.inj h
              subst j0
              refine X.fgt (o' := [some (.ref (e_b E + v0)), some (.int v1), none, none, some (.long v4), none, some (.int v6), some (.int v7), none, none]) ⟨rfl, ⟨rfl, ⟨rfl, ⟨rfl, ⟨rfl, trivial⟩⟩⟩⟩⟩ ?_
              exact hj40
          · refine X.icmp_ne_t (pc := 82) (off := 47) (tgt := 129) hq36 rfl (by decide +kernel) ?_
            have j0 := Option.some.inj h
            obtain ⟨i0, j1⟩ := Prod.mk.inj j0
            obtain ⟨i1, j2⟩ := Prod.mk.inj j1
            subst i0
            subst i1
            subst j2
            refine X.fgt (o' := [some (.ref (e_b E + v0)), some (.int v1), some (.long v2), none, some (.long v4), none, some (.int v6), some (.int v7), none, none]) ⟨rfl, ⟨rfl, ⟨rfl, ⟨rfl, ⟨rfl, ⟨rfl, trivial⟩⟩⟩⟩⟩⟩ ?_
            exact hj21
set_option maxRecDepth 100000 in
noncomputable def f_Mod_tellsSeen (g : Nat) (S : MS) (R : MR) (I : MI) (L : ML) (t : Nat) (p1 : Int32) : Option (Int32 × MI × ML) :=
  bnd3 (l_Mod_tellsSeen_11 g S R I t p1 g 0 0 0 0) fun x47 x48 x49 =>
  lt (wI I t 1 0) fun (I51 : MI) =>
  bnd2 (f_Mod_enters S R I51 L t x47) fun I52 L53 =>
  bnd2 (f_Mod_enters S R I52 L53 t x48) fun I55 L56 =>
  some (x49, I55, L56)
set_option maxRecDepth 100000 in
set_option maxHeartbeats 4000000 in
theorem c_Mod_tellsSeen {E : Env} (hE : OKE E) {tg : Bool} {d : Nat} (hd : 1 ≤ d) {g : Nat} {S : MS} {I : MI} {L : ML} {R : MR} {n : Nat} {t : Nat} {p1 : Int32} {v : Int32} {I' : MI} {L' : ML} (hS : (S t).1 = 12) (h : f_Mod_tellsSeen g S R I L t p1 = some (v, I', L')) : C E y_Mod_tellsSeen b_Mod_tellsSeen 10 (some .int) tg d 0 0 [.ref (e_b E + t), .int p1] S I L R n (Kq (some (.int v)) S I' L' R n) := by
  refine C.of (o := [some (.ref (e_b E + t)), some (.int p1), none, none, none, none, none, none, none, none]) (by decide) rfl (Nat.le_of_ble_eq_true rfl) ?_
  rw [f_Mod_tellsSeen] at h
  refine X.lconst (pc := 0) (i := 0) (v := 0) rfl (by decide +kernel) ?_
  refine X.lstore_2 (pc := 1) (by decide +kernel) (by decide) rfl ?_
  refine X.lconst (pc := 2) (i := 0) (v := 0) rfl (by decide +kernel) ?_
  refine X.lstore_4 (pc := 3) (by decide +kernel) (by decide) rfl ?_
  refine X.iconst (pc := 5) (i := 0) (v := 0) ic_0 (by decide +kernel) ?_
  refine X.istore_6 (pc := 6) (by decide +kernel) (by decide) rfl ?_
  refine X.iconst (pc := 8) (i := 0) (v := 0) ic_0 (by decide +kernel) ?_
  refine X.istore_7 (pc := 9) (by decide +kernel) (by decide) rfl ?_
  obtain ⟨x47, x48, x49, hv50, h⟩ := bnd3_some h
  refine xl_Mod_tellsSeen_11 hE hd hS hv50 ?_
  refine X.aload_0 (pc := 135) (by decide +kernel) ?_
  refine X.iconst (pc := 136) (i := 0) (v := 0) ic_0 (by decide +kernel) ?_
  refine X.putI (pc := 137) (k := 1) fw_Mod_21 (by decide +kernel) rfl rfl hS ?_
  refine X.nameMI (fun I51 hI51 => ?_)
  have h := lt_at hI51 h
  refine X.aload_0 (pc := 140) (by decide +kernel) ?_
  refine X.lload_2 (pc := 141) (by decide +kernel) ?_
  obtain ⟨I52, L53, hv54, h⟩ := bnd2_some h
  refine X.callVv (pc := 142) (nc := 0) (ns := 0) (c_Mod_enters hE (dle hd (Nat.le_of_ble_eq_true rfl)) hS hv54) cv_Mod_24 (by decide +kernel) hS ⟨by decide, rfl⟩ (ddd hd (Nat.le_of_ble_eq_true rfl)) rfl (Nat.le_of_ble_eq_true rfl) rfl rfl ?_
  refine X.aload_0 (pc := 145) (by decide +kernel) ?_
  refine X.lload_4 (pc := 146) (by decide +kernel) ?_
  obtain ⟨I55, L56, hv57, h⟩ := bnd2_some h
  refine X.callVv (pc := 148) (nc := 0) (ns := 0) (c_Mod_enters hE (dle hd (Nat.le_of_ble_eq_true rfl)) hS hv57) cv_Mod_24 (by decide +kernel) hS ⟨by decide, rfl⟩ (ddd hd (Nat.le_of_ble_eq_true rfl)) rfl (Nat.le_of_ble_eq_true rfl) rfl rfl ?_
  refine X.iload_6 (pc := 151) (by decide +kernel) ?_
  have j0 := Option.some.inj h
  obtain ⟨i0, j1⟩ := Prod.mk.inj j0
  obtain ⟨i1, j2⟩ := Prod.mk.inj j1
  subst i0
  subst i1
  subst j2
  exact X.ireturn (pc := 153) (by decide +kernel) ⟨_, rfl, rfl⟩ ⟨rfl, rfl, rfl, rfl, rfl, rfl⟩
set_option maxRecDepth 100000 in
noncomputable def l_Mod_reach_11 (g : Nat) (S : MS) (R : MR) (v0 : Nat) : Nat → MI → Int32 → Option MI
  | 0, _, _ => none
  | f + 1, I, v1 =>
    ifb (v1 = 0)
      (some I)
      (bnd2 (f_Mod_spreads g S R I v0 0) fun x5 I6 =>
      l_Mod_reach_11 g S R v0 f I6 x5)
set_option maxRecDepth 100000 in
set_option maxHeartbeats 4000000 in
theorem xl_Mod_reach_11 {E : Env} (hE : OKE E) {tg : Bool} {d : Nat} (hd : 3 ≤ d) {g : Nat} {S : MS} {L : ML} {R : MR} {n : Nat} {v0 : Nat} {K : KT} :
    ∀ {f : Nat} {I : MI} {v1 : Int32} {I' : MI}, (S v0).1 = 12 → l_Mod_reach_11 g S R v0 f I v1 = some I' → X E y_Mod_reach b_Mod_reach 2 (some .int) tg d 0 0 24 [some (.ref (e_b E + v0)), none] [] S I' L R n K → X E y_Mod_reach b_Mod_reach 2 (some .int) tg d 0 0 11 [some (.ref (e_b E + v0)), some (.int v1)] [] S I L R n K := by
  intro f
  induction f with
  | zero =>
    intro I v1 I' hS h hk
    rw [l_Mod_reach_11] at h
    cases h
  | succ f ih =>
    intro I v1 I' hS h hk
    rw [l_Mod_reach_11] at h
    refine X.iload_1 (pc := 11) (by decide +kernel) ?_
    rcases ifb_some h with ⟨hq4, h⟩ | ⟨hq4, h⟩
    · refine X.if_eq_t (pc := 12) (off := 12) (tgt := 24) hq4 rfl (by decide +kernel) ?_
      have j0 := Option.some.inj h
      subst j0
      refine X.fgt (o' := [some (.ref (e_b E + v0)), none]) ⟨rfl, trivial⟩ ?_
      exact hk
    · refine X.if_eq_f (pc := 12) (off := 12) (tgt := 24) hq4 rfl (by decide +kernel) ?_
      refine X.aload_0 (pc := 15) (by decide +kernel) ?_
      refine X.iconst (pc := 16) (i := 0) (v := 0) ic_0 (by decide +kernel) ?_
      obtain ⟨x5, I6, hv7, h⟩ := bnd2_some h
      refine X.callVi (pc := 17) (nc := 0) (ns := 0) (c_Mod_spreads hE (dle hd (Nat.le_of_ble_eq_true rfl)) hS hv7) cv_Mod_295 (by decide +kernel) hS ⟨by decide, rfl⟩ (ddd hd (Nat.le_of_ble_eq_true rfl)) rfl (Nat.le_of_ble_eq_true rfl) rfl rfl ?_
      refine X.istore_1 (pc := 20) (by decide +kernel) (by decide) rfl ?_
      refine X.goto (pc := 21) (off := (-10)) (tgt := 11) (by decide +kernel) rfl ?_
      exact ih hS h hk
set_option maxRecDepth 100000 in
noncomputable def f_Mod_reach (g : Nat) (S : MS) (R : MR) (I : MI) (L : ML) (t : Nat) : Option (Int32 × MI × ML) :=
  lt (wI I t 0 0) fun (I1 : MI) =>
  bnd1 (f_Mod_seesHere g S R I1 t) fun I2 =>
  bnd1 (l_Mod_reach_11 g S R t g I2 1) fun I8 =>
  bnd3 (f_Mod_tellsSeen g S R I8 L t 0) fun x10 I11 L12 =>
  some (x10, I11, L12)
set_option maxRecDepth 100000 in
set_option maxHeartbeats 4000000 in
theorem c_Mod_reach {E : Env} (hE : OKE E) {tg : Bool} {d : Nat} (hd : 3 ≤ d) {g : Nat} {S : MS} {I : MI} {L : ML} {R : MR} {n : Nat} {t : Nat} {v : Int32} {I' : MI} {L' : ML} (hS : (S t).1 = 12) (h : f_Mod_reach g S R I L t = some (v, I', L')) : C E y_Mod_reach b_Mod_reach 2 (some .int) tg d 0 0 [.ref (e_b E + t)] S I L R n (Kq (some (.int v)) S I' L' R n) := by
  refine C.of (o := [some (.ref (e_b E + t)), none]) (by decide) rfl (Nat.le_of_ble_eq_true rfl) ?_
  rw [f_Mod_reach] at h
  refine X.aload_0 (pc := 0) (by decide +kernel) ?_
  refine X.iconst (pc := 1) (i := 0) (v := 0) ic_0 (by decide +kernel) ?_
  refine X.putI (pc := 2) (k := 0) fw_Mod_3 (by decide +kernel) rfl rfl hS ?_
  refine X.nameMI (fun I1 hI1 => ?_)
  have h := lt_at hI1 h
  refine X.aload_0 (pc := 5) (by decide +kernel) ?_
  obtain ⟨I2, hv3, h⟩ := bnd1_some h
  refine X.callVv (pc := 6) (nc := 0) (ns := 0) (c_Mod_seesHere hE (dle hd (Nat.le_of_ble_eq_true rfl)) hS hv3) cv_Mod_292 (by decide +kernel) hS ⟨by decide, rfl⟩ (ddd hd (Nat.le_of_ble_eq_true rfl)) rfl (Nat.le_of_ble_eq_true rfl) rfl rfl ?_
  refine X.iconst (pc := 9) (i := 1) (v := 1) ic_1 (by decide +kernel) ?_
  refine X.istore_1 (pc := 10) (by decide +kernel) (by decide) rfl ?_
  obtain ⟨I8, hv9, h⟩ := bnd1_some h
  refine xl_Mod_reach_11 hE hd hS hv9 ?_
  refine X.aload_0 (pc := 24) (by decide +kernel) ?_
  refine X.iconst (pc := 25) (i := 0) (v := 0) ic_0 (by decide +kernel) ?_
  obtain ⟨x10, I11, L12, hv13, h⟩ := bnd3_some h
  refine X.callVi (pc := 26) (nc := 0) (ns := 0) (c_Mod_tellsSeen hE (dle hd (Nat.le_of_ble_eq_true rfl)) hS hv13) cv_Mod_299 (by decide +kernel) hS ⟨by decide, rfl⟩ (ddd hd (Nat.le_of_ble_eq_true rfl)) rfl (Nat.le_of_ble_eq_true rfl) rfl rfl ?_
  have j0 := Option.some.inj h
  obtain ⟨i0, j1⟩ := Prod.mk.inj j0
  obtain ⟨i1, j2⟩ := Prod.mk.inj j1
  subst i0
  subst i1
  subst j2
  exact X.ireturn (pc := 29) (by decide +kernel) ⟨_, rfl, rfl⟩ ⟨rfl, rfl, rfl, rfl, rfl, rfl⟩
set_option maxRecDepth 100000 in
noncomputable def f_Mod_areSteps (p1 : Int32) : Option Int32 :=
  bnd1 (f_Mod_in (Int32.toInt64 p1) 0 8) fun x1 =>
  asrt (x1 = 0 ∨ x1 = 1) <|
  some x1
set_option maxRecDepth 100000 in
set_option maxHeartbeats 4000000 in
theorem c_Mod_areSteps {E : Env} (hE : OKE E) {tg : Bool} {d : Nat} (hd : 1 ≤ d) {S : MS} {I : MI} {L : ML} {R : MR} {n : Nat} {p1 : Int32} {v : Int32} (h : f_Mod_areSteps p1 = some v) : C E y_Mod_areSteps b_Mod_areSteps 1 (some .boolean) tg d 0 0 [.int p1] S I L R n (Kq (some (.int v)) S I L R n) := by
  refine C.of (o := [some (.int p1)]) (by decide) rfl (Nat.le_of_ble_eq_true rfl) ?_
  rw [f_Mod_areSteps] at h
  refine X.iload_0 (pc := 0) (by decide +kernel) ?_
  refine X.i2l (pc := 1) (by decide +kernel) ?_
  refine X.lconst (pc := 2) (i := 0) (v := 0) rfl (by decide +kernel) ?_
  refine X.ldc2 (pc := 3) (x := 324) (v := 8) ld_Mod_324 (by decide +kernel) ?_
  obtain ⟨x1, hv2, h⟩ := bnd1_some h
  refine X.callSi (pc := 6) (nc := 0) (ns := 0) (c_Mod_in hE (dle hd (Nat.le_of_ble_eq_true rfl)) hv2) cv_Mod_151 (by decide +kernel) (ddd hd (Nat.le_of_ble_eq_true rfl)) rfl (Nat.le_of_ble_eq_true rfl) rfl rfl ?_
  obtain ⟨hb3, h⟩ := asrt_some h
  have j0 := Option.some.inj h
  subst j0
  exact X.ireturn (pc := 9) (by decide +kernel) ⟨_, rfl, nz01 hb3⟩ ⟨rfl, rfl, rfl, rfl, rfl, rfl⟩
set_option maxRecDepth 100000 in
noncomputable def f_Mod_stateOf (t : Nat) (p1 : Int32) (p2 : Int32) (p3 : Int32) : Option Int32 :=
  lt ((10 * ((4 * p1) + p2)) + p3) fun (x1 : Int32) =>
  some x1
set_option maxRecDepth 100000 in
set_option maxHeartbeats 4000000 in
theorem c_Mod_stateOf {E : Env} (hE : OKE E) {tg : Bool} {d : Nat} (hd : 0 ≤ d) {S : MS} {I : MI} {L : ML} {R : MR} {n : Nat} {t : Nat} {p1 : Int32} {p2 : Int32} {p3 : Int32} {v : Int32} (hS : (S t).1 = 12) (h : f_Mod_stateOf t p1 p2 p3 = some v) : C E y_Mod_stateOf b_Mod_stateOf 4 (some .int) tg d 0 0 [.ref (e_b E + t), .int p1, .int p2, .int p3] S I L R n (Kq (some (.int v)) S I L R n) := by
  refine C.of (o := [some (.ref (e_b E + t)), some (.int p1), some (.int p2), some (.int p3)]) (by decide) rfl (Nat.le_of_ble_eq_true rfl) ?_
  rw [f_Mod_stateOf] at h
  refine X.bipush (pc := 0) (i := 10) (v := 10) bp_10 (by decide +kernel) ?_
  refine X.iconst (pc := 2) (i := 4) (v := 4) ic_4 (by decide +kernel) ?_
  refine X.iload_1 (pc := 3) (by decide +kernel) ?_
  refine X.imul (pc := 4) (by decide +kernel) ?_
  refine X.iload_2 (pc := 5) (by decide +kernel) ?_
  refine X.iadd (pc := 6) (by decide +kernel) ?_
  refine X.imul (pc := 7) (by decide +kernel) ?_
  refine X.iload_3 (pc := 8) (by decide +kernel) ?_
  refine X.iadd (pc := 9) (by decide +kernel) ?_
  refine X.nameI (fun x1 hx1 => ?_)
  have h := lt_at hx1 h
  have j0 := Option.some.inj h
  subst j0
  exact X.ireturn (pc := 10) (by decide +kernel) ⟨_, rfl, rfl⟩ ⟨rfl, rfl, rfl, rfl, rfl, rfl⟩
set_option maxRecDepth 100000 in
noncomputable def l_Mod_laysOut_20 (S : MS) (R : MR) (I : MI) (v0 : Nat) (v1 : Int32) (v2 : Int32) (v3 : Int32) : Nat → ML → Int32 → Option ML
  | 0, _, _ => none
  | f + 1, L, v4 =>
    ifb (10 ≤ v4)
      (some L)
      (bnd1 (R v0 5) fun b6 =>
      asrt ((S b6).1 = 20) <|
      asrt (vp_in v2 (S b6).2) <|
      bnd1 (ifb ((I b6 (Int32.toNatClampNeg v2)) = 3)
          (some 1)
          (ifb (v1 = 0)
            (some 0)
            (asrt (vp_in v2 (S b6).2) <|
            ifb ((I b6 (Int32.toNatClampNeg v2)) = 1)
              (some 0)
              (some 1)))) fun (y10 : Int32) =>
      bnd1 (R v0 28) fun b16 =>
      bnd1 (f_Mod_stateOf v0 v2 v3 v4) fun x17 =>
      bnd1 (f_Mod_flag y10) fun x19 =>
      lt (Int32.toInt64 x19) fun (x21 : Int64) =>
      asrt ((S b16).1 = 21) <|
      asrt (vp_in x17 (S b16).2) <|
      lt (wL L b16 (Int32.toNatClampNeg x17) x21) fun (L24 : ML) =>
      l_Mod_laysOut_20 S R I v0 v1 v2 v3 f L24 (v4 + 1))
set_option maxRecDepth 100000 in
set_option maxHeartbeats 4000000 in
theorem xl_Mod_laysOut_20 {E : Env} (hE : OKE E) {tg : Bool} {d : Nat} (hd : 1 ≤ d) {S : MS} {I : MI} {R : MR} {n : Nat} {v0 : Nat} {v1 : Int32} {v2 : Int32} {v3 : Int32} {K : KT} :
    ∀ {f : Nat} {L : ML} {v4 : Int32} {L' : ML}, (S v0).1 = 12 → l_Mod_laysOut_20 S R I v0 v1 v2 v3 f L v4 = some L' → X E y_Mod_laysOut b_Mod_laysOut 6 none tg d 0 0 83 [some (.ref (e_b E + v0)), some (.int v1), some (.int v2), some (.int v3), none, none] [] S I L' R n K → X E y_Mod_laysOut b_Mod_laysOut 6 none tg d 0 0 20 [some (.ref (e_b E + v0)), some (.int v1), some (.int v2), some (.int v3), some (.int v4), none] [] S I L R n K := by
  intro f
  induction f with
  | zero =>
    intro L v4 L' hS h hk
    rw [l_Mod_laysOut_20] at h
    cases h
  | succ f ih =>
    intro L v4 L' hS h hk
    rw [l_Mod_laysOut_20] at h
    refine X.iload_4 (pc := 20) (by decide +kernel) ?_
    refine X.bipush (pc := 22) (i := 10) (v := 10) bp_10 (by decide +kernel) ?_
    rcases ifb_some h with ⟨hq5, h⟩ | ⟨hq5, h⟩
    · refine X.icmp_ge_t (pc := 24) (off := 59) (tgt := 83) hq5 rfl (by decide +kernel) ?_
      have j0 := Option.some.inj h
      subst j0
      refine X.fgt (o' := [some (.ref (e_b E + v0)), some (.int v1), some (.int v2), some (.int v3), none, none]) ⟨rfl, ⟨rfl, ⟨rfl, ⟨rfl, trivial⟩⟩⟩⟩ ?_
      exact hk
    · refine X.icmp_ge_f (pc := 24) (off := 59) (tgt := 83) hq5 rfl (by decide +kernel) ?_
      refine X.aload_0 (pc := 27) (by decide +kernel) ?_
      obtain ⟨b6, hb6, h⟩ := bnd1_some h
      refine X.getR (pc := 28) (k := 5) fw_Mod_40 (by decide +kernel) (fun _ => rfl) hS hb6 ?_
      refine X.iload_2 (pc := 31) (by decide +kernel) ?_
      obtain ⟨hc8, h⟩ := asrt_some h
      obtain ⟨hi7, h⟩ := asrt_some h
      refine X.iaload (pc := 32) (by decide +kernel) hc8 hi7 ?_
      refine X.iconst (pc := 33) (i := 3) (v := 3) ic_3 (by decide +kernel) ?_
      obtain ⟨y10, hr11, h⟩ := bnd1_some h
      have hj12 : X E y_Mod_laysOut b_Mod_laysOut 6 none tg d 0 0 56 [some (.ref (e_b E + v0)), some (.int v1), some (.int v2), some (.int v3), some (.int v4), none] [.int y10] S I L R n K := by
        refine X.istore_5 (pc := 56) (by decide +kernel) (by decide) rfl ?_
        refine X.aload_0 (pc := 58) (by decide +kernel) ?_
        obtain ⟨b16, hb16, h⟩ := bnd1_some h
        refine X.getR (pc := 59) (k := 28) fw_Mod_84 (by decide +kernel) (fun _ => rfl) hS hb16 ?_
        refine X.aload_0 (pc := 62) (by decide +kernel) ?_
        refine X.iload_2 (pc := 63) (by decide +kernel) ?_
        refine X.iload_3 (pc := 64) (by decide +kernel) ?_
        refine X.iload_4 (pc := 65) (by decide +kernel) ?_
        obtain ⟨x17, hv18, h⟩ := bnd1_some h
        refine X.callVi (pc := 67) (nc := 0) (ns := 0) (c_Mod_stateOf hE (dle hd (Nat.le_of_ble_eq_true rfl)) hS hv18) cv_Mod_304 (by decide +kernel) hS ⟨by decide, rfl⟩ (ddd hd (Nat.le_of_ble_eq_true rfl)) rfl (Nat.le_of_ble_eq_true rfl) rfl rfl ?_
        refine X.iload_5 (pc := 70) (by decide +kernel) ?_
        obtain ⟨x19, hv20, h⟩ := bnd1_some h
        refine X.callSi (pc := 72) (nc := 0) (ns := 0) (c_Mod_flag hE (dle hd (Nat.le_of_ble_eq_true rfl)) hv20) cv_Mod_155 (by decide +kernel) (ddd hd (Nat.le_of_ble_eq_true rfl)) rfl (Nat.le_of_ble_eq_true rfl) rfl rfl ?_
        refine X.i2l (pc := 75) (by decide +kernel) ?_
        refine X.nameL (fun x21 hx21 => ?_)
        have h := lt_at hx21 h
        obtain ⟨hc22, h⟩ := asrt_some h
        obtain ⟨hi23, h⟩ := asrt_some h
        refine X.lastore (pc := 76) (by decide +kernel) hc22 hi23 ?_
        refine X.nameML (fun L24 hL24 => ?_)
        have h := lt_at hL24 h
        refine X.iinc_4 (pc := 77) (z := 1) (v := 1) ic_1 (by decide +kernel) (by decide) rfl ?_
        refine X.goto (pc := 80) (off := (-60)) (tgt := 20) (by decide +kernel) rfl ?_
        refine X.fgt (o' := [some (.ref (e_b E + v0)), some (.int v1), some (.int v2), some (.int v3), some (.int (v4 + 1)), none]) ⟨rfl, ⟨rfl, ⟨rfl, ⟨rfl, ⟨rfl, trivial⟩⟩⟩⟩⟩ ?_
        exact ih hS h hk
      have h := hr11
      rcases ifb_some h with ⟨hq9, h⟩ | ⟨hq9, h⟩
      · refine X.icmp_eq_t (pc := 34) (off := 17) (tgt := 51) hq9 rfl (by decide +kernel) ?_
        refine X.iconst (pc := 51) (i := 1) (v := 1) ic_1 (by decide +kernel) ?_
        refine X.goto (pc := 52) (off := 4) (tgt := 56) (by decide +kernel) rfl ?_
        have j0 := Option.some.inj h
        subst j0
        exact hj12
      · refine X.icmp_eq_f (pc := 34) (off := 17) (tgt := 51) hq9 rfl (by decide +kernel) ?_
        refine X.iload_1 (pc := 37) (by decide +kernel) ?_
        rcases ifb_some h with ⟨hq13, h⟩ | ⟨hq13, h⟩
        · refine X.if_eq_t (pc := 38) (off := 17) (tgt := 55) hq13 rfl (by decide +kernel) ?_
          refine X.iconst (pc := 55) (i := 0) (v := 0) ic_0 (by decide +kernel) ?_
          have j0 := Option.some.inj h
          subst j0
          exact hj12
        · refine X.if_eq_f (pc := 38) (off := 17) (tgt := 55) hq13 rfl (by decide +kernel) ?_
          refine X.aload_0 (pc := 41) (by decide +kernel) ?_
          refine X.getR (pc := 42) (k := 5) fw_Mod_40 (by decide +kernel) (fun _ => rfl) hS hb6 ?_
          refine X.iload_2 (pc := 45) (by decide +kernel) ?_
          obtain ⟨hi14, h⟩ := asrt_some h
          refine X.iaload (pc := 46) (by decide +kernel) hc8 hi14 ?_
          refine X.iconst (pc := 47) (i := 1) (v := 1) ic_1 (by decide +kernel) ?_
          rcases ifb_some h with ⟨hq15, h⟩ | ⟨hq15, h⟩
          · refine X.icmp_eq_t (pc := 48) (off := 7) (tgt := 55) hq15 rfl (by decide +kernel) ?_
            refine X.iconst (pc := 55) (i := 0) (v := 0) ic_0 (by decide +kernel) ?_
            have j0 := Option.some.inj h
            subst j0
            exact hj12
          · refine X.icmp_eq_f (pc := 48) (off := 7) (tgt := 55) hq15 rfl (by decide +kernel) ?_
            refine X.iconst (pc := 51) (i := 1) (v := 1) ic_1 (by decide +kernel) ?_
            refine X.goto (pc := 52) (off := 4) (tgt := 56) (by decide +kernel) rfl ?_
            have j0 := Option.some.inj h
            subst j0
            exact hj12
set_option maxRecDepth 100000 in
noncomputable def l_Mod_laysOut_12 (g : Nat) (S : MS) (R : MR) (I : MI) (v0 : Nat) (v1 : Int32) (v2 : Int32) : Nat → ML → Int32 → Option ML
  | 0, _, _ => none
  | f + 1, L, v3 =>
    ifb (4 ≤ v3)
      (some L)
      (bnd1 (l_Mod_laysOut_20 S R I v0 v1 v2 v3 g L 0) fun L25 =>
      l_Mod_laysOut_12 g S R I v0 v1 v2 f L25 (v3 + 1))
set_option maxRecDepth 100000 in
set_option maxHeartbeats 4000000 in
theorem xl_Mod_laysOut_12 {E : Env} (hE : OKE E) {tg : Bool} {d : Nat} (hd : 1 ≤ d) {g : Nat} {S : MS} {I : MI} {R : MR} {n : Nat} {v0 : Nat} {v1 : Int32} {v2 : Int32} {K : KT} :
    ∀ {f : Nat} {L : ML} {v3 : Int32} {L' : ML}, (S v0).1 = 12 → l_Mod_laysOut_12 g S R I v0 v1 v2 f L v3 = some L' → X E y_Mod_laysOut b_Mod_laysOut 6 none tg d 0 0 89 [some (.ref (e_b E + v0)), some (.int v1), some (.int v2), none, none, none] [] S I L' R n K → X E y_Mod_laysOut b_Mod_laysOut 6 none tg d 0 0 12 [some (.ref (e_b E + v0)), some (.int v1), some (.int v2), some (.int v3), none, none] [] S I L R n K := by
  intro f
  induction f with
  | zero =>
    intro L v3 L' hS h hk
    rw [l_Mod_laysOut_12] at h
    cases h
  | succ f ih =>
    intro L v3 L' hS h hk
    rw [l_Mod_laysOut_12] at h
    refine X.iload_3 (pc := 12) (by decide +kernel) ?_
    refine X.iconst (pc := 13) (i := 4) (v := 4) ic_4 (by decide +kernel) ?_
    rcases ifb_some h with ⟨hq4, h⟩ | ⟨hq4, h⟩
    · refine X.icmp_ge_t (pc := 14) (off := 75) (tgt := 89) hq4 rfl (by decide +kernel) ?_
      have j0 := Option.some.inj h
      subst j0
      refine X.fgt (o' := [some (.ref (e_b E + v0)), some (.int v1), some (.int v2), none, none, none]) ⟨rfl, ⟨rfl, ⟨rfl, trivial⟩⟩⟩ ?_
      exact hk
    · refine X.icmp_ge_f (pc := 14) (off := 75) (tgt := 89) hq4 rfl (by decide +kernel) ?_
      refine X.iconst (pc := 17) (i := 0) (v := 0) ic_0 (by decide +kernel) ?_
      refine X.istore_4 (pc := 18) (by decide +kernel) (by decide) rfl ?_
      obtain ⟨L25, hv26, h⟩ := bnd1_some h
      refine xl_Mod_laysOut_20 hE hd hS hv26 ?_
      refine X.iinc_3 (pc := 83) (z := 1) (v := 1) ic_1 (by decide +kernel) (by decide) rfl ?_
      refine X.goto (pc := 86) (off := (-74)) (tgt := 12) (by decide +kernel) rfl ?_
      exact ih hS h hk
set_option maxRecDepth 100000 in
noncomputable def l_Mod_laysOut_2 (g : Nat) (S : MS) (R : MR) (I : MI) (v0 : Nat) (v1 : Int32) : Nat → ML → Int32 → Option ML
  | 0, _, _ => none
  | f + 1, L, v2 =>
    bnd1 (f_Mod_cells S I v0) fun x1 =>
    ifb (x1 ≤ v2)
      (some L)
      (bnd1 (l_Mod_laysOut_12 g S R I v0 v1 v2 g L 0) fun L27 =>
      l_Mod_laysOut_2 g S R I v0 v1 f L27 (v2 + 1))
set_option maxRecDepth 100000 in
set_option maxHeartbeats 4000000 in
theorem xl_Mod_laysOut_2 {E : Env} (hE : OKE E) {tg : Bool} {d : Nat} (hd : 1 ≤ d) {g : Nat} {S : MS} {I : MI} {R : MR} {n : Nat} {v0 : Nat} {v1 : Int32} {K : KT} :
    ∀ {f : Nat} {L : ML} {v2 : Int32} {L' : ML}, (S v0).1 = 12 → l_Mod_laysOut_2 g S R I v0 v1 f L v2 = some L' → X E y_Mod_laysOut b_Mod_laysOut 6 none tg d 0 0 95 [none, none, none, none, none, none] [] S I L' R n K → X E y_Mod_laysOut b_Mod_laysOut 6 none tg d 0 0 2 [some (.ref (e_b E + v0)), some (.int v1), some (.int v2), none, none, none] [] S I L R n K := by
  intro f
  induction f with
  | zero =>
    intro L v2 L' hS h hk
    rw [l_Mod_laysOut_2] at h
    cases h
  | succ f ih =>
    intro L v2 L' hS h hk
    rw [l_Mod_laysOut_2] at h
    refine X.iload_2 (pc := 2) (by decide +kernel) ?_
    refine X.aload_0 (pc := 3) (by decide +kernel) ?_
    obtain ⟨x1, hv2, h⟩ := bnd1_some h
    refine X.callVi (pc := 4) (nc := 0) (ns := 0) (c_Mod_cells hE (dle hd (Nat.le_of_ble_eq_true rfl)) hS hv2) cv_Mod_148 (by decide +kernel) hS ⟨by decide, rfl⟩ (ddd hd (Nat.le_of_ble_eq_true rfl)) rfl (Nat.le_of_ble_eq_true rfl) rfl rfl ?_
    rcases ifb_some h with ⟨hq3, h⟩ | ⟨hq3, h⟩
    · refine X.icmp_ge_t (pc := 7) (off := 88) (tgt := 95) hq3 rfl (by decide +kernel) ?_
      have j0 := Option.some.inj h
      subst j0
      refine X.fgt (o' := [none, none, none, none, none, none]) trivial ?_
      exact hk
    · refine X.icmp_ge_f (pc := 7) (off := 88) (tgt := 95) hq3 rfl (by decide +kernel) ?_
      refine X.iconst (pc := 10) (i := 0) (v := 0) ic_0 (by decide +kernel) ?_
      refine X.istore_3 (pc := 11) (by decide +kernel) (by decide) rfl ?_
      obtain ⟨L27, hv28, h⟩ := bnd1_some h
      refine xl_Mod_laysOut_12 hE hd hS hv28 ?_
      refine X.iinc_2 (pc := 89) (z := 1) (v := 1) ic_1 (by decide +kernel) (by decide) rfl ?_
      refine X.goto (pc := 92) (off := (-90)) (tgt := 2) (by decide +kernel) rfl ?_
      exact ih hS h hk
set_option maxRecDepth 100000 in
noncomputable def f_Mod_laysOut (g : Nat) (S : MS) (R : MR) (I : MI) (L : ML) (t : Nat) (p1 : Int32) : Option ML :=
  bnd1 (l_Mod_laysOut_2 g S R I t p1 g L 0) fun L29 =>
  some L29
set_option maxRecDepth 100000 in
set_option maxHeartbeats 4000000 in
theorem c_Mod_laysOut {E : Env} (hE : OKE E) {tg : Bool} {d : Nat} (hd : 1 ≤ d) {g : Nat} {S : MS} {I : MI} {L : ML} {R : MR} {n : Nat} {t : Nat} {p1 : Int32} {L' : ML} (hS : (S t).1 = 12) (h : f_Mod_laysOut g S R I L t p1 = some L') : C E y_Mod_laysOut b_Mod_laysOut 6 none tg d 0 0 [.ref (e_b E + t), .int p1] S I L R n (Kq none S I L' R n) := by
  refine C.of (o := [some (.ref (e_b E + t)), some (.int p1), none, none, none, none]) (by decide) rfl (Nat.le_of_ble_eq_true rfl) ?_
  rw [f_Mod_laysOut] at h
  refine X.iconst (pc := 0) (i := 0) (v := 0) ic_0 (by decide +kernel) ?_
  refine X.istore_2 (pc := 1) (by decide +kernel) (by decide) rfl ?_
  obtain ⟨L29, hv30, h⟩ := bnd1_some h
  refine xl_Mod_laysOut_2 hE hd hS hv30 ?_
  have j0 := Option.some.inj h
  subst j0
  exact X.vreturn (pc := 95) (by decide +kernel) rfl ⟨rfl, rfl, rfl, rfl, rfl, rfl⟩
set_option maxRecDepth 100000 in
noncomputable def f_Mod_partOf (S : MS) (R : MR) (I : MI) (t : Nat) (p1 : Int32) (p2 : Int32) : Option Int32 :=
  ifb (p2 = 3)
    (bnd1 (R t 9) fun b2 =>
    asrt ((S b2).1 = 20) <|
    asrt (vp_in p1 (S b2).2) <|
    lt (10 * (I b2 (Int32.toNatClampNeg p1))) fun (x5 : Int32) =>
    some x5)
    (bnd1 (R t 9) fun b6 =>
    asrt ((S b6).1 = 20) <|
    asrt (vp_in p1 (S b6).2) <|
    bnd1 (ifb (p1 = p2)
        (some (10 * (I t 11)))
        (some 0)) fun (y10 : Int32) =>
    lt (((10 - (I t 11)) * (I b6 (Int32.toNatClampNeg p1))) + y10) fun (x13 : Int32) =>
    some x13)
set_option maxRecDepth 100000 in
set_option maxHeartbeats 4000000 in
theorem c_Mod_partOf {E : Env} (hE : OKE E) {tg : Bool} {d : Nat} (hd : 0 ≤ d) {S : MS} {I : MI} {L : ML} {R : MR} {n : Nat} {t : Nat} {p1 : Int32} {p2 : Int32} {v : Int32} (hS : (S t).1 = 12) (h : f_Mod_partOf S R I t p1 p2 = some v) : C E y_Mod_partOf b_Mod_partOf 3 (some .int) tg d 0 0 [.ref (e_b E + t), .int p1, .int p2] S I L R n (Kq (some (.int v)) S I L R n) := by
  refine C.of (o := [some (.ref (e_b E + t)), some (.int p1), some (.int p2)]) (by decide) rfl (Nat.le_of_ble_eq_true rfl) ?_
  rw [f_Mod_partOf] at h
  refine X.iload_2 (pc := 0) (by decide +kernel) ?_
  refine X.iconst (pc := 1) (i := 3) (v := 3) ic_3 (by decide +kernel) ?_
  rcases ifb_some h with ⟨hq1, h⟩ | ⟨hq1, h⟩
  · refine X.icmp_ne_f (pc := 2) (off := 13) (tgt := 15) hq1 rfl (by decide +kernel) ?_
    refine X.bipush (pc := 5) (i := 10) (v := 10) bp_10 (by decide +kernel) ?_
    refine X.aload_0 (pc := 7) (by decide +kernel) ?_
    obtain ⟨b2, hb2, h⟩ := bnd1_some h
    refine X.getR (pc := 8) (k := 9) fw_Mod_44 (by decide +kernel) (fun _ => rfl) hS hb2 ?_
    refine X.iload_1 (pc := 11) (by decide +kernel) ?_
    obtain ⟨hc4, h⟩ := asrt_some h
    obtain ⟨hi3, h⟩ := asrt_some h
    refine X.iaload (pc := 12) (by decide +kernel) hc4 hi3 ?_
    refine X.imul (pc := 13) (by decide +kernel) ?_
    refine X.nameI (fun x5 hx5 => ?_)
    have h := lt_at hx5 h
    have j0 := Option.some.inj h
    subst j0
    exact X.ireturn (pc := 14) (by decide +kernel) ⟨_, rfl, rfl⟩ ⟨rfl, rfl, rfl, rfl, rfl, rfl⟩
  · refine X.icmp_ne_t (pc := 2) (off := 13) (tgt := 15) hq1 rfl (by decide +kernel) ?_
    refine X.bipush (pc := 15) (i := 10) (v := 10) bp_10 (by decide +kernel) ?_
    refine X.aload_0 (pc := 17) (by decide +kernel) ?_
    refine X.getI (pc := 18) (k := 11) fw_Mod_50 (by decide +kernel) (fun _ => rfl) hS ?_
    refine X.isub (pc := 21) (by decide +kernel) ?_
    refine X.aload_0 (pc := 22) (by decide +kernel) ?_
    obtain ⟨b6, hb6, h⟩ := bnd1_some h
    refine X.getR (pc := 23) (k := 9) fw_Mod_44 (by decide +kernel) (fun _ => rfl) hS hb6 ?_
    refine X.iload_1 (pc := 26) (by decide +kernel) ?_
    obtain ⟨hc8, h⟩ := asrt_some h
    obtain ⟨hi7, h⟩ := asrt_some h
    refine X.iaload (pc := 27) (by decide +kernel) hc8 hi7 ?_
    refine X.imul (pc := 28) (by decide +kernel) ?_
    refine X.iload_1 (pc := 29) (by decide +kernel) ?_
    refine X.iload_2 (pc := 30) (by decide +kernel) ?_
    obtain ⟨y10, hr11, h⟩ := bnd1_some h
    have hj12 : X E y_Mod_partOf b_Mod_partOf 3 (some .int) tg d 0 0 45 [none, none, none] [.int y10, .int ((10 - (I t 11)) * (I b6 (Int32.toNatClampNeg p1)))] S I L R n (Kq (some (.int v)) S I L R n) := by
      refine X.iadd (pc := 45) (by decide +kernel) ?_
      refine X.nameI (fun x13 hx13 => ?_)
      have h := lt_at hx13 h
      have j0 := Option.some.inj h
      subst j0
      exact X.ireturn (pc := 46) (by decide +kernel) ⟨_, rfl, rfl⟩ ⟨rfl, rfl, rfl, rfl, rfl, rfl⟩
    have h := hr11
    rcases ifb_some h with ⟨hq9, h⟩ | ⟨hq9, h⟩
    · refine X.icmp_ne_f (pc := 31) (off := 13) (tgt := 44) hq9 rfl (by decide +kernel) ?_
      refine X.bipush (pc := 34) (i := 10) (v := 10) bp_10 (by decide +kernel) ?_
      refine X.aload_0 (pc := 36) (by decide +kernel) ?_
      refine X.getI (pc := 37) (k := 11) fw_Mod_50 (by decide +kernel) (fun _ => rfl) hS ?_
      refine X.imul (pc := 40) (by decide +kernel) ?_
      refine X.goto (pc := 41) (off := 4) (tgt := 45) (by decide +kernel) rfl ?_
      have j0 := Option.some.inj h
      subst j0
      refine X.fgt (o' := [none, none, none]) trivial ?_
      exact hj12
    · refine X.icmp_ne_t (pc := 31) (off := 13) (tgt := 44) hq9 rfl (by decide +kernel) ?_
      refine X.iconst (pc := 44) (i := 0) (v := 0) ic_0 (by decide +kernel) ?_
      have j0 := Option.some.inj h
      subst j0
      refine X.fgt (o' := [none, none, none]) trivial ?_
      exact hj12
set_option maxRecDepth 100000 in
noncomputable def l_Mod_comesOf_6 (S : MS) (R : MR) (I : MI) (L : ML) (v0 : Nat) (v1 : Int32) (v2 : Int32) (v3 : Int32) (v4 : Int32) (v5 : Nat) : Nat → Int64 → Int32 → Option Int64
  | 0, _, _ => none
  | f + 1, v6, v8 =>
    ifb (3 ≤ v8)
      (some v6)
      (bnd1 (f_Mod_turned v2 v8) fun x2 =>
      bnd1 (f_Mod_cellBy S R I v0 v1 x2) fun x4 =>
      bnd1 (ifb (v4 = 3)
          (some v3)
          (some (v3 - 1))) fun (y7 : Int32) =>
      bnd1 (f_Mod_stateOf v0 x4 x2 y7) fun x10 =>
      bnd1 (f_Mod_partOf S R I v0 v8 v4) fun x12 =>
      asrt ((S v5).1 = 21) <|
      asrt (vp_in x10 (S v5).2) <|
      lt (v6 + ((Int32.toInt64 x12) * (L v5 (Int32.toNatClampNeg x10)))) fun (x16 : Int64) =>
      l_Mod_comesOf_6 S R I L v0 v1 v2 v3 v4 v5 f x16 (v8 + 1))
set_option maxRecDepth 100000 in
set_option maxHeartbeats 4000000 in
theorem xl_Mod_comesOf_6 {E : Env} (hE : OKE E) {tg : Bool} {d : Nat} (hd : 2 ≤ d) {S : MS} {I : MI} {L : ML} {R : MR} {n : Nat} {v0 : Nat} {v1 : Int32} {v2 : Int32} {v3 : Int32} {v4 : Int32} {v5 : Nat} {K : KT} :
    ∀ {f : Nat}  {v6 : Int64} {v8 : Int32} {o6 : Int64}, (S v0).1 = 12 → l_Mod_comesOf_6 S R I L v0 v1 v2 v3 v4 v5 f v6 v8 = some o6 → X E y_Mod_comesOf b_Mod_comesOf 11 (some .long) tg d 0 0 74 [none, none, none, none, none, none, some (.long o6), none, none, none, none] [] S I L R n K → X E y_Mod_comesOf b_Mod_comesOf 11 (some .long) tg d 0 0 6 [some (.ref (e_b E + v0)), some (.int v1), some (.int v2), some (.int v3), some (.int v4), some (.ref (e_b E + v5)), some (.long v6), none, some (.int v8), none, none] [] S I L R n K := by
  intro f
  induction f with
  | zero =>
    intro v6 v8 o6 hS h hk
    rw [l_Mod_comesOf_6] at h
    cases h
  | succ f ih =>
    intro v6 v8 o6 hS h hk
    rw [l_Mod_comesOf_6] at h
    refine X.iload_8 (pc := 6) (by decide +kernel) ?_
    refine X.iconst (pc := 8) (i := 3) (v := 3) ic_3 (by decide +kernel) ?_
    rcases ifb_some h with ⟨hq1, h⟩ | ⟨hq1, h⟩
    · refine X.icmp_ge_t (pc := 9) (off := 65) (tgt := 74) hq1 rfl (by decide +kernel) ?_
      have j0 := Option.some.inj h
      subst j0
      refine X.fgt (o' := [none, none, none, none, none, none, some (.long v6), none, none, none, none]) ⟨rfl, trivial⟩ ?_
      exact hk
    · refine X.icmp_ge_f (pc := 9) (off := 65) (tgt := 74) hq1 rfl (by decide +kernel) ?_
      refine X.iload_2 (pc := 12) (by decide +kernel) ?_
      refine X.iload_8 (pc := 13) (by decide +kernel) ?_
      obtain ⟨x2, hv3, h⟩ := bnd1_some h
      refine X.callSi (pc := 15) (nc := 0) (ns := 0) (c_Mod_turned hE (dle hd (Nat.le_of_ble_eq_true rfl)) hv3) cv_Mod_249 (by decide +kernel) (ddd hd (Nat.le_of_ble_eq_true rfl)) rfl (Nat.le_of_ble_eq_true rfl) rfl rfl ?_
      refine X.istore_9 (pc := 18) (by decide +kernel) (by decide) rfl ?_
      refine X.aload_0 (pc := 20) (by decide +kernel) ?_
      refine X.aload_0 (pc := 21) (by decide +kernel) ?_
      refine X.iload_1 (pc := 22) (by decide +kernel) ?_
      refine X.iload_9 (pc := 23) (by decide +kernel) ?_
      obtain ⟨x4, hv5, h⟩ := bnd1_some h
      refine X.callVi (pc := 25) (nc := 0) (ns := 0) (c_Mod_cellBy hE (dle hd (Nat.le_of_ble_eq_true rfl)) hS hv5) cv_Mod_252 (by decide +kernel) hS ⟨by decide, rfl⟩ (ddd hd (Nat.le_of_ble_eq_true rfl)) rfl (Nat.le_of_ble_eq_true rfl) rfl rfl ?_
      refine X.iload_9 (pc := 28) (by decide +kernel) ?_
      refine X.iload_4 (pc := 30) (by decide +kernel) ?_
      refine X.iconst (pc := 32) (i := 3) (v := 3) ic_3 (by decide +kernel) ?_
      obtain ⟨y7, hr8, h⟩ := bnd1_some h
      have hj9 : X E y_Mod_comesOf b_Mod_comesOf 11 (some .long) tg d 0 0 43 [some (.ref (e_b E + v0)), some (.int v1), some (.int v2), some (.int v3), some (.int v4), some (.ref (e_b E + v5)), some (.long v6), none, some (.int v8), none, none] [.int y7, .int x2, .int x4, .ref (e_b E + v0)] S I L R n K := by
        obtain ⟨x10, hv11, h⟩ := bnd1_some h
        refine X.callVi (pc := 43) (nc := 0) (ns := 0) (c_Mod_stateOf hE (dle hd (Nat.le_of_ble_eq_true rfl)) hS hv11) cv_Mod_304 (by decide +kernel) hS ⟨by decide, rfl⟩ (ddd hd (Nat.le_of_ble_eq_true rfl)) rfl (Nat.le_of_ble_eq_true rfl) rfl rfl ?_
        refine X.istore_10 (pc := 46) (by decide +kernel) (by decide) rfl ?_
        refine X.lload_6 (pc := 48) (by decide +kernel) ?_
        refine X.aload_0 (pc := 50) (by decide +kernel) ?_
        refine X.iload_8 (pc := 51) (by decide +kernel) ?_
        refine X.iload_4 (pc := 53) (by decide +kernel) ?_
        obtain ⟨x12, hv13, h⟩ := bnd1_some h
        refine X.callVi (pc := 55) (nc := 0) (ns := 0) (c_Mod_partOf hE (dle hd (Nat.le_of_ble_eq_true rfl)) hS hv13) cv_Mod_307 (by decide +kernel) hS ⟨by decide, rfl⟩ (ddd hd (Nat.le_of_ble_eq_true rfl)) rfl (Nat.le_of_ble_eq_true rfl) rfl rfl ?_
        refine X.i2l (pc := 58) (by decide +kernel) ?_
        refine X.aload_5 (pc := 59) (by decide +kernel) ?_
        refine X.iload_10 (pc := 61) (by decide +kernel) ?_
        obtain ⟨hc15, h⟩ := asrt_some h
        obtain ⟨hi14, h⟩ := asrt_some h
        refine X.laload (pc := 63) (by decide +kernel) hc15 hi14 ?_
        refine X.lmul (pc := 64) (by decide +kernel) ?_
        refine X.ladd (pc := 65) (by decide +kernel) ?_
        refine X.nameL (fun x16 hx16 => ?_)
        have h := lt_at hx16 h
        refine X.lstore_6 (pc := 66) (by decide +kernel) (by decide) rfl ?_
        refine X.iinc_8 (pc := 68) (z := 1) (v := 1) ic_1 (by decide +kernel) (by decide) rfl ?_
        refine X.goto (pc := 71) (off := (-65)) (tgt := 6) (by decide +kernel) rfl ?_
        refine X.fgt (o' := [some (.ref (e_b E + v0)), some (.int v1), some (.int v2), some (.int v3), some (.int v4), some (.ref (e_b E + v5)), some (.long x16), none, some (.int (v8 + 1)), none, none]) ⟨rfl, ⟨rfl, ⟨rfl, ⟨rfl, ⟨rfl, ⟨rfl, ⟨rfl, ⟨rfl, trivial⟩⟩⟩⟩⟩⟩⟩⟩ ?_
        exact ih hS h hk
      have h := hr8
      rcases ifb_some h with ⟨hq6, h⟩ | ⟨hq6, h⟩
      · refine X.icmp_ne_f (pc := 33) (off := 7) (tgt := 40) hq6 rfl (by decide +kernel) ?_
        refine X.iload_3 (pc := 36) (by decide +kernel) ?_
        refine X.goto (pc := 37) (off := 6) (tgt := 43) (by decide +kernel) rfl ?_
        have j0 := Option.some.inj h
        subst j0
        refine X.fgt (o' := [some (.ref (e_b E + v0)), some (.int v1), some (.int v2), some (.int v3), some (.int v4), some (.ref (e_b E + v5)), some (.long v6), none, some (.int v8), none, none]) ⟨rfl, ⟨rfl, ⟨rfl, ⟨rfl, ⟨rfl, ⟨rfl, ⟨rfl, ⟨rfl, trivial⟩⟩⟩⟩⟩⟩⟩⟩ ?_
        exact hj9
      · refine X.icmp_ne_t (pc := 33) (off := 7) (tgt := 40) hq6 rfl (by decide +kernel) ?_
        refine X.iload_3 (pc := 40) (by decide +kernel) ?_
        refine X.iconst (pc := 41) (i := 1) (v := 1) ic_1 (by decide +kernel) ?_
        refine X.isub (pc := 42) (by decide +kernel) ?_
        have j0 := Option.some.inj h
        subst j0
        refine X.fgt (o' := [some (.ref (e_b E + v0)), some (.int v1), some (.int v2), some (.int v3), some (.int v4), some (.ref (e_b E + v5)), some (.long v6), none, some (.int v8), none, none]) ⟨rfl, ⟨rfl, ⟨rfl, ⟨rfl, ⟨rfl, ⟨rfl, ⟨rfl, ⟨rfl, trivial⟩⟩⟩⟩⟩⟩⟩⟩ ?_
        exact hj9
set_option maxRecDepth 100000 in
noncomputable def f_Mod_comesOf (g : Nat) (S : MS) (R : MR) (I : MI) (L : ML) (t : Nat) (p1 : Int32) (p2 : Int32) (p3 : Int32) (p4 : Int32) (p5 : Nat) : Option Int64 :=
  bnd1 (l_Mod_comesOf_6 S R I L t p1 p2 p3 p4 p5 g 0 0) fun x17 =>
  some x17
set_option maxRecDepth 100000 in
set_option maxHeartbeats 4000000 in
theorem c_Mod_comesOf {E : Env} (hE : OKE E) {tg : Bool} {d : Nat} (hd : 2 ≤ d) {g : Nat} {S : MS} {I : MI} {L : ML} {R : MR} {n : Nat} {t : Nat} {p1 : Int32} {p2 : Int32} {p3 : Int32} {p4 : Int32} {p5 : Nat} {v : Int64} (hS : (S t).1 = 12) (h : f_Mod_comesOf g S R I L t p1 p2 p3 p4 p5 = some v) : C E y_Mod_comesOf b_Mod_comesOf 11 (some .long) tg d 0 0 [.ref (e_b E + t), .int p1, .int p2, .int p3, .int p4, .ref (e_b E + p5)] S I L R n (Kq (some (.long v)) S I L R n) := by
  refine C.of (o := [some (.ref (e_b E + t)), some (.int p1), some (.int p2), some (.int p3), some (.int p4), some (.ref (e_b E + p5)), none, none, none, none, none]) (by decide) rfl (Nat.le_of_ble_eq_true rfl) ?_
  rw [f_Mod_comesOf] at h
  refine X.lconst (pc := 0) (i := 0) (v := 0) rfl (by decide +kernel) ?_
  refine X.lstore_6 (pc := 1) (by decide +kernel) (by decide) rfl ?_
  refine X.iconst (pc := 3) (i := 0) (v := 0) ic_0 (by decide +kernel) ?_
  refine X.istore_8 (pc := 4) (by decide +kernel) (by decide) rfl ?_
  obtain ⟨x17, hv18, h⟩ := bnd1_some h
  refine xl_Mod_comesOf_6 hE hd hS hv18 ?_
  refine X.lload_6 (pc := 74) (by decide +kernel) ?_
  have j0 := Option.some.inj h
  subst j0
  exact X.lreturn (pc := 76) (by decide +kernel) rfl ⟨rfl, rfl, rfl, rfl, rfl, rfl⟩
set_option maxRecDepth 100000 in
noncomputable def f_JMath_max_JJ (p1 : Int64) (p2 : Int64) : Option Int64 :=
  bnd1 (ifb ((lg_cmp p1 p2) < 0)
      (some p2)
      (some p1)) fun (y2 : Int64) =>
  some y2
set_option maxRecDepth 100000 in
set_option maxHeartbeats 4000000 in
theorem c_JMath_max_JJ {E : Env} (hE : OKE E) {tg : Bool} {d : Nat} (hd : 0 ≤ d) {S : MS} {I : MI} {L : ML} {R : MR} {n : Nat} {p1 : Int64} {p2 : Int64} {v : Int64} (h : f_JMath_max_JJ p1 p2 = some v) : C E y_JMath_max_JJ b_JMath_max_JJ 4 (some .long) tg d 0 0 [.long p1, .long p2] S I L R n (Kq (some (.long v)) S I L R n) := by
  refine C.ofF (o := [some (.long p1), none, some (.long p2), none]) (by decide +kernel) rfl (Nat.le_of_ble_eq_true rfl) ?_
  rw [f_JMath_max_JJ] at h
  refine X.lload_0 (pc := 0) (by decide +kernel) ?_
  refine X.lload_2 (pc := 1) (by decide +kernel) ?_
  refine X.lcmp (pc := 2) (by decide +kernel) ?_
  obtain ⟨y2, hr3, h⟩ := bnd1_some h
  have hj4 : X E y_JMath_max_JJ b_JMath_max_JJ 4 (some .long) tg d 0 0 11 [none, none, none, none] [.long y2] S I L R n (Kq (some (.long v)) S I L R n) := by
    have j0 := Option.some.inj h
    subst j0
    exact X.lreturn (pc := 11) (by decide +kernel) rfl ⟨rfl, rfl, rfl, rfl, rfl, rfl⟩
  have h := hr3
  rcases ifb_some h with ⟨hq1, h⟩ | ⟨hq1, h⟩
  · refine X.if_lt_t (pc := 3) (off := 7) (tgt := 10) hq1 rfl (by decide +kernel) ?_
    refine X.lload_2 (pc := 10) (by decide +kernel) ?_
    have j0 := Option.some.inj h
    subst j0
    refine X.fgt (o' := [none, none, none, none]) trivial ?_
    exact hj4
  · refine X.if_lt_f (pc := 3) (off := 7) (tgt := 10) hq1 rfl (by decide +kernel) ?_
    refine X.lload_0 (pc := 6) (by decide +kernel) ?_
    refine X.goto (pc := 7) (off := 4) (tgt := 11) (by decide +kernel) rfl ?_
    have j0 := Option.some.inj h
    subst j0
    refine X.fgt (o' := [none, none, none, none]) trivial ?_
    exact hj4
set_option maxRecDepth 100000 in
noncomputable def l_Mod_goesBack_84 (g : Nat) (S : MS) (R : MR) (I : MI) (L : ML) (v0 : Nat) (v1 : Int32) (v2 : Int32) (v3 : Int32) (v4 : Int32) (v5 : Int32) : Nat → Int64 → Int32 → Option Int64
  | 0, _, _ => none
  | f + 1, v6, v8 =>
    ifb (3 ≤ v8)
      (some v6)
      (ifb (v1 = 0)
        (some v6)
        (ifb (v4 ≤ 0)
          (some v6)
          (bnd1 (R v0 28) fun b20 =>
          bnd1 (f_Mod_comesOf g S R I L v0 v2 v3 v4 v8 b20) fun x21 =>
          bnd1 (f_JMath_max_JJ v6 x21) fun x23 =>
          l_Mod_goesBack_84 g S R I L v0 v1 v2 v3 v4 v5 f x23 (v8 + 1))))
set_option maxRecDepth 100000 in
set_option maxHeartbeats 4000000 in
theorem xl_Mod_goesBack_84 {E : Env} (hE : OKE E) {tg : Bool} {d : Nat} (hd : 3 ≤ d) {g : Nat} {S : MS} {I : MI} {L : ML} {R : MR} {n : Nat} {v0 : Nat} {v1 : Int32} {v2 : Int32} {v3 : Int32} {v4 : Int32} {v5 : Int32} {K : KT} :
    ∀ {f : Nat}  {v6 : Int64} {v8 : Int32} {o6 : Int64}, (S v0).1 = 12 → l_Mod_goesBack_84 g S R I L v0 v1 v2 v3 v4 v5 f v6 v8 = some o6 → X E y_Mod_goesBack b_Mod_goesBack 9 none tg d 0 0 126 [some (.ref (e_b E + v0)), some (.int v1), some (.int v2), some (.int v3), some (.int v4), some (.int v5), some (.long o6), none, none] [] S I L R n K → X E y_Mod_goesBack b_Mod_goesBack 9 none tg d 0 0 84 [some (.ref (e_b E + v0)), some (.int v1), some (.int v2), some (.int v3), some (.int v4), some (.int v5), some (.long v6), none, some (.int v8)] [] S I L R n K := by
  intro f
  induction f with
  | zero =>
    intro v6 v8 o6 hS h hk
    rw [l_Mod_goesBack_84] at h
    cases h
  | succ f ih =>
    intro v6 v8 o6 hS h hk
    rw [l_Mod_goesBack_84] at h
    refine X.iload_8 (pc := 84) (by decide +kernel) ?_
    refine X.iconst (pc := 86) (i := 3) (v := 3) ic_3 (by decide +kernel) ?_
    rcases ifb_some h with ⟨hq17, h⟩ | ⟨hq17, h⟩
    · refine X.icmp_ge_t (pc := 87) (off := 39) (tgt := 126) hq17 rfl (by decide +kernel) ?_
      have j0 := Option.some.inj h
      subst j0
      refine X.fgt (o' := [some (.ref (e_b E + v0)), some (.int v1), some (.int v2), some (.int v3), some (.int v4), some (.int v5), some (.long v6), none, none]) ⟨rfl, ⟨rfl, ⟨rfl, ⟨rfl, ⟨rfl, ⟨rfl, ⟨rfl, trivial⟩⟩⟩⟩⟩⟩⟩ ?_
      exact hk
    · refine X.icmp_ge_f (pc := 87) (off := 39) (tgt := 126) hq17 rfl (by decide +kernel) ?_
      refine X.iload_1 (pc := 90) (by decide +kernel) ?_
      rcases ifb_some h with ⟨hq18, h⟩ | ⟨hq18, h⟩
      · refine X.if_eq_t (pc := 91) (off := 35) (tgt := 126) hq18 rfl (by decide +kernel) ?_
        have j0 := Option.some.inj h
        subst j0
        refine X.fgt (o' := [some (.ref (e_b E + v0)), some (.int v1), some (.int v2), some (.int v3), some (.int v4), some (.int v5), some (.long v6), none, none]) ⟨rfl, ⟨rfl, ⟨rfl, ⟨rfl, ⟨rfl, ⟨rfl, ⟨rfl, trivial⟩⟩⟩⟩⟩⟩⟩ ?_
        exact hk
      · refine X.if_eq_f (pc := 91) (off := 35) (tgt := 126) hq18 rfl (by decide +kernel) ?_
        refine X.iload_4 (pc := 94) (by decide +kernel) ?_
        rcases ifb_some h with ⟨hq19, h⟩ | ⟨hq19, h⟩
        · refine X.if_le_t (pc := 96) (off := 30) (tgt := 126) hq19 rfl (by decide +kernel) ?_
          have j0 := Option.some.inj h
          subst j0
          refine X.fgt (o' := [some (.ref (e_b E + v0)), some (.int v1), some (.int v2), some (.int v3), some (.int v4), some (.int v5), some (.long v6), none, none]) ⟨rfl, ⟨rfl, ⟨rfl, ⟨rfl, ⟨rfl, ⟨rfl, ⟨rfl, trivial⟩⟩⟩⟩⟩⟩⟩ ?_
          exact hk
        · refine X.if_le_f (pc := 96) (off := 30) (tgt := 126) hq19 rfl (by decide +kernel) ?_
          refine X.lload_6 (pc := 99) (by decide +kernel) ?_
          refine X.aload_0 (pc := 101) (by decide +kernel) ?_
          refine X.iload_2 (pc := 102) (by decide +kernel) ?_
          refine X.iload_3 (pc := 103) (by decide +kernel) ?_
          refine X.iload_4 (pc := 104) (by decide +kernel) ?_
          refine X.iload_8 (pc := 106) (by decide +kernel) ?_
          refine X.aload_0 (pc := 108) (by decide +kernel) ?_
          obtain ⟨b20, hb20, h⟩ := bnd1_some h
          refine X.getR (pc := 109) (k := 28) fw_Mod_84 (by decide +kernel) (fun _ => rfl) hS hb20 ?_
          obtain ⟨x21, hv22, h⟩ := bnd1_some h
          refine X.callVl (pc := 112) (nc := 0) (ns := 0) (c_Mod_comesOf hE (dle hd (Nat.le_of_ble_eq_true rfl)) hS hv22) cv_Mod_310 (by decide +kernel) hS ⟨by decide, rfl⟩ (ddd hd (Nat.le_of_ble_eq_true rfl)) rfl (Nat.le_of_ble_eq_true rfl) rfl rfl ?_
          obtain ⟨x23, hv24, h⟩ := bnd1_some h
          refine X.callSl (pc := 115) (nc := 0) (ns := 0) (c_JMath_max_JJ hE (dle hd (Nat.le_of_ble_eq_true rfl)) hv24) cv_Mod_314 (by decide +kernel) (ddd hd (Nat.le_of_ble_eq_true rfl)) rfl (Nat.le_of_ble_eq_true rfl) rfl rfl ?_
          refine X.lstore_6 (pc := 118) (by decide +kernel) (by decide) rfl ?_
          refine X.iinc_8 (pc := 120) (z := 1) (v := 1) ic_1 (by decide +kernel) (by decide) rfl ?_
          refine X.goto (pc := 123) (off := (-39)) (tgt := 84) (by decide +kernel) rfl ?_
          exact ih hS h hk
set_option maxRecDepth 100000 in
noncomputable def l_Mod_goesBack_20 (g : Nat) (S : MS) (R : MR) (I : MI) (v0 : Nat) (v1 : Int32) (v2 : Int32) (v3 : Int32) : Nat → ML → Int32 → Option ML
  | 0, _, _ => none
  | f + 1, L, v4 =>
    ifb (10 ≤ v4)
      (some L)
      (bnd1 (f_Mod_stateOf v0 v2 v3 v4) fun x6 =>
      bnd1 (f_Mod_isEnd S R I v0 v2) fun x8 =>
      bnd1 (ifb (x8 = 0)
          (bnd1 (R v0 28) fun b14 =>
          bnd1 (f_Mod_comesOf g S R I L v0 v2 v3 v4 3 b14) fun x15 =>
          bnd1 (l_Mod_goesBack_84 g S R I L v0 v1 v2 v3 v4 x6 g x15 0) fun x25 =>
          bnd1 (R v0 29) fun b27 =>
          asrt ((S b27).1 = 21) <|
          asrt (vp_in x6 (S b27).2) <|
          lt (wL L b27 (Int32.toNatClampNeg x6) x25) fun (L30 : ML) =>
          some L30)
          (bnd1 (R v0 29) fun b31 =>
          bnd1 (R v0 28) fun b32 =>
          asrt ((S b32).1 = 21) <|
          asrt (vp_in x6 (S b32).2) <|
          lt (100 * (L b32 (Int32.toNatClampNeg x6))) fun (x35 : Int64) =>
          asrt ((S b31).1 = 21) <|
          asrt (vp_in x6 (S b31).2) <|
          lt (wL L b31 (Int32.toNatClampNeg x6) x35) fun (L38 : ML) =>
          some L38)) fun (L11 : ML) =>
      l_Mod_goesBack_20 g S R I v0 v1 v2 v3 f L11 (v4 + 1))
set_option maxRecDepth 100000 in
set_option maxHeartbeats 4000000 in
theorem xl_Mod_goesBack_20 {E : Env} (hE : OKE E) {tg : Bool} {d : Nat} (hd : 3 ≤ d) {g : Nat} {S : MS} {I : MI} {R : MR} {n : Nat} {v0 : Nat} {v1 : Int32} {v2 : Int32} {v3 : Int32} {K : KT} :
    ∀ {f : Nat} {L : ML} {v4 : Int32} {L' : ML}, (S v0).1 = 12 → l_Mod_goesBack_20 g S R I v0 v1 v2 v3 f L v4 = some L' → X E y_Mod_goesBack b_Mod_goesBack 9 none tg d 0 0 141 [some (.ref (e_b E + v0)), some (.int v1), some (.int v2), some (.int v3), none, none, none, none, none] [] S I L' R n K → X E y_Mod_goesBack b_Mod_goesBack 9 none tg d 0 0 20 [some (.ref (e_b E + v0)), some (.int v1), some (.int v2), some (.int v3), some (.int v4), none, none, none, none] [] S I L R n K := by
  intro f
  induction f with
  | zero =>
    intro L v4 L' hS h hk
    rw [l_Mod_goesBack_20] at h
    cases h
  | succ f ih =>
    intro L v4 L' hS h hk
    rw [l_Mod_goesBack_20] at h
    refine X.iload_4 (pc := 20) (by decide +kernel) ?_
    refine X.bipush (pc := 22) (i := 10) (v := 10) bp_10 (by decide +kernel) ?_
    rcases ifb_some h with ⟨hq5, h⟩ | ⟨hq5, h⟩
    · refine X.icmp_ge_t (pc := 24) (off := 117) (tgt := 141) hq5 rfl (by decide +kernel) ?_
      have j0 := Option.some.inj h
      subst j0
      refine X.fgt (o' := [some (.ref (e_b E + v0)), some (.int v1), some (.int v2), some (.int v3), none, none, none, none, none]) ⟨rfl, ⟨rfl, ⟨rfl, ⟨rfl, trivial⟩⟩⟩⟩ ?_
      exact hk
    · refine X.icmp_ge_f (pc := 24) (off := 117) (tgt := 141) hq5 rfl (by decide +kernel) ?_
      refine X.aload_0 (pc := 27) (by decide +kernel) ?_
      refine X.iload_2 (pc := 28) (by decide +kernel) ?_
      refine X.iload_3 (pc := 29) (by decide +kernel) ?_
      refine X.iload_4 (pc := 30) (by decide +kernel) ?_
      obtain ⟨x6, hv7, h⟩ := bnd1_some h
      refine X.callVi (pc := 32) (nc := 0) (ns := 0) (c_Mod_stateOf hE (dle hd (Nat.le_of_ble_eq_true rfl)) hS hv7) cv_Mod_304 (by decide +kernel) hS ⟨by decide, rfl⟩ (ddd hd (Nat.le_of_ble_eq_true rfl)) rfl (Nat.le_of_ble_eq_true rfl) rfl rfl ?_
      refine X.istore_5 (pc := 35) (by decide +kernel) (by decide) rfl ?_
      refine X.aload_0 (pc := 37) (by decide +kernel) ?_
      refine X.iload_2 (pc := 38) (by decide +kernel) ?_
      obtain ⟨x8, hv9, h⟩ := bnd1_some h
      refine X.callVi (pc := 39) (nc := 0) (ns := 0) (c_Mod_isEnd hE (dle hd (Nat.le_of_ble_eq_true rfl)) hS hv9) cv_Mod_264 (by decide +kernel) hS ⟨by decide, rfl⟩ (ddd hd (Nat.le_of_ble_eq_true rfl)) rfl (Nat.le_of_ble_eq_true rfl) rfl rfl ?_
      obtain ⟨L11, hr12, h⟩ := bnd1_some h
      have hj13 : X E y_Mod_goesBack b_Mod_goesBack 9 none tg d 0 0 135 [some (.ref (e_b E + v0)), some (.int v1), some (.int v2), some (.int v3), some (.int v4), none, none, none, none] [] S I L11 R n K := by
        refine X.iinc_4 (pc := 135) (z := 1) (v := 1) ic_1 (by decide +kernel) (by decide) rfl ?_
        refine X.goto (pc := 138) (off := (-118)) (tgt := 20) (by decide +kernel) rfl ?_
        exact ih hS h hk
      have h := hr12
      rcases ifb_some h with ⟨hq10, h⟩ | ⟨hq10, h⟩
      · refine X.if_eq_t (pc := 42) (off := 24) (tgt := 66) hq10 rfl (by decide +kernel) ?_
        refine X.aload_0 (pc := 66) (by decide +kernel) ?_
        refine X.iload_2 (pc := 67) (by decide +kernel) ?_
        refine X.iload_3 (pc := 68) (by decide +kernel) ?_
        refine X.iload_4 (pc := 69) (by decide +kernel) ?_
        refine X.iconst (pc := 71) (i := 3) (v := 3) ic_3 (by decide +kernel) ?_
        refine X.aload_0 (pc := 72) (by decide +kernel) ?_
        obtain ⟨b14, hb14, h⟩ := bnd1_some h
        refine X.getR (pc := 73) (k := 28) fw_Mod_84 (by decide +kernel) (fun _ => rfl) hS hb14 ?_
        obtain ⟨x15, hv16, h⟩ := bnd1_some h
        refine X.callVl (pc := 76) (nc := 0) (ns := 0) (c_Mod_comesOf hE (dle hd (Nat.le_of_ble_eq_true rfl)) hS hv16) cv_Mod_310 (by decide +kernel) hS ⟨by decide, rfl⟩ (ddd hd (Nat.le_of_ble_eq_true rfl)) rfl (Nat.le_of_ble_eq_true rfl) rfl rfl ?_
        refine X.lstore_6 (pc := 79) (by decide +kernel) (by decide) rfl ?_
        refine X.iconst (pc := 81) (i := 0) (v := 0) ic_0 (by decide +kernel) ?_
        refine X.istore_8 (pc := 82) (by decide +kernel) (by decide) rfl ?_
        obtain ⟨x25, hv26, h⟩ := bnd1_some h
        refine xl_Mod_goesBack_84 hE hd hS hv26 ?_
        refine X.aload_0 (pc := 126) (by decide +kernel) ?_
        obtain ⟨b27, hb27, h⟩ := bnd1_some h
        refine X.getR (pc := 127) (k := 29) fw_Mod_87 (by decide +kernel) (fun _ => rfl) hS hb27 ?_
        refine X.iload_5 (pc := 130) (by decide +kernel) ?_
        refine X.lload_6 (pc := 132) (by decide +kernel) ?_
        obtain ⟨hc28, h⟩ := asrt_some h
        obtain ⟨hi29, h⟩ := asrt_some h
        refine X.lastore (pc := 134) (by decide +kernel) hc28 hi29 ?_
        refine X.nameML (fun L30 hL30 => ?_)
        have h := lt_at hL30 h
        have j0 := Option.some.inj h
        subst j0
        refine X.fgt (o' := [some (.ref (e_b E + v0)), some (.int v1), some (.int v2), some (.int v3), some (.int v4), none, none, none, none]) ⟨rfl, ⟨rfl, ⟨rfl, ⟨rfl, ⟨rfl, trivial⟩⟩⟩⟩⟩ ?_
        exact hj13
      · refine X.if_eq_f (pc := 42) (off := 24) (tgt := 66) hq10 rfl (by decide +kernel) ?_
        refine X.aload_0 (pc := 45) (by decide +kernel) ?_
        obtain ⟨b31, hb31, h⟩ := bnd1_some h
        refine X.getR (pc := 46) (k := 29) fw_Mod_87 (by decide +kernel) (fun _ => rfl) hS hb31 ?_
        refine X.iload_5 (pc := 49) (by decide +kernel) ?_
        refine X.ldc2 (pc := 51) (x := 302) (v := 100) ld_Mod_302 (by decide +kernel) ?_
        refine X.aload_0 (pc := 54) (by decide +kernel) ?_
        obtain ⟨b32, hb32, h⟩ := bnd1_some h
        refine X.getR (pc := 55) (k := 28) fw_Mod_84 (by decide +kernel) (fun _ => rfl) hS hb32 ?_
        refine X.iload_5 (pc := 58) (by decide +kernel) ?_
        obtain ⟨hc34, h⟩ := asrt_some h
        obtain ⟨hi33, h⟩ := asrt_some h
        refine X.laload (pc := 60) (by decide +kernel) hc34 hi33 ?_
        refine X.lmul (pc := 61) (by decide +kernel) ?_
        refine X.nameL (fun x35 hx35 => ?_)
        have h := lt_at hx35 h
        obtain ⟨hc36, h⟩ := asrt_some h
        obtain ⟨hi37, h⟩ := asrt_some h
        refine X.lastore (pc := 62) (by decide +kernel) hc36 hi37 ?_
        refine X.nameML (fun L38 hL38 => ?_)
        have h := lt_at hL38 h
        refine X.goto (pc := 63) (off := 72) (tgt := 135) (by decide +kernel) rfl ?_
        have j0 := Option.some.inj h
        subst j0
        refine X.fgt (o' := [some (.ref (e_b E + v0)), some (.int v1), some (.int v2), some (.int v3), some (.int v4), none, none, none, none]) ⟨rfl, ⟨rfl, ⟨rfl, ⟨rfl, ⟨rfl, trivial⟩⟩⟩⟩⟩ ?_
        exact hj13
set_option maxRecDepth 100000 in
noncomputable def l_Mod_goesBack_12 (g : Nat) (S : MS) (R : MR) (I : MI) (v0 : Nat) (v1 : Int32) (v2 : Int32) : Nat → ML → Int32 → Option ML
  | 0, _, _ => none
  | f + 1, L, v3 =>
    ifb (4 ≤ v3)
      (some L)
      (bnd1 (l_Mod_goesBack_20 g S R I v0 v1 v2 v3 g L 0) fun L39 =>
      l_Mod_goesBack_12 g S R I v0 v1 v2 f L39 (v3 + 1))
set_option maxRecDepth 100000 in
set_option maxHeartbeats 4000000 in
theorem xl_Mod_goesBack_12 {E : Env} (hE : OKE E) {tg : Bool} {d : Nat} (hd : 3 ≤ d) {g : Nat} {S : MS} {I : MI} {R : MR} {n : Nat} {v0 : Nat} {v1 : Int32} {v2 : Int32} {K : KT} :
    ∀ {f : Nat} {L : ML} {v3 : Int32} {L' : ML}, (S v0).1 = 12 → l_Mod_goesBack_12 g S R I v0 v1 v2 f L v3 = some L' → X E y_Mod_goesBack b_Mod_goesBack 9 none tg d 0 0 147 [some (.ref (e_b E + v0)), some (.int v1), some (.int v2), none, none, none, none, none, none] [] S I L' R n K → X E y_Mod_goesBack b_Mod_goesBack 9 none tg d 0 0 12 [some (.ref (e_b E + v0)), some (.int v1), some (.int v2), some (.int v3), none, none, none, none, none] [] S I L R n K := by
  intro f
  induction f with
  | zero =>
    intro L v3 L' hS h hk
    rw [l_Mod_goesBack_12] at h
    cases h
  | succ f ih =>
    intro L v3 L' hS h hk
    rw [l_Mod_goesBack_12] at h
    refine X.iload_3 (pc := 12) (by decide +kernel) ?_
    refine X.iconst (pc := 13) (i := 4) (v := 4) ic_4 (by decide +kernel) ?_
    rcases ifb_some h with ⟨hq4, h⟩ | ⟨hq4, h⟩
    · refine X.icmp_ge_t (pc := 14) (off := 133) (tgt := 147) hq4 rfl (by decide +kernel) ?_
      have j0 := Option.some.inj h
      subst j0
      refine X.fgt (o' := [some (.ref (e_b E + v0)), some (.int v1), some (.int v2), none, none, none, none, none, none]) ⟨rfl, ⟨rfl, ⟨rfl, trivial⟩⟩⟩ ?_
      exact hk
    · refine X.icmp_ge_f (pc := 14) (off := 133) (tgt := 147) hq4 rfl (by decide +kernel) ?_
      refine X.iconst (pc := 17) (i := 0) (v := 0) ic_0 (by decide +kernel) ?_
      refine X.istore_4 (pc := 18) (by decide +kernel) (by decide) rfl ?_
      obtain ⟨L39, hv40, h⟩ := bnd1_some h
      refine xl_Mod_goesBack_20 hE hd hS hv40 ?_
      refine X.iinc_3 (pc := 141) (z := 1) (v := 1) ic_1 (by decide +kernel) (by decide) rfl ?_
      refine X.goto (pc := 144) (off := (-132)) (tgt := 12) (by decide +kernel) rfl ?_
      exact ih hS h hk
set_option maxRecDepth 100000 in
noncomputable def l_Mod_goesBack_2 (g : Nat) (S : MS) (R : MR) (I : MI) (v0 : Nat) (v1 : Int32) : Nat → ML → Int32 → Option ML
  | 0, _, _ => none
  | f + 1, L, v2 =>
    bnd1 (f_Mod_cells S I v0) fun x1 =>
    ifb (x1 ≤ v2)
      (some L)
      (bnd1 (l_Mod_goesBack_12 g S R I v0 v1 v2 g L 0) fun L41 =>
      l_Mod_goesBack_2 g S R I v0 v1 f L41 (v2 + 1))
set_option maxRecDepth 100000 in
set_option maxHeartbeats 4000000 in
theorem xl_Mod_goesBack_2 {E : Env} (hE : OKE E) {tg : Bool} {d : Nat} (hd : 3 ≤ d) {g : Nat} {S : MS} {I : MI} {R : MR} {n : Nat} {v0 : Nat} {v1 : Int32} {K : KT} :
    ∀ {f : Nat} {L : ML} {v2 : Int32} {L' : ML}, (S v0).1 = 12 → l_Mod_goesBack_2 g S R I v0 v1 f L v2 = some L' → X E y_Mod_goesBack b_Mod_goesBack 9 none tg d 0 0 153 [some (.ref (e_b E + v0)), none, none, none, none, none, none, none, none] [] S I L' R n K → X E y_Mod_goesBack b_Mod_goesBack 9 none tg d 0 0 2 [some (.ref (e_b E + v0)), some (.int v1), some (.int v2), none, none, none, none, none, none] [] S I L R n K := by
  intro f
  induction f with
  | zero =>
    intro L v2 L' hS h hk
    rw [l_Mod_goesBack_2] at h
    cases h
  | succ f ih =>
    intro L v2 L' hS h hk
    rw [l_Mod_goesBack_2] at h
    refine X.iload_2 (pc := 2) (by decide +kernel) ?_
    refine X.aload_0 (pc := 3) (by decide +kernel) ?_
    obtain ⟨x1, hv2, h⟩ := bnd1_some h
    refine X.callVi (pc := 4) (nc := 0) (ns := 0) (c_Mod_cells hE (dle hd (Nat.le_of_ble_eq_true rfl)) hS hv2) cv_Mod_148 (by decide +kernel) hS ⟨by decide, rfl⟩ (ddd hd (Nat.le_of_ble_eq_true rfl)) rfl (Nat.le_of_ble_eq_true rfl) rfl rfl ?_
    rcases ifb_some h with ⟨hq3, h⟩ | ⟨hq3, h⟩
    · refine X.icmp_ge_t (pc := 7) (off := 146) (tgt := 153) hq3 rfl (by decide +kernel) ?_
      have j0 := Option.some.inj h
      subst j0
      refine X.fgt (o' := [some (.ref (e_b E + v0)), none, none, none, none, none, none, none, none]) ⟨rfl, trivial⟩ ?_
      exact hk
    · refine X.icmp_ge_f (pc := 7) (off := 146) (tgt := 153) hq3 rfl (by decide +kernel) ?_
      refine X.iconst (pc := 10) (i := 0) (v := 0) ic_0 (by decide +kernel) ?_
      refine X.istore_3 (pc := 11) (by decide +kernel) (by decide) rfl ?_
      obtain ⟨L41, hv42, h⟩ := bnd1_some h
      refine xl_Mod_goesBack_12 hE hd hS hv42 ?_
      refine X.iinc_2 (pc := 147) (z := 1) (v := 1) ic_1 (by decide +kernel) (by decide) rfl ?_
      refine X.goto (pc := 150) (off := (-148)) (tgt := 2) (by decide +kernel) rfl ?_
      exact ih hS h hk
set_option maxRecDepth 100000 in
noncomputable def l_Mod_goesBack_155 (S : MS) (R : MR) (v0 : Nat) : Nat → ML → Int32 → Option ML
  | 0, _, _ => none
  | f + 1, L, v2 =>
    ifb (1440 ≤ v2)
      (some L)
      (bnd1 (R v0 28) fun b46 =>
      bnd1 (R v0 29) fun b47 =>
      asrt ((S b47).1 = 21) <|
      asrt (vp_in v2 (S b47).2) <|
      lt (L b47 (Int32.toNatClampNeg v2)) fun (x50 : Int64) =>
      asrt ((S b46).1 = 21) <|
      asrt (vp_in v2 (S b46).2) <|
      lt (wL L b46 (Int32.toNatClampNeg v2) x50) fun (L53 : ML) =>
      l_Mod_goesBack_155 S R v0 f L53 (v2 + 1))
set_option maxRecDepth 100000 in
set_option maxHeartbeats 4000000 in
theorem xl_Mod_goesBack_155 {E : Env} (hE : OKE E) {tg : Bool} {d : Nat} (hd : 3 ≤ d) {S : MS} {I : MI} {R : MR} {n : Nat} {v0 : Nat} {K : KT} :
    ∀ {f : Nat} {L : ML} {v2 : Int32} {L' : ML}, (S v0).1 = 12 → l_Mod_goesBack_155 S R v0 f L v2 = some L' → X E y_Mod_goesBack b_Mod_goesBack 9 none tg d 0 0 180 [none, none, none, none, none, none, none, none, none] [] S I L' R n K → X E y_Mod_goesBack b_Mod_goesBack 9 none tg d 0 0 155 [some (.ref (e_b E + v0)), none, some (.int v2), none, none, none, none, none, none] [] S I L R n K := by
  intro f
  induction f with
  | zero =>
    intro L v2 L' hS h hk
    rw [l_Mod_goesBack_155] at h
    cases h
  | succ f ih =>
    intro L v2 L' hS h hk
    rw [l_Mod_goesBack_155] at h
    refine X.iload_2 (pc := 155) (by decide +kernel) ?_
    refine X.sipush (pc := 156) (i := 1440) (v := 1440) sp_1440 (by decide +kernel) ?_
    rcases ifb_some h with ⟨hq45, h⟩ | ⟨hq45, h⟩
    · refine X.icmp_ge_t (pc := 159) (off := 21) (tgt := 180) hq45 rfl (by decide +kernel) ?_
      have j0 := Option.some.inj h
      subst j0
      refine X.fgt (o' := [none, none, none, none, none, none, none, none, none]) trivial ?_
      exact hk
    · refine X.icmp_ge_f (pc := 159) (off := 21) (tgt := 180) hq45 rfl (by decide +kernel) ?_
      refine X.aload_0 (pc := 162) (by decide +kernel) ?_
      obtain ⟨b46, hb46, h⟩ := bnd1_some h
      refine X.getR (pc := 163) (k := 28) fw_Mod_84 (by decide +kernel) (fun _ => rfl) hS hb46 ?_
      refine X.iload_2 (pc := 166) (by decide +kernel) ?_
      refine X.aload_0 (pc := 167) (by decide +kernel) ?_
      obtain ⟨b47, hb47, h⟩ := bnd1_some h
      refine X.getR (pc := 168) (k := 29) fw_Mod_87 (by decide +kernel) (fun _ => rfl) hS hb47 ?_
      refine X.iload_2 (pc := 171) (by decide +kernel) ?_
      obtain ⟨hc49, h⟩ := asrt_some h
      obtain ⟨hi48, h⟩ := asrt_some h
      refine X.laload (pc := 172) (by decide +kernel) hc49 hi48 ?_
      refine X.nameL (fun x50 hx50 => ?_)
      have h := lt_at hx50 h
      obtain ⟨hc51, h⟩ := asrt_some h
      obtain ⟨hi52, h⟩ := asrt_some h
      refine X.lastore (pc := 173) (by decide +kernel) hc51 hi52 ?_
      refine X.nameML (fun L53 hL53 => ?_)
      have h := lt_at hL53 h
      refine X.iinc_2 (pc := 174) (z := 1) (v := 1) ic_1 (by decide +kernel) (by decide) rfl ?_
      refine X.goto (pc := 177) (off := (-22)) (tgt := 155) (by decide +kernel) rfl ?_
      exact ih hS h hk
set_option maxRecDepth 100000 in
noncomputable def f_Mod_goesBack (g : Nat) (S : MS) (R : MR) (I : MI) (L : ML) (t : Nat) (p1 : Int32) : Option ML :=
  bnd1 (l_Mod_goesBack_2 g S R I t p1 g L 0) fun L43 =>
  bnd1 (l_Mod_goesBack_155 S R t g L43 0) fun L54 =>
  some L54
set_option maxRecDepth 100000 in
set_option maxHeartbeats 4000000 in
theorem c_Mod_goesBack {E : Env} (hE : OKE E) {tg : Bool} {d : Nat} (hd : 3 ≤ d) {g : Nat} {S : MS} {I : MI} {L : ML} {R : MR} {n : Nat} {t : Nat} {p1 : Int32} {L' : ML} (hS : (S t).1 = 12) (h : f_Mod_goesBack g S R I L t p1 = some L') : C E y_Mod_goesBack b_Mod_goesBack 9 none tg d 0 0 [.ref (e_b E + t), .int p1] S I L R n (Kq none S I L' R n) := by
  refine C.of (o := [some (.ref (e_b E + t)), some (.int p1), none, none, none, none, none, none, none]) (by decide) rfl (Nat.le_of_ble_eq_true rfl) ?_
  rw [f_Mod_goesBack] at h
  refine X.iconst (pc := 0) (i := 0) (v := 0) ic_0 (by decide +kernel) ?_
  refine X.istore_2 (pc := 1) (by decide +kernel) (by decide) rfl ?_
  obtain ⟨L43, hv44, h⟩ := bnd1_some h
  refine xl_Mod_goesBack_2 hE hd hS hv44 ?_
  refine X.iconst (pc := 153) (i := 0) (v := 0) ic_0 (by decide +kernel) ?_
  refine X.istore_2 (pc := 154) (by decide +kernel) (by decide) rfl ?_
  obtain ⟨L54, hv55, h⟩ := bnd1_some h
  refine xl_Mod_goesBack_155 hE hd hS hv55 ?_
  have j0 := Option.some.inj h
  subst j0
  exact X.vreturn (pc := 180) (by decide +kernel) rfl ⟨rfl, rfl, rfl, rfl, rfl, rfl⟩
set_option maxRecDepth 100000 in
noncomputable def l_Mod_works_8 (g : Nat) (S : MS) (R : MR) (I : MI) (v0 : Nat) (v1 : Int32) (v3 : Int32) : Nat → ML → Int32 → Option ML
  | 0, _, _ => none
  | f + 1, L, v4 =>
    ifb (v1 ≤ v4)
      (some L)
      (bnd1 (f_Mod_goesBack g S R I L v0 v3) fun L4 =>
      l_Mod_works_8 g S R I v0 v1 v3 f L4 (v4 + 1))
set_option maxRecDepth 100000 in
set_option maxHeartbeats 4000000 in
theorem xl_Mod_works_8 {E : Env} (hE : OKE E) {tg : Bool} {d : Nat} (hd : 4 ≤ d) {g : Nat} {S : MS} {I : MI} {R : MR} {n : Nat} {v0 : Nat} {v1 : Int32} {v3 : Int32} {K : KT} :
    ∀ {f : Nat} {L : ML} {v4 : Int32} {L' : ML}, (S v0).1 = 12 → l_Mod_works_8 g S R I v0 v1 v3 f L v4 = some L' → X E y_Mod_works b_Mod_works 5 none tg d 0 0 25 [none, none, none, none, none] [] S I L' R n K → X E y_Mod_works b_Mod_works 5 none tg d 0 0 8 [some (.ref (e_b E + v0)), some (.int v1), none, some (.int v3), some (.int v4)] [] S I L R n K := by
  intro f
  induction f with
  | zero =>
    intro L v4 L' hS h hk
    rw [l_Mod_works_8] at h
    cases h
  | succ f ih =>
    intro L v4 L' hS h hk
    rw [l_Mod_works_8] at h
    refine X.iload_4 (pc := 8) (by decide +kernel) ?_
    refine X.iload_1 (pc := 10) (by decide +kernel) ?_
    rcases ifb_some h with ⟨hq3, h⟩ | ⟨hq3, h⟩
    · refine X.icmp_ge_t (pc := 11) (off := 14) (tgt := 25) hq3 rfl (by decide +kernel) ?_
      have j0 := Option.some.inj h
      subst j0
      refine X.fgt (o' := [none, none, none, none, none]) trivial ?_
      exact hk
    · refine X.icmp_ge_f (pc := 11) (off := 14) (tgt := 25) hq3 rfl (by decide +kernel) ?_
      refine X.aload_0 (pc := 14) (by decide +kernel) ?_
      refine X.iload_3 (pc := 15) (by decide +kernel) ?_
      obtain ⟨L4, hv5, h⟩ := bnd1_some h
      refine X.callVv (pc := 16) (nc := 0) (ns := 0) (c_Mod_goesBack hE (dle hd (Nat.le_of_ble_eq_true rfl)) hS hv5) cv_Mod_321 (by decide +kernel) hS ⟨by decide, rfl⟩ (ddd hd (Nat.le_of_ble_eq_true rfl)) rfl (Nat.le_of_ble_eq_true rfl) rfl rfl ?_
      refine X.iinc_4 (pc := 19) (z := 1) (v := 1) ic_1 (by decide +kernel) (by decide) rfl ?_
      refine X.goto (pc := 22) (off := (-14)) (tgt := 8) (by decide +kernel) rfl ?_
      exact ih hS h hk
set_option maxRecDepth 100000 in
noncomputable def f_Mod_works (g : Nat) (S : MS) (R : MR) (I : MI) (L : ML) (t : Nat) (p1 : Int32) (p2 : Int32) (p3 : Int32) : Option ML :=
  bnd1 (f_Mod_laysOut g S R I L t p2) fun L1 =>
  bnd1 (l_Mod_works_8 g S R I t p1 p3 g L1 0) fun L6 =>
  some L6
set_option maxRecDepth 100000 in
set_option maxHeartbeats 4000000 in
theorem c_Mod_works {E : Env} (hE : OKE E) {tg : Bool} {d : Nat} (hd : 4 ≤ d) {g : Nat} {S : MS} {I : MI} {L : ML} {R : MR} {n : Nat} {t : Nat} {p1 : Int32} {p2 : Int32} {p3 : Int32} {L' : ML} (hS : (S t).1 = 12) (h : f_Mod_works g S R I L t p1 p2 p3 = some L') : C E y_Mod_works b_Mod_works 5 none tg d 0 0 [.ref (e_b E + t), .int p1, .int p2, .int p3] S I L R n (Kq none S I L' R n) := by
  refine C.of (o := [some (.ref (e_b E + t)), some (.int p1), some (.int p2), some (.int p3), none]) (by decide) rfl (Nat.le_of_ble_eq_true rfl) ?_
  rw [f_Mod_works] at h
  refine X.aload_0 (pc := 0) (by decide +kernel) ?_
  refine X.iload_2 (pc := 1) (by decide +kernel) ?_
  obtain ⟨L1, hv2, h⟩ := bnd1_some h
  refine X.callVv (pc := 2) (nc := 0) (ns := 0) (c_Mod_laysOut hE (dle hd (Nat.le_of_ble_eq_true rfl)) hS hv2) cv_Mod_317 (by decide +kernel) hS ⟨by decide, rfl⟩ (ddd hd (Nat.le_of_ble_eq_true rfl)) rfl (Nat.le_of_ble_eq_true rfl) rfl rfl ?_
  refine X.iconst (pc := 5) (i := 0) (v := 0) ic_0 (by decide +kernel) ?_
  refine X.istore_4 (pc := 6) (by decide +kernel) (by decide) rfl ?_
  obtain ⟨L6, hv7, h⟩ := bnd1_some h
  refine X.fgt (o' := [some (.ref (e_b E + t)), some (.int p1), none, some (.int p3), some (.int 0)]) ⟨rfl, ⟨rfl, ⟨rfl, ⟨rfl, trivial⟩⟩⟩⟩ ?_
  refine xl_Mod_works_8 hE hd hS hv7 ?_
  have j0 := Option.some.inj h
  subst j0
  exact X.vreturn (pc := 25) (by decide +kernel) rfl ⟨rfl, rfl, rfl, rfl, rfl, rfl⟩
set_option maxRecDepth 100000 in
noncomputable def f_Mod_chanceNow (S : MS) (R : MR) (I : MI) (L : ML) (t : Nat) (p1 : Int32) : Option Int64 :=
  bnd1 (R t 28) fun b1 =>
  bnd1 (f_Mod_stateOf t (I t 7) (I t 8) p1) fun x2 =>
  asrt ((S b1).1 = 21) <|
  asrt (vp_in x2 (S b1).2) <|
  lt (L b1 (Int32.toNatClampNeg x2)) fun (x6 : Int64) =>
  some x6
set_option maxRecDepth 100000 in
set_option maxHeartbeats 4000000 in
theorem c_Mod_chanceNow {E : Env} (hE : OKE E) {tg : Bool} {d : Nat} (hd : 1 ≤ d) {S : MS} {I : MI} {L : ML} {R : MR} {n : Nat} {t : Nat} {p1 : Int32} {v : Int64} (hS : (S t).1 = 12) (h : f_Mod_chanceNow S R I L t p1 = some v) : C E y_Mod_chanceNow b_Mod_chanceNow 2 (some .long) tg d 0 0 [.ref (e_b E + t), .int p1] S I L R n (Kq (some (.long v)) S I L R n) := by
  refine C.of (o := [some (.ref (e_b E + t)), some (.int p1)]) (by decide) rfl (Nat.le_of_ble_eq_true rfl) ?_
  rw [f_Mod_chanceNow] at h
  refine X.aload_0 (pc := 0) (by decide +kernel) ?_
  obtain ⟨b1, hb1, h⟩ := bnd1_some h
  refine X.getR (pc := 1) (k := 28) fw_Mod_84 (by decide +kernel) (fun _ => rfl) hS hb1 ?_
  refine X.aload_0 (pc := 4) (by decide +kernel) ?_
  refine X.aload_0 (pc := 5) (by decide +kernel) ?_
  refine X.getI (pc := 6) (k := 7) fw_Mod_204 (by decide +kernel) (fun _ => rfl) hS ?_
  refine X.aload_0 (pc := 9) (by decide +kernel) ?_
  refine X.getI (pc := 10) (k := 8) fw_Mod_207 (by decide +kernel) (fun _ => rfl) hS ?_
  refine X.iload_1 (pc := 13) (by decide +kernel) ?_
  obtain ⟨x2, hv3, h⟩ := bnd1_some h
  refine X.callVi (pc := 14) (nc := 0) (ns := 0) (c_Mod_stateOf hE (dle hd (Nat.le_of_ble_eq_true rfl)) hS hv3) cv_Mod_304 (by decide +kernel) hS ⟨by decide, rfl⟩ (ddd hd (Nat.le_of_ble_eq_true rfl)) rfl (Nat.le_of_ble_eq_true rfl) rfl rfl ?_
  obtain ⟨hc5, h⟩ := asrt_some h
  obtain ⟨hi4, h⟩ := asrt_some h
  refine X.laload (pc := 17) (by decide +kernel) hc5 hi4 ?_
  refine X.nameL (fun x6 hx6 => ?_)
  have h := lt_at hx6 h
  have j0 := Option.some.inj h
  subst j0
  exact X.lreturn (pc := 18) (by decide +kernel) rfl ⟨rfl, rfl, rfl, rfl, rfl, rfl⟩
set_option maxRecDepth 100000 in
noncomputable def l_Mod_whole_4 (v0 : Int32) : Nat → Int64 → Int32 → Option Int64
  | 0, _, _ => none
  | f + 1, v1, v3 =>
    ifb (v0 ≤ v3)
      (some v1)
      (lt (v1 * 100) fun (x2 : Int64) =>
      l_Mod_whole_4 v0 f x2 (v3 + 1))
set_option maxRecDepth 100000 in
set_option maxHeartbeats 4000000 in
theorem xl_Mod_whole_4 {E : Env} (hE : OKE E) {tg : Bool} {d : Nat} (hd : 0 ≤ d) {S : MS} {I : MI} {L : ML} {R : MR} {n : Nat} {v0 : Int32} {K : KT} :
    ∀ {f : Nat}  {v1 : Int64} {v3 : Int32} {o1 : Int64}, l_Mod_whole_4 v0 f v1 v3 = some o1 → X E y_Mod_whole b_Mod_whole 4 (some .long) tg d 0 0 21 [none, some (.long o1), none, none] [] S I L R n K → X E y_Mod_whole b_Mod_whole 4 (some .long) tg d 0 0 4 [some (.int v0), some (.long v1), none, some (.int v3)] [] S I L R n K := by
  intro f
  induction f with
  | zero =>
    intro v1 v3 o1 h hk
    rw [l_Mod_whole_4] at h
    cases h
  | succ f ih =>
    intro v1 v3 o1 h hk
    rw [l_Mod_whole_4] at h
    refine X.iload_3 (pc := 4) (by decide +kernel) ?_
    refine X.iload_0 (pc := 5) (by decide +kernel) ?_
    rcases ifb_some h with ⟨hq1, h⟩ | ⟨hq1, h⟩
    · refine X.icmp_ge_t (pc := 6) (off := 15) (tgt := 21) hq1 rfl (by decide +kernel) ?_
      have j0 := Option.some.inj h
      subst j0
      refine X.fgt (o' := [none, some (.long v1), none, none]) ⟨rfl, trivial⟩ ?_
      exact hk
    · refine X.icmp_ge_f (pc := 6) (off := 15) (tgt := 21) hq1 rfl (by decide +kernel) ?_
      refine X.lload_1 (pc := 9) (by decide +kernel) ?_
      refine X.ldc2 (pc := 10) (x := 302) (v := 100) ld_Mod_302 (by decide +kernel) ?_
      refine X.lmul (pc := 13) (by decide +kernel) ?_
      refine X.nameL (fun x2 hx2 => ?_)
      have h := lt_at hx2 h
      refine X.lstore_1 (pc := 14) (by decide +kernel) (by decide) rfl ?_
      refine X.iinc_3 (pc := 15) (z := 1) (v := 1) ic_1 (by decide +kernel) (by decide) rfl ?_
      refine X.goto (pc := 18) (off := (-14)) (tgt := 4) (by decide +kernel) rfl ?_
      exact ih h hk
set_option maxRecDepth 100000 in
noncomputable def f_Mod_whole (g : Nat) (p1 : Int32) : Option Int64 :=
  bnd1 (l_Mod_whole_4 p1 g 1 0) fun x3 =>
  some x3
set_option maxRecDepth 100000 in
set_option maxHeartbeats 4000000 in
theorem c_Mod_whole {E : Env} (hE : OKE E) {tg : Bool} {d : Nat} (hd : 0 ≤ d) {g : Nat} {S : MS} {I : MI} {L : ML} {R : MR} {n : Nat} {p1 : Int32} {v : Int64} (h : f_Mod_whole g p1 = some v) : C E y_Mod_whole b_Mod_whole 4 (some .long) tg d 0 0 [.int p1] S I L R n (Kq (some (.long v)) S I L R n) := by
  refine C.of (o := [some (.int p1), none, none, none]) (by decide) rfl (Nat.le_of_ble_eq_true rfl) ?_
  rw [f_Mod_whole] at h
  refine X.lconst (pc := 0) (i := 1) (v := 1) rfl (by decide +kernel) ?_
  refine X.lstore_1 (pc := 1) (by decide +kernel) (by decide) rfl ?_
  refine X.iconst (pc := 2) (i := 0) (v := 0) ic_0 (by decide +kernel) ?_
  refine X.istore_3 (pc := 3) (by decide +kernel) (by decide) rfl ?_
  obtain ⟨x3, hv4, h⟩ := bnd1_some h
  refine xl_Mod_whole_4 hE hd hv4 ?_
  refine X.lload_1 (pc := 21) (by decide +kernel) ?_
  have j0 := Option.some.inj h
  subst j0
  exact X.lreturn (pc := 22) (by decide +kernel) rfl ⟨rfl, rfl, rfl, rfl, rfl, rfl⟩
