section BJ
variable {W H m s0 n k hd h0 N b c h s B : Nat} {K w : Nat → Nat} {e : Nat → Int} {I I' : MI} {L L' L0 : ML} {R : MR} {p : Bool} {fe : Nat} {f f' A M M' : Nat → Int} {x : Int}
theorem e_spot {c0 : Nat} (h0 : c0 < 36) (c : Nat) : eF (fw 0 0 0 0) (nI c0) K c = if c = c0 then 1 else 0 := by
  unfold eF
  rw [show (if K c = 3 then fw 0 0 0 0 1 else 0) = 0 by split <;> rfl, show (if K c = 1 then fw 0 0 0 0 2 else 0) = 0 by split <;> rfl, show fw 0 0 0 0 0 = 0 from rfl]
  by_cases h : c = c0
  · subst h
    rw [if_pos ⟨h0, rfl⟩, if_pos rfl]
    rfl
  · rw [if_neg h, if_neg (fun z => h ((eq32 (by omega) (by omega)).mp z.2))]
    rfl
theorem e_none (c : Nat) : eF (fw 0 0 0 1) (-1) K c = 0 := by
  rw [eF_m1, show (if K c = 3 then fw 0 0 0 1 1 else 0) = 0 by split <;> rfl, show (if K c = 1 then fw 0 0 0 1 2 else 0) = 0 by split <;> rfl]
  rfl
theorem sm_dl {A : Nat → Int} (hs : s < n) : smI (fun r => (if r = s then 1 else 0) * A r) n = A s := by
  rw [smI_eq (f' := fun r => if r = s then A r else 0) n (fun i _ => by
    by_cases e : i = s
    · rw [if_pos e, if_pos e, Int.one_mul]
    · rw [if_neg e, if_neg e, Int.zero_mul])]
  exact smI_one n hs
def fBh : FT := [(3, some 1), (49, none), (67, some 8), (67, some 9), (67, some 10), (67, some 11), (68, some 2), (69, none), (70, none), (90, some 0), (90, some 1)]
theorem op_behind {g : Nat} (hg : 1000000000 ≤ g) (hC : Cp B I L R) (x y : Int32) : ∃ v I1 L1 R1 I2 L2, f_GWL_behind g S1 R I L 0 x y = some (v, I1, L1, R1) ∧ f_Mod_behind g S1 R1 I1 L1 90 x y = some (v, I2, L2) ∧ Cp (B + 1) I2 L2 R1 := by
  obtain ⟨⟨p, fe, hR⟩, hTx, hRw, hWg, hFe, hSh, hMk, W, H, K, hLn, hPt, hPs, hPr, hKp⟩ := hC
  obtain ⟨q, hq⟩ := id hPt
  obtain ⟨⟨⟨c, hc, k0⟩, ⟨h, hh, k1⟩, -, -⟩, c0, c1, -, -⟩ := hq.d
  obtain ⟨w, hd, hw⟩ := id hWg
  have hN := hLn.1.N36
  have f0 : Fr [(90, some 0)] I (wI I 90 0 0) := Fr.w Fr.rf rfl
  have fin : Cp (B + 1) (wI I 90 0 0) L R := by
    refine ⟨⟨_, _, hR⟩, hTx.imp fun _ h => h.imp fun _ h => h.ag (f0.ag rfl), hRw.imp fun _ h => h.imp fun _ h => h.ag (f0.ag rfl) (fun _ _ _ => rfl), hWg.imp fun _ h => h.imp fun _ h => h.ag (f0.ag rfl), hFe.imp fun _ h => h.ag (f0.ag rfl), hSh.ag (f0.ag rfl), hMk.imp fun _ h => h.ag (f0.ag rfl), W, H, K, hLn.ag (f0.ag rfl), hPt.imp fun _ h => h.ag (f0.ag rfl), hPs.imp fun _ h => h.imp fun _ h => h.imp fun _ h => h.ag (f0.ag rfl), hPr.imp fun _ h => h.imp fun _ h => h.imp fun _ h => h.ag (f0.ag rfl), hKp.ag (f0.ag rfl)⟩
  rcases ix3 x (W * H) (by omega) with hx | ⟨c', hc', rfl⟩
  · refine ⟨-1, I, L, R, wI I 90 0 0, L, ?_, ?_, fin⟩
    · unfold f_GWL_behind
      rw [r_0_2 hR, bnd1_c, t_60, asrt_pos rfl, has_out hLn.1 hx, bnd1_c, ifb_pos rfl]
    · unfold f_Mod_behind
      rw [lt_c, isCell_out (hLn.2.1.ag (f0.ag rfl)) hx, bnd1_c, ifb_pos rfl]
  rcases len_c y (N := 8) (by omega) with ⟨hy, e0⟩ | ⟨n, hn, rfl, e0⟩
  · refine ⟨-1, I, L, R, wI I 90 0 0, L, ?_, ?_, fin⟩
    · unfold f_GWL_behind
      rw [r_0_2 hR, bnd1_c, t_60, asrt_pos rfl, has_in hLn.1 hc', bnd1_c, ifb_neg (by decide), show (8 : Int32) = nI 8 from rfl, e0, bnd1_c, ifb_pos rfl]
    · unfold f_Mod_behind
      rw [lt_c, isCell_in (hLn.2.1.ag (f0.ag rfl)) hc', bnd1_c, ifb_neg (by decide), areS_f hy, bnd1_c, ifb_pos rfl]
  have h16n := h16 n hn
  have hp := p100 n
  have hc36 : c' < 36 := by omega
  -- the class: on the spot
  obtain ⟨I15, ew, fwa, gw⟩ := want_c (I := wI I 3 1 0) 0 0 0 0
  have fA : Fr fBh I (wI I15 49 5 (nI c')) := ((Fr.w Fr.rf rfl : Fr fBh I (wI I 3 1 0)).tr (fwa.sub rfl)).w rfl
  have hFG : FG 49 (fw 0 0 0 0) (nI c') (wI I15 49 5 (nI c')) := ⟨fun i hi => by rw [wI_n (by omega)]; exact gw.1 i hi, wI_s⟩
  have hE1 : EB 1 (eF (fw 0 0 0 0) (nI c') K) (fw 0 0 0 0 3) (fw 0 0 0 0 4) := ⟨by decide, fun c => by rw [e_spot hc36]; split <;> omega, (by decide), (by decide)⟩
  obtain ⟨I24, L24, R1, p1, e1, hR1, f1, l1, c9, c10, en, -⟩ := lead_c (L := L) (n := n) (g := g) (vo := 0) (hd := hd) (by omega) hR hLn.1.1 hN.2 (hLn.1.ag (fA.ag rfl)) (hLn.2.2.1.ag (fA.ag rfl)) (hw.ag (fA.ag rfl)) hw.2.2.1 hFG hE1 (by omega) (fun j hj => pB1 j (by omega)) hn rfl (by omega) (show 4 * c + h < 4 * (W * H) by omega)
  have py1 := (payOf_c (I := I24) (v := 0) hR1 c9 c10 hn (by omega) (by omega) (en _ (by omega))).1
  rw [Nat.zero_min] at py1
  have hz1 := V_in (W := W) (H := H) (K := K) (w := w) (hd := hd) hE1 hw.1 hw.2.2.1 n (4 * c + h) 0
  obtain ⟨u1, hu1⟩ : ∃ u1, u1 = (V W H K w hd (eF (fw 0 0 0 0) (nI c') K) (fw 0 0 0 0 3) (fw 0 0 0 0 4) n (4 * c + h) 0).1 := ⟨_, rfl⟩
  have hb1 := hz1.1
  rw [← hu1] at py1 hb1
  have hpb := pB1 n hn
  obtain ⟨x1, y1, F1, F2⟩ := frac_c (g := g) (by omega) (u := u1) (d := 100 ^ n) (by unfold B63; omega) (by unfold B63; omega) hp
  have f24 : Fr fBh I I24 := fA.tr (f1.sub rfl)
  have i31 : I24 3 1 = nI 0 := by rw [f1 3 1 rfl, wI_n (by omega), fwa 3 1 rfl, wI_s]; rfl
  have G1 := F1 p1 49 R1 I24 L24 0 hR1 i31 (by omega)
  have f36 : Fr fBh I (wI I24 3 1 (nI (0 + 2))) := f24.w rfl
  -- the class: how many steps
  obtain ⟨I41, I47, L47, R2, p2, ew2, fw2, est2, e2, hR2, f2, l2, py⟩ := wlead_c (I := wI I24 3 1 (nI (0 + 2))) (L := wL (wL L24 4 0 x1) 4 (0 + 1) y1) (n := n) (g := g) (vo := 0) 0 0 0 1 ⟨by omega, fun c => by rw [e_none c]; omega, (by decide), (by decide)⟩ (by omega) hR1 (hLn.1.ag (f36.ag rfl)) (hLn.2.2.1.ag (f36.ag rfl)) (hw.ag (f36.ag rfl)) hw.2.2.1 hn hc hh ((f36 64 0 rfl).trans (c0.1.trans k0)) ((f36 64 1 rfl).trans (c1.1.trans k1)) (by omega)
  have py2 := (py 0 (by omega) (by omega) I47 rfl rfl).1
  have hz2 := V_in (W := W) (H := H) (K := K) (w := w) (hd := hd) (e := eF (fw 0 0 0 1) (-1) K) (fs := 1) (fa := 0) (M := 1) ⟨by decide, fun c => by rw [e_none c]; omega, (by decide), (by decide)⟩ hw.1 hw.2.2.1 n (4 * c + h) 0
  obtain ⟨u2, hu2⟩ : ∃ u2, u2 = (V W H K w hd (eF (fw 0 0 0 1) (-1) K) 1 0 n (4 * c + h) 0).1 := ⟨_, rfl⟩
  have hb2 := hz2.1
  rw [← hu2] at py2 hb2
  obtain ⟨x2, y2, F3, F4⟩ := frac_c (g := g) (by omega) (u := u2) (d := 100 ^ n) (by unfold B63; omega) (by unfold B63; omega) hp
  have f47 : Fr fBh I I47 := f36.tr (f2.sub rfl)
  have i47 : I47 3 1 = nI 2 := by rw [f2 3 1 rfl, wI_s]
  have G3 := F3 p2 49 R2 I47 L47 2 hR2 i47 (by omega)
  have f59 : Fr fBh I (wI I47 3 1 (nI (2 + 2))) := f47.w rfl
  -- the model
  have fM : Fr fBh I (wI (wI I47 3 1 (nI (2 + 2))) 90 0 0) := f59.w rfl
  have hMH : MH W H K w hd (wI (wI I47 3 1 (nI (2 + 2))) 90 0 0) := ⟨hLn.2.1.ag (fM.ag rfl), ⟨hw.1, fun t ht => ((hw.ag (fM.ag rfl)).2.1 t ht).2⟩, hw.2.2.1, (hw.ag (fM.ag rfl)).2.2.2.2⟩
  obtain ⟨L20, e20, l20, q20⟩ := beg24 (v1 := nI c') (v2 := nI n) (c := c) (h := h) hR2 (by omega) hh ((fM 90 7 rfl).trans (c0.2.trans k0)) ((fM 90 8 rfl).trans (c1.2.trans k1)) g 0 (wL (wL L47 4 2 x2) 4 (2 + 1) y2) (by omega) (by omega) (fun j hj => by omega)
  have hs4 : 4 * c + h < 4 * (W * H) := by omega
  obtain ⟨L41, M, e41, l41, q41, s41⟩ := loop72 (g := g) (v1 := nI c') (n := n) (A1 := fun k s => (V W H K w hd (eF (fw 0 0 0 0) (nI c') K) (fw 0 0 0 0 3) (fw 0 0 0 0 4) k s 0).1) (A2 := fun k s => (V W H K w hd (eF (fw 0 0 0 1) (-1) K) 1 0 k s 0).1) (a1 := u1) (a2 := u2) (by omega) hR2 hMH hn
    (fun k s => by
      show (V W H K w hd (eF (fw 0 0 0 0) (nI c') K) 0 0 (k + 1) s 0).1 = _
      rw [V0_s, Int.zero_mul, Int.zero_mul, Int.add_zero]
      rfl)
    (fun k s => by
      show (V W H K w hd (eF (fw 0 0 0 1) (-1) K) 1 0 (k + 1) s 0).1 = _
      rw [V0_s, Int.one_mul, Int.mul_comm])
    (fun s => by
      show (V W H K w hd (eF (fw 0 0 0 1) (-1) K) 1 0 0 s 0).1 = 0
      rw [V]
      exact e_none _)
    g 0 L20 (fun j => if j = 4 * c + h then 1 else 0) 0 (by omega) (by omega) (fun r hr => q20 r (by omega)) (by
      rw [Nat.sub_zero, hu1]
      exact sm_dl hs4) (by
      rw [Nat.sub_zero, hu2, Int.zero_mul, Int.zero_add]
      exact sm_dl hs4)
  have hsp : M (4 * c') + M (4 * c' + 1) + M (4 * c' + 2) + M (4 * c' + 3) = u1 := by
    rw [← s41, smI_4]
    rw [smI_eq (f' := fun o => if o = c' then M (4 * o) + M (4 * o + 1) + M (4 * o + 2) + M (4 * o + 3) else 0) (W * H) (fun o ho => by
      simp only [V]
      rw [e_spot hc36, e_spot hc36, e_spot hc36, e_spot hc36, show 4 * o / 4 = o by omega, show (4 * o + 1) / 4 = o by omega, show (4 * o + 2) / 4 = o by omega, show (4 * o + 3) / 4 = o by omega]
      by_cases e : o = c'
      · rw [if_pos e, if_pos e, Int.mul_one, Int.mul_one, Int.mul_one, Int.mul_one]
      · rw [if_neg e, if_neg e, Int.mul_zero, Int.mul_zero, Int.mul_zero, Int.mul_zero]
        rfl)]
    rw [smI_one (W * H) hc']
  have em := massOn_c (g := g) (by omega) hR2 hN.2 hc' q41
  rw [hsp] at em
  have f43 : Fr fBh I (wI (wI (wI I47 3 1 (nI (2 + 2))) 90 0 0) 90 1 0) := fM.w rfl
  have G2 := F2 p2 49 R2 (wI (wI (wI I47 3 1 (nI (2 + 2))) 90 0 0) 90 1 0) L41 0 hR2 wI_s (by omega)
  have f48 : Fr fBh I (wI (wI (wI (wI I47 3 1 (nI (2 + 2))) 90 0 0) 90 1 0) 90 1 (nI (0 + 2))) := f43.w rfl
  have G4 := F4 p2 49 R2 (wI (wI (wI (wI I47 3 1 (nI (2 + 2))) 90 0 0) 90 1 0) 90 1 (nI (0 + 2))) (wL (wL L41 91 0 x1) 91 (0 + 1) y1) 2 hR2 wI_s (by omega)
  have f53 : Fr fBh I (wI (wI (wI (wI (wI I47 3 1 (nI (2 + 2))) 90 0 0) 90 1 0) 90 1 (nI (0 + 2))) 90 1 (nI (2 + 2))) := f48.w rfl
  refine ⟨0, wI I47 3 1 (nI (2 + 2)), wL (wL L47 4 2 x2) 4 (2 + 1) y2, R2, wI (wI (wI (wI (wI I47 3 1 (nI (2 + 2))) 90 0 0) 90 1 0) 90 1 (nI (0 + 2))) 90 1 (nI (2 + 2)), wL (wL (wL (wL L41 91 0 x1) 91 (0 + 1) y1) 91 2 x2) 91 (2 + 1) y2, ?_, ?_, ?_⟩
  · unfold f_GWL_behind f_Numbers_begin
    rw [r_0_2 hR, bnd1_c, t_60, asrt_pos rfl, has_in hLn.1 hc', bnd1_c, ifb_neg (by decide), show (8 : Int32) = nI 8 from rfl, e0, bnd1_c, ifb_neg (by decide), r_0_1 hR, bnd1_c, t_3, asrt_pos rfl, lt_c, bnd1_c, r_0_9 hR, bnd1_c, t_49, asrt_pos rfl, show f_Fee_want S1 (wI I 3 1 0) 49 0 0 0 0 = some I15 from ew, bnd1_c, lt_c, r_0_14 hR, bnd1_c, r_0_3 hR, bnd1_c, t_64, asrt_pos rfl, stance_c ((fA 64 0 rfl).trans (c0.1.trans k0)) ((fA 64 1 rfl).trans (c1.1.trans k1)), bnd1_c, t_67, asrt_pos rfl, fA 0 6 rfl, hw.2.2.2.1, show f_Guide_lead g S1 R (wI I15 49 5 (nI c')) L 67 49 (nI n) 0 (nI hd) (nI (4 * c + h)) = some (I24, L24, R1) from e1, bnd3_c, r_0_1 hR1, bnd1_c, r_0_14 hR1, bnd1_c, t_67, asrt_pos rfl, show f_Guide_payOf S1 R1 I24 L24 67 0 = some (iL u1) from py1, bnd1_c, hund_c (by omega), bnd1_c, t_3, asrt_pos rfl, G1, bnd2_c, r_0_9 hR1, bnd1_c, t_49, asrt_pos rfl, show f_Fee_want S1 (wI I24 3 1 (nI (0 + 2))) 49 0 0 0 1 = some I41 from ew2, bnd1_c, r_0_3 hR1, bnd1_c, t_64, asrt_pos rfl, est2, bnd1_c, fw2 0 6 rfl, f36 0 6 rfl, hw.2.2.2.1, show f_Guide_lead g S1 R1 I41 (wL (wL L24 4 0 x1) 4 (0 + 1) y1) 67 49 (nI n) 0 (nI hd) (nI (4 * c + h)) = some (I47, L47, R2) from e2, bnd3_c, r_0_1 hR2, bnd1_c, r_0_14 hR2, bnd1_c, t_67, asrt_pos rfl, show f_Guide_payOf S1 R2 I47 L47 67 0 = some (iL u2) from py2, bnd1_c, bnd1_c, t_3, asrt_pos rfl, G3, bnd2_c]
  · unfold f_Mod_behind
    rw [lt_c, isCell_in hMH.1 hc', bnd1_c, ifb_neg (by decide), areS_t hn, bnd1_c, ifb_neg (by decide), show l_Mod_behind_24 S1 R2 (wI (wI I47 3 1 (nI (2 + 2))) 90 0 0) 90 (nI c') (nI n) g (wL (wL L47 4 2 x2) 4 (2 + 1) y2) 0 = some L20 from e20, bnd1_c, show l_Mod_behind_72 g S1 R2 (wI (wI I47 3 1 (nI (2 + 2))) 90 0 0) 90 (nI c') (nI n) g L20 0 0 = some (iL u2, L41) from e41, bnd2_c, lt_c, em, bnd1_c, whole_c (by omega) hn, bnd1_c, G2, bnd2_c, bnd1_c, G4, bnd2_c]
  · refine ⟨⟨_, _, hR2⟩, hTx.imp fun _ h => h.imp fun _ h => h.ag (f53.ag rfl), ?_, hWg.imp fun _ h => h.imp fun _ h => h.ag (f53.ag rfl), hFe.imp fun _ h => h.ag (f53.ag rfl), hSh.ag (f53.ag rfl), hMk.imp fun _ h => h.ag (f53.ag rfl), W, H, K, hLn.ag (f53.ag rfl), hPt.imp fun _ h => h.ag (f53.ag rfl), hPs.imp fun _ h => h.imp fun _ h => h.imp fun _ h => h.ag (f53.ag rfl), hPr.imp fun _ h => h.imp fun _ h => h.imp fun _ h => h.ag (f53.ag rfl), hKp.ag (f53.ag rfl)⟩
    have l35 : ∀ k, L41 4 k = wL (wL L47 4 2 x2) 4 (2 + 1) y2 4 k := fun k => (l41 4 k rfl).trans (l20 4 k rfl)
    refine ⟨4, fun k => if k = 0 then x1 else if k = 1 then y1 else if k = 2 then x2 else y2, by omega, ?_, wI_s, fun k hk => ?_⟩
    · rw [wI_n (by omega), wI_n (by omega), wI_n (by omega), wI_n (by omega), wI_s]
    · have : k = 0 ∨ k = 1 ∨ k = 2 ∨ k = 3 := by omega
      rcases this with rfl | rfl | rfl | rfl
      · rw [wL_n (by omega), wL_n (by omega), wL_n (by omega), wL_n (by omega), l35, wL_n (by omega), wL_n (by omega), l2 4 0 rfl, wL_n (by omega), wL_s, wL_n (by omega), wL_n (by omega), wL_n (by omega), wL_s]
        exact ⟨rfl, rfl⟩
      · rw [wL_n (by omega), wL_n (by omega), wL_n (by omega), wL_n (by omega), l35, wL_n (by omega), wL_n (by omega), l2 4 1 rfl, wL_s, wL_n (by omega), wL_n (by omega), wL_s]
        exact ⟨rfl, rfl⟩
      · rw [wL_n (by omega), wL_n (by omega), wL_n (by omega), wL_n (by omega), l35, wL_n (by omega), wL_s, wL_n (by omega), wL_s]
        exact ⟨rfl, rfl⟩
      · rw [wL_n (by omega), wL_n (by omega), wL_n (by omega), wL_n (by omega), l35, wL_s, wL_s]
        exact ⟨rfl, rfl⟩
end BJ
