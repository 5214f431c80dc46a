section OH
variable {W H m s0 n k hd h0 N b q c h vv vo B : Nat} {K w : Nat → Nat} {l e : Nat → Int} {fs fa : Int} {I I' : MI} {L L' L0 : ML} {R : MR} {p : Bool} {fe : Nat}
theorem wlead_c {g : Nat} (a b c' d : Int) (hE : EB 1 (eF (fw a b c' d) (-1) K) d 0) (hg : 145 ≤ g) (hR : RG p fe R) (hL : LKc W H K I) (hA : LA W H K I) (hw : Wgt w h0 I) (hh : hd ≤ 10) (hn : n ≤ 8) (hc : c < W * H) (hh4 : h < 4) (h640 : I 64 0 = nI c) (h641 : I 64 1 = nI h) (hv : vo ≤ 9) :
    ∃ I1 I2 L2 R2 p2, f_Fee_want S1 I 49 (iI a) (iI b) (iI c') (iI d) = some I1 ∧ Fr [(49, none)] I I1 ∧ f_Party_stance S1 I1 64 = some (nI (4 * c + h)) ∧ f_Guide_lead g S1 R I1 L 67 49 (nI n) (nI vo) (nI hd) (nI (4 * c + h)) = some (I2, L2, R2) ∧ RG p2 49 R2 ∧ Fr fBC I I2 ∧ FrL fG4 L L2 ∧
      ∀ v, v ≤ 9 → min v n ≤ vo → ∀ I3 : MI, I3 67 9 = I2 67 9 → I3 67 10 = I2 67 10 → f_Guide_payOf S1 R2 I3 L2 67 (nI v) = some (iL (V W H K w hd (eF (fw a b c' d) (-1) K) d 0 n (4 * c + h) v).1) ∧ f_Guide_luckOf S1 R2 I3 L2 67 (nI v) = some (iL (V W H K w hd (eF (fw a b c' d) (-1) K) d 0 n (4 * c + h) v).2.1) := by
  have hN := hL.N36
  obtain ⟨I1, e1, f1, g1⟩ := want_c (I := I) a b c' d
  obtain ⟨I2, L2, R2, p2, e2, r2, f2, l2, c9, c10, en, -⟩ := lead_c (L := L) hg hR hL.1 hN.2 (hL.ag (f1.ag rfl)) (hA.ag (f1.ag rfl)) (hw.ag (f1.ag rfl)) hh g1 hE (by omega) (fun j hj => pB1 j (by omega)) hn rfl hv (show 4 * c + h < 4 * (W * H) by omega)
  refine ⟨I1, I2, L2, R2, p2, e1, f1, stance_c ((f1 64 0 rfl).trans h640) ((f1 64 1 rfl).trans h641), e2, r2, (f1.sub rfl).tr (f2.sub rfl), l2, fun v hv' hm I3 h9 h10 => ?_⟩
  have := payOf_c (I := I3) r2 (h9.trans c9) (h10.trans c10) hn (by omega) hv' (en (min v n) (by omega))
  rw [← V_min] at this
  exact this
def fBD : FT := [(3, some 1), (49, none), (67, some 8), (67, some 9), (67, some 10), (67, some 11), (68, some 2), (69, none), (70, none), (90, some 0), (90, some 1)]
theorem op_safest {g : Nat} (hg : 1000000000 ≤ g) (hC : Cp B I L R) (x : Int32) : ∃ v I1 L1 R1 I2 L2, f_GWL_safest g S1 R I L 0 x = some (v, I1, L1, R1) ∧ f_Mod_safest g S1 R1 I1 L1 90 x = some (v, I2, L2) ∧ Cp (B + 1) I2 L2 R1 := by
  obtain ⟨⟨p, fe, hR⟩, hTx, hRw, hWg, hFe, hSh, hMk, W, H, K, hLn, hPt, hPs, hPr, hKp⟩ := hC
  obtain ⟨q, hq⟩ := id hPt
  obtain ⟨⟨⟨c, hc, k0⟩, ⟨h, hh, k1⟩, ⟨vv, hv, k2⟩, -⟩, c0, c1, c2, -⟩ := hq.d
  obtain ⟨w, hd, hw⟩ := id hWg
  have hN := hLn.1.N36
  rcases len_c x (N := 8) (by omega) with ⟨hx, e0⟩ | ⟨n, hn, rfl, e0⟩
  · have f0 : Fr [(90, some 0)] I (wI I 90 0 0) := Fr.w Fr.rf rfl
    refine ⟨-1, I, L, R, wI I 90 0 0, L, ?_, ?_, ?_⟩
    · unfold f_GWL_safest
      rw [show (8 : Int32) = nI 8 from rfl, e0, bnd1_c, ifb_pos rfl]
    · unfold f_Mod_safest
      rw [lt_c, areS_f hx, bnd1_c, ifb_pos rfl]
    · refine ⟨⟨_, _, hR⟩, hTx.imp fun _ h => h.imp fun _ h => h.ag (f0.ag rfl), hRw.imp fun _ h => h.imp fun _ h => h.ag (f0.ag rfl) (fun _ _ _ => rfl), hWg.imp fun _ h => h.imp fun _ h => h.ag (f0.ag rfl), hFe.imp fun _ h => h.ag (f0.ag rfl), hSh.ag (f0.ag rfl), hMk.imp fun _ h => h.ag (f0.ag rfl), W, H, K, hLn.ag (f0.ag rfl), hPt.imp fun _ h => h.ag (f0.ag rfl), hPs.imp fun _ h => h.imp fun _ h => h.imp fun _ h => h.ag (f0.ag rfl), hPr.imp fun _ h => h.imp fun _ h => h.imp fun _ h => h.ag (f0.ag rfl), hKp.ag (f0.ag rfl)⟩
  have he : V W H K w hd (eF (fw 1 0 (-1) 0) (-1) K) 0 0 = V W H K w hd (lay K 1) 0 0 := by rw [show eF (fw 1 0 (-1) 0) (-1) K = lay K 1 from funext fun c => e_safe (hLn.1.2.2.1 c)]
  obtain ⟨I0, I1, L1, R1, p1, ew, fw0, est, e1, hR1, f1, l1, py⟩ := wlead_c (L := L) (n := n) (g := g) (vo := vv) 1 0 (-1) 0 ⟨by omega, fun c => by rw [e_safe (hLn.1.2.2.1 c)]; have := @lay_b K 1 c; omega, (by decide), (by decide)⟩ (by omega) hR hLn.1 hLn.2.2.1 hw hw.2.2.1 hn hc hh (c0.1.trans k0) (c1.1.trans k1) hv
  have hz := mW_in (W := W) (H := H) (K := K) (q := 1) (l := lay K 1) hw.1 hw.2.2.1 (fun c => by have := @lay_b K 1 c; omega) n (4 * c + h) vv
  have h16n := h16 n hn
  have hp := p100 n
  obtain ⟨x, y, F1, F2⟩ := frac_c (g := g) (by omega) (u := mW W H K w hd (lay K 1) 1 n (4 * c + h) vv) (d := 100 ^ n) (by unfold B63; omega) (by unfold B63; omega) hp
  have G1 := F1 p1 49 R1 (wI I1 3 1 0) L1 0 hR1 wI_s (by omega)
  have f2 : Fr fBD I (wI (wI (wI I1 3 1 0) 3 1 (nI (0 + 2))) 90 0 0) := (((f1.sub rfl).w rfl).w rfl).w rfl
  obtain ⟨L3, e3, l3, c3⟩ := works_c (L := wL (wL L1 4 0 x) 4 (0 + 1) y) (I := wI (wI (wI I1 3 1 0) 3 1 (nI (0 + 2))) 90 0 0) (w := w) (hd := hd) (K := K) (W := W) (H := H) (n := n) (c := 1) (q := 1) (g := g) (by omega) hR1 ⟨hLn.2.1.ag (f2.ag rfl), ⟨hw.1, fun t ht => ((hw.ag (f2.ag rfl)).2.1 t ht).2⟩, hw.2.2.1, (hw.ag (f2.ag rfl)).2.2.2.2⟩ (by omega) (by omega) hn
  have f3 : Fr fBD I (wI (wI (wI (wI I1 3 1 0) 3 1 (nI (0 + 2))) 90 0 0) 90 1 0) := f2.w rfl
  have G2 := F2 p1 49 R1 (wI (wI (wI (wI I1 3 1 0) 3 1 (nI (0 + 2))) 90 0 0) 90 1 0) L3 0 hR1 wI_s (by omega)
  have f4 : Fr fBD I (wI (wI (wI (wI (wI I1 3 1 0) 3 1 (nI (0 + 2))) 90 0 0) 90 1 0) 90 1 (nI (0 + 2))) := f3.w rfl
  refine ⟨0, wI (wI I1 3 1 0) 3 1 (nI (0 + 2)), wL (wL L1 4 0 x) 4 (0 + 1) y, R1, wI (wI (wI (wI (wI I1 3 1 0) 3 1 (nI (0 + 2))) 90 0 0) 90 1 0) 90 1 (nI (0 + 2)), wL (wL L3 91 0 x) 91 (0 + 1) y, ?_, ?_, ?_⟩
  · have i64 : wI I1 3 1 0 64 2 = nI vv := by rw [wI_n (by omega), f1 64 2 rfl, c2.1, k2]
    unfold f_GWL_safest f_Numbers_begin
    rw [show (8 : Int32) = nI 8 from rfl, e0, bnd1_c, ifb_neg (by decide), r_0_9 hR, bnd1_c, t_49, asrt_pos rfl, show f_Fee_want S1 I 49 1 0 (-1) 0 = some I0 from ew, bnd1_c, r_0_14 hR, bnd1_c, r_0_3 hR, bnd1_c, t_64, asrt_pos rfl, est, bnd1_c, t_67, asrt_pos rfl, fw0 64 2 rfl, c2.1, k2, fw0 0 6 rfl, hw.2.2.2.1, e1, bnd3_c, r_0_1 hR1, bnd1_c, t_3, asrt_pos rfl, lt_c, bnd1_c, r_0_14 hR1, bnd1_c, r_0_3 hR1, bnd1_c, t_64, asrt_pos rfl, t_67, asrt_pos rfl, i64, (py vv hv (Nat.min_le_left _ _) (wI I1 3 1 0) (wI_n (by omega)) (wI_n (by omega))).1, bnd1_c, hund_c (by omega), bnd1_c, he, V_mW hw.2.2.1 (fun _ => rfl), G1, bnd2_c]
  · unfold f_Mod_safest
    rw [lt_c, areS_t hn, bnd1_c, ifb_neg (by decide), show (1 : Int32) = nI 1 from rfl, e3, bnd1_c, lt_c, f3 90 10 rfl, c2.2, k2, chance_c hR1 ((f3 90 7 rfl).trans (c0.2.trans k0)) ((f3 90 8 rfl).trans (c1.2.trans k1)) (by omega) hh (by omega), bnd1_c, whole_c (by omega) hn, bnd1_c, c3 _ _ (by omega) (by omega), G2, bnd2_c]
  · refine ⟨⟨_, _, hR1⟩, hTx.imp fun _ h => h.imp fun _ h => h.ag (f4.ag rfl), ?_, hWg.imp fun _ h => h.imp fun _ h => h.ag (f4.ag rfl), hFe.imp fun _ h => h.ag (f4.ag rfl), hSh.ag (f4.ag rfl), hMk.imp fun _ h => h.ag (f4.ag rfl), W, H, K, hLn.ag (f4.ag rfl), hPt.imp fun _ h => h.ag (f4.ag rfl), hPs.imp fun _ h => h.imp fun _ h => h.imp fun _ h => h.ag (f4.ag rfl), hPr.imp fun _ h => h.imp fun _ h => h.imp fun _ h => h.ag (f4.ag rfl), hKp.ag (f4.ag rfl)⟩
    refine ⟨2, fun k => if k = 0 then x else y, by omega, ?_, wI_s, fun k hk => ?_⟩
    · rw [wI_n (by omega), wI_n (by omega), wI_n (by omega), wI_s]
    · have : k = 0 ∨ k = 1 := by omega
      rcases this with rfl | rfl
      · rw [wL_n (by omega), wL_n (by omega), wL_n (by omega), wL_s, l3 4 0 rfl, wL_n (by omega), wL_s]
        exact ⟨rfl, rfl⟩
      · rw [wL_n (by omega), wL_n (by omega), wL_s, l3 4 1 rfl, wL_s]
        exact ⟨rfl, rfl⟩
theorem op_never {g : Nat} (hg : 1000000000 ≤ g) (hC : Cp B I L R) (x : Int32) : ∃ v I1 L1 R1 I2 L2, f_GWL_never g S1 R I L 0 x = some (v, I1, L1, R1) ∧ f_Mod_never g S1 R1 I1 L1 90 x = some (v, I2, L2) ∧ Cp (B + 1) I2 L2 R1 := by
  obtain ⟨⟨p, fe, hR⟩, hTx, hRw, hWg, hFe, hSh, hMk, W, H, K, hLn, hPt, hPs, hPr, hKp⟩ := hC
  obtain ⟨q, hq⟩ := id hPt
  obtain ⟨⟨⟨c, hc, k0⟩, ⟨h, hh, k1⟩, ⟨vv, hv, k2⟩, -⟩, c0, c1, c2, -⟩ := hq.d
  obtain ⟨w, hd, hw⟩ := id hWg
  have hN := hLn.1.N36
  rcases len_c x (N := 8) (by omega) with ⟨hx, e0⟩ | ⟨n, hn, rfl, e0⟩
  · have f0 : Fr [(90, some 0)] I (wI I 90 0 0) := Fr.w Fr.rf rfl
    refine ⟨-1, I, L, R, wI I 90 0 0, L, ?_, ?_, ?_⟩
    · unfold f_GWL_never
      rw [show (8 : Int32) = nI 8 from rfl, e0, bnd1_c, ifb_pos rfl]
    · unfold f_Mod_never
      rw [lt_c, areS_f hx, bnd1_c, ifb_pos rfl]
    · refine ⟨⟨_, _, hR⟩, hTx.imp fun _ h => h.imp fun _ h => h.ag (f0.ag rfl), hRw.imp fun _ h => h.imp fun _ h => h.ag (f0.ag rfl) (fun _ _ _ => rfl), hWg.imp fun _ h => h.imp fun _ h => h.ag (f0.ag rfl), hFe.imp fun _ h => h.ag (f0.ag rfl), hSh.ag (f0.ag rfl), hMk.imp fun _ h => h.ag (f0.ag rfl), W, H, K, hLn.ag (f0.ag rfl), hPt.imp fun _ h => h.ag (f0.ag rfl), hPs.imp fun _ h => h.imp fun _ h => h.imp fun _ h => h.ag (f0.ag rfl), hPr.imp fun _ h => h.imp fun _ h => h.imp fun _ h => h.ag (f0.ag rfl), hKp.ag (f0.ag rfl)⟩
  obtain ⟨I0, I1, L1, R1, p1, ew, fw0, est, e1, hR1, f1, l1, py⟩ := wlead_c (L := L) (n := n) (g := g) (vo := 0) 0 0 1 0 ⟨by omega, fun c => by rw [e_sunk c]; have := @lay_b K 1 c; omega, (by decide), (by decide)⟩ (by omega) hR hLn.1 hLn.2.2.1 hw hw.2.2.1 hn hc hh (c0.1.trans k0) (c1.1.trans k1) (by omega)
  have hz := mW_in (W := W) (H := H) (K := K) (q := 0) (l := lay K 1) hw.1 hw.2.2.1 (fun c => by have := @lay_b K 1 c; omega) n (4 * c + h) vv
  have hz' := mW_in (W := W) (H := H) (K := K) (q := 0) (l := lay K 0) hw.1 hw.2.2.1 (fun c => by have := @lay_b K 0 c; omega) n (4 * c + h) vv
  have h16n := h16 n hn
  have hp := p100 n
  obtain ⟨x, y, F1, F2⟩ := frac_c (g := g) (by omega) (u := mW W H K w hd (lay K 0) 0 n (4 * c + h) vv) (d := 100 ^ n) (by unfold B63; omega) (by unfold B63; omega) hp
  obtain ⟨x', y', F3, F4⟩ := frac_c (g := g) (by omega) (u := 100 ^ n - mW W H K w hd (lay K 1) 0 n (4 * c + h) vv) (d := 100 ^ n) (by unfold B63; omega) (by unfold B63; omega) hp
  have G1 := F1 p1 49 R1 (wI I1 3 1 0) L1 0 hR1 wI_s (by omega)
  have G3 := F3 p1 49 R1 (wI (wI I1 3 1 0) 3 1 (nI (0 + 2))) (wL (wL L1 4 0 x) 4 (0 + 1) y) 2 hR1 wI_s (by omega)
  have f2 : Fr fBD I (wI (wI (wI (wI I1 3 1 0) 3 1 (nI (0 + 2))) 3 1 (nI (2 + 2))) 90 0 0) := ((((f1.sub rfl).w rfl).w rfl).w rfl).w rfl
  have hMH : MH W H K w hd (wI (wI (wI (wI I1 3 1 0) 3 1 (nI (0 + 2))) 3 1 (nI (2 + 2))) 90 0 0) := ⟨hLn.2.1.ag (f2.ag rfl), ⟨hw.1, fun t ht => ((hw.ag (f2.ag rfl)).2.1 t ht).2⟩, hw.2.2.1, (hw.ag (f2.ag rfl)).2.2.2.2⟩
  obtain ⟨L3, e3, l3, c3⟩ := works_c (L := wL (wL (wL (wL L1 4 0 x) 4 (0 + 1) y) 4 2 x') 4 (2 + 1) y') (n := n) (c := 1) (q := 0) (g := g) (by omega) hR1 hMH (by omega) (by omega) hn
  obtain ⟨L5, e5, l5, c5⟩ := works_c (L := L3) (n := n) (c := 0) (q := 0) (g := g) (by omega) hR1 hMH (by omega) (by omega) hn
  have f3 : Fr fBD I (wI (wI (wI (wI (wI I1 3 1 0) 3 1 (nI (0 + 2))) 3 1 (nI (2 + 2))) 90 0 0) 90 1 0) := f2.w rfl
  have G2 := F2 p1 49 R1 (wI (wI (wI (wI (wI I1 3 1 0) 3 1 (nI (0 + 2))) 3 1 (nI (2 + 2))) 90 0 0) 90 1 0) L5 0 hR1 wI_s (by omega)
  have G4 := F4 p1 49 R1 (wI (wI (wI (wI (wI (wI I1 3 1 0) 3 1 (nI (0 + 2))) 3 1 (nI (2 + 2))) 90 0 0) 90 1 0) 90 1 (nI (0 + 2))) (wL (wL L5 91 0 x) 91 (0 + 1) y) 2 hR1 wI_s (by omega)
  have f4 : Fr fBD I (wI (wI (wI (wI (wI (wI (wI I1 3 1 0) 3 1 (nI (0 + 2))) 3 1 (nI (2 + 2))) 90 0 0) 90 1 0) 90 1 (nI (0 + 2))) 90 1 (nI (2 + 2))) := (f3.w rfl).w rfl
  refine ⟨0, wI (wI (wI I1 3 1 0) 3 1 (nI (0 + 2))) 3 1 (nI (2 + 2)), wL (wL (wL (wL L1 4 0 x) 4 (0 + 1) y) 4 2 x') 4 (2 + 1) y', R1, wI (wI (wI (wI (wI (wI (wI I1 3 1 0) 3 1 (nI (0 + 2))) 3 1 (nI (2 + 2))) 90 0 0) 90 1 0) 90 1 (nI (0 + 2))) 90 1 (nI (2 + 2)), wL (wL (wL (wL L5 91 0 x) 91 (0 + 1) y) 91 2 x') 91 (2 + 1) y', ?_, ?_, ?_⟩
  · have hlk := (py 0 (by omega) (Nat.min_le_left _ _) (wI I1 3 1 0) (wI_n (by omega)) (wI_n (by omega))).2
    rw [V_home n (4 * c + h) vv] at hlk
    have z0 : (0 : Int32) = nI 0 := rfl
    have py2 : f_Guide_payOf S1 R1 (wI (wI I1 3 1 0) 3 1 (nI (0 + 2))) (wL (wL L1 4 0 x) 4 (0 + 1) y) 67 (nI 0) = some (iL (100 ^ n - mW W H K w hd (lay K 1) 0 n (4 * c + h) vv)) := by
      have hpy := (py 0 (by omega) (Nat.min_le_left _ _) (wI (wI I1 3 1 0) 3 1 (nI (0 + 2))) (by rw [wI_n (by omega), wI_n (by omega)]) (by rw [wI_n (by omega), wI_n (by omega)])).1
      rw [V_sunk hw.1 e_sunk n (4 * c + h) vv] at hpy
      rw [← hpy]
      unfold f_Guide_payOf f_Guide_laidAt
      rw [show R1 67 3 = some (la p1) from hR1.2.1, bnd1_c, bnd1_c, wL_r (by cases p1 <;> decide), wL_r (by cases p1 <;> decide)]
    unfold f_GWL_never f_Numbers_begin
    rw [show (8 : Int32) = nI 8 from rfl, e0, bnd1_c, ifb_neg (by decide), r_0_9 hR, bnd1_c, t_49, asrt_pos rfl, show f_Fee_want S1 I 49 0 0 1 0 = some I0 from ew, bnd1_c, r_0_14 hR, bnd1_c, r_0_3 hR, bnd1_c, t_64, asrt_pos rfl, est, bnd1_c, t_67, asrt_pos rfl, fw0 0 6 rfl, hw.2.2.2.1, show f_Guide_lead g S1 R I0 L 67 49 (nI n) 0 (nI hd) (nI (4 * c + h)) = some (I1, L1, R1) from e1, bnd3_c, r_0_1 hR1, bnd1_c, t_3, asrt_pos rfl, lt_c, bnd1_c, r_0_14 hR1, bnd1_c, t_67, asrt_pos rfl, show f_Guide_luckOf S1 R1 (wI I1 3 1 0) L1 67 0 = _ from hlk, bnd1_c, hund_c (by omega), bnd1_c, G1, bnd2_c, show f_Guide_payOf S1 R1 (wI (wI I1 3 1 0) 3 1 (nI (0 + 2))) (wL (wL L1 4 0 x) 4 (0 + 1) y) 67 0 = _ from py2, bnd1_c, bnd1_c, G3, bnd2_c]
  · unfold f_Mod_never
    rw [lt_c, areS_t hn, bnd1_c, ifb_neg (by decide), show f_Mod_works g S1 R1 (wI (wI (wI (wI I1 3 1 0) 3 1 (nI (0 + 2))) 3 1 (nI (2 + 2))) 90 0 0) (wL (wL (wL (wL L1 4 0 x) 4 (0 + 1) y) 4 2 x') 4 (2 + 1) y') 90 (nI n) 1 0 = some L3 from e3, bnd1_c, f2 90 10 rfl, c2.2, k2, chance_c hR1 ((f2 90 7 rfl).trans (c0.2.trans k0)) ((f2 90 8 rfl).trans (c1.2.trans k1)) (by omega) hh (by omega), bnd1_c, show f_Mod_works g S1 R1 (wI (wI (wI (wI I1 3 1 0) 3 1 (nI (0 + 2))) 3 1 (nI (2 + 2))) 90 0 0) L3 90 (nI n) 0 0 = some L5 from e5, bnd1_c, lt_c, f3 90 10 rfl, c2.2, k2, chance_c hR1 ((f3 90 7 rfl).trans (c0.2.trans k0)) ((f3 90 8 rfl).trans (c1.2.trans k1)) (by omega) hh (by omega), bnd1_c, whole_c (by omega) hn, bnd1_c, c5 _ _ (by omega) (by omega), G2, bnd2_c, bnd1_c, bnd1_c, c3 _ _ (by omega) (by omega), iL_sub, G4, bnd2_c]
  · refine ⟨⟨_, _, hR1⟩, hTx.imp fun _ h => h.imp fun _ h => h.ag (f4.ag rfl), ?_, hWg.imp fun _ h => h.imp fun _ h => h.ag (f4.ag rfl), hFe.imp fun _ h => h.ag (f4.ag rfl), hSh.ag (f4.ag rfl), hMk.imp fun _ h => h.ag (f4.ag rfl), W, H, K, hLn.ag (f4.ag rfl), hPt.imp fun _ h => h.ag (f4.ag rfl), hPs.imp fun _ h => h.imp fun _ h => h.imp fun _ h => h.ag (f4.ag rfl), hPr.imp fun _ h => h.imp fun _ h => h.imp fun _ h => h.ag (f4.ag rfl), hKp.ag (f4.ag rfl)⟩
    have l35 : ∀ k, L5 4 k = wL (wL (wL (wL L1 4 0 x) 4 (0 + 1) y) 4 2 x') 4 (2 + 1) y' 4 k := fun k => (l5 4 k rfl).trans (l3 4 k rfl)
    refine ⟨4, fun k => if k = 0 then x else if k = 1 then y else if k = 2 then x' else y', by omega, ?_, wI_s, fun k hk => ?_⟩
    · rw [wI_n (by omega), wI_n (by omega), wI_n (by omega), wI_n (by omega), wI_s]
    · have : k = 0 ∨ k = 1 ∨ k = 2 ∨ k = 3 := by omega
      rcases this with rfl | rfl | rfl | rfl
      · rw [wL_n (by omega), wL_n (by omega), wL_n (by omega), wL_n (by omega), wL_n (by omega), wL_n (by omega), wL_n (by omega), wL_s, l35, wL_n (by omega), wL_n (by omega), wL_n (by omega), wL_s]
        exact ⟨rfl, rfl⟩
      · rw [wL_n (by omega), wL_n (by omega), wL_n (by omega), wL_n (by omega), wL_n (by omega), wL_n (by omega), wL_s, l35, wL_n (by omega), wL_n (by omega), wL_s]
        exact ⟨rfl, rfl⟩
      · rw [wL_n (by omega), wL_n (by omega), wL_n (by omega), wL_n (by omega), wL_n (by omega), wL_s, l35, wL_n (by omega), wL_s]
        exact ⟨rfl, rfl⟩
      · rw [wL_n (by omega), wL_n (by omega), wL_n (by omega), wL_n (by omega), wL_s, l35, wL_s]
        exact ⟨rfl, rfl⟩
end OH
