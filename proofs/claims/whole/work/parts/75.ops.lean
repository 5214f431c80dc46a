section OL
variable {W H m s0 n k hd h0 N b q c h vv vo B fb : Nat} {K w : Nat → Nat} {l e : Nat → Int} {fs fa M : Int} {f : Nat → Int} {I I' J : MI} {L L' L0 L1 : ML} {R : MR} {p : Bool} {fe : Nat}
theorem few_f {x : Int32} (h : x < 0 ∨ nI 5 < x) : f_Mod_areFew x = some 0 := by
  unfold f_Mod_areFew
  rw [in_f (b := 5) (y := nI 5) rfl h, bnd1_c, asrt_pos (Or.inl rfl)]
theorem few_t {n : Nat} (h : n ≤ 5) : f_Mod_areFew (nI n) = some 1 := by
  unfold f_Mod_areFew
  rw [in_t (b := 5) (n := 5) rfl h (by omega), bnd1_c, asrt_pos (Or.inr rfl)]
theorem eF_W (f : Nat → Int) (c : Nat) : eF f (-1) K c = eW f K c + f 0 := by
  rw [eF_m1]
  unfold eW
  omega
theorem EB_F (hf : fok f) : EB 20000 (eF f (-1) K) (f 3) (f 4) := by
  have h0 := hf 0 (by omega)
  have h1 := hf 1 (by omega)
  have h2 := hf 2 (by omega)
  have h3 := hf 3 (by omega)
  have h4 := hf 4 (by omega)
  refine ⟨by omega, fun c => ?_, by omega, by omega⟩
  rw [eF_W]
  unfold eW
  split <;> split <;> omega
theorem greedyC_c {g : Nat} (hg : 145 ≤ g) (hR : RG p fe R) (hL : LKc W H K I) (hA : LA W H K I) (hw : Wgt w hd I) (hF : FG fb f (-1) I) (hf : fok f) (hfb : (S1 fb).1 = 0) (hn : n ≤ 5) (hc : c < W * H) (hh4 : h < 4) (h640 : I 64 0 = nI c) (h641 : I 64 1 = nI h) (h642 : I 64 2 = nI vv) (hv : vv ≤ 9) :
    ∃ I' L' R' p', f_GWL_greedyChance g S1 R I L 0 fb (nI n) = some (iL (V W H K w hd (eW f K) (f 3) (f 4) n (4 * c + h) vv).2.1, I', L', R') ∧ RG p' fb R' ∧ Fr fGd I I' ∧ FrL fG4 L L' ∧
      ∀ I3 : MI, I3 67 9 = I' 67 9 → I3 67 10 = I' 67 10 → f_Guide_payOf S1 R' I3 L' 67 (nI vv) = some (iL ((V W H K w hd (eW f K) (f 3) (f 4) n (4 * c + h) vv).1 + f 0 * 100 ^ n)) := by
  have hN := hL.N36
  obtain ⟨I2, L2, R2, p2, e2, r2, f2, l2, c9, c10, en, -⟩ := lead_c (L := L) hg hR hL.1 hN.2 hL hA hw hw.2.2.1 hF (EB_F hf) (by omega) (fun j hj => pB3 j (by omega)) (show n ≤ 8 by omega) hfb hv (show 4 * c + h < 4 * (W * H) by omega)
  have pay := fun (I3 : MI) (h9 : I3 67 9 = I2 67 9) (h10 : I3 67 10 = I2 67 10) => payOf_c (I := I3) r2 (h9.trans c9) (h10.trans c10) (show n ≤ 8 by omega) (by omega) hv (en _ (Nat.le_refl _))
  have hsh := V_shift (W := W) (H := H) (K := K) (hd := hd) (fs := f 3) (fa := f 4) hw.1 (fun c => eF_W (K := K) f c) n (4 * c + h) vv
  refine ⟨I2, L2, R2, p2, ?_, r2, f2, l2, fun I3 h9 h10 => ?_⟩
  · unfold f_GWL_greedyChance
    rw [r_0_14 hR, bnd1_c, r_0_3 hR, bnd1_c, t_64, asrt_pos rfl, stance_c h640 h641, bnd1_c, t_67, asrt_pos rfl, h642, hw.2.2.2.1, e2, bnd3_c, r_0_14 r2, bnd1_c, r_0_3 r2, bnd1_c, t_64, asrt_pos rfl, t_67, asrt_pos rfl, f2 64 2 rfl, h642, (pay I2 rfl rfl).2, bnd1_c, ← V_min, hsh]
  · rw [(pay I3 h9 h10).1, ← V_min, hsh]
theorem want97 (hR : RG p fe R) (hF : Fe f I) : FM 97 f I := ⟨rfl, hF.2.2⟩
def fGr : FT := [(3, some 1), (67, some 8), (67, some 9), (67, some 10), (67, some 11), (68, some 2), (69, none), (70, none), (90, some 0), (90, some 1)]
theorem op_greed {g : Nat} (hg : 1000000000 ≤ g) (hC : Cp B I L R) (x : Int32) : ∃ v I1 L1 R1 I2 L2, f_GWL_greed g S1 R I L 0 x = some (v, I1, L1, R1) ∧ f_Mod_greed g S1 R1 I1 L1 90 x = some (v, I2, L2) ∧ Cp (B + 1) I2 L2 R1 := by
  obtain ⟨⟨p, fe, hR⟩, hTx, hRw, hWg, hFe, hSh, hMk, W, H, K, hLn, hPt, hPs, hPr, hKp⟩ := hC
  obtain ⟨q, hq⟩ := id hPt
  obtain ⟨⟨⟨c, hc, k0⟩, ⟨h, hh, k1⟩, ⟨vv, hv, k2⟩, -⟩, c0, c1, c2, -⟩ := hq.d
  obtain ⟨w, hd, hw⟩ := id hWg
  obtain ⟨f, hf⟩ := id hFe
  have hN := hLn.1.N36
  rcases len_c x (N := 5) (by omega) with ⟨hx, e0⟩ | ⟨n, hn, rfl, e0⟩
  · have f0 : Fr [(90, some 0)] I (wI I 90 0 0) := Fr.w Fr.rf rfl
    refine ⟨-1, I, L, R, wI I 90 0 0, L, ?_, ?_, ?_⟩
    · unfold f_GWL_greed
      rw [show (5 : Int32) = nI 5 from rfl, e0, bnd1_c, ifb_pos rfl]
    · unfold f_Mod_greed
      rw [lt_c, few_f hx, bnd1_c, ifb_pos rfl]
    · refine ⟨⟨_, _, hR⟩, hTx.imp fun _ h => h.imp fun _ h => h.ag (f0.ag rfl), hRw.imp fun _ h => h.imp fun _ h => h.ag (f0.ag rfl) (fun _ _ _ => rfl), hWg.imp fun _ h => h.imp fun _ h => h.ag (f0.ag rfl), hFe.imp fun _ h => h.ag (f0.ag rfl), hSh.ag (f0.ag rfl), hMk.imp fun _ h => h.ag (f0.ag rfl), W, H, K, hLn.ag (f0.ag rfl), hPt.imp fun _ h => h.ag (f0.ag rfl), hPs.imp fun _ h => h.imp fun _ h => h.imp fun _ h => h.ag (f0.ag rfl), hPr.imp fun _ h => h.imp fun _ h => h.imp fun _ h => h.ag (f0.ag rfl), hKp.ag (f0.ag rfl)⟩
  obtain ⟨I1, L1, R1, p1, e1, hR1, f1, l1, py⟩ := greedyC_c (L := L) (n := n) (g := g) (fb := 47) (by omega) hR hLn.1 hLn.2.2.1 hw ⟨hf.2.1.1, hf.2.1.2⟩ hf.1 rfl hn hc hh (c0.1.trans k0) (c1.1.trans k1) (c2.1.trans k2) hv
  have hz := V_in (W := W) (H := H) (K := K) (w := w) (hd := hd) (EB_F (K := K) hf.1) hw.1 hw.2.2.1 n (4 * c + h) vv
  rw [V_shift hw.1 (fun c => eF_W (K := K) f c)] at hz
  have hpb := pB3 n hn
  have h16n := h16 n (by omega)
  have hp := p100 n
  have z1 := hz.1
  have z2 := hz.2.1
  simp only at z1 z2
  obtain ⟨x, y, F1, F2⟩ := frac_c (g := g) (by omega) (u := (V W H K w hd (eW f K) (f 3) (f 4) n (4 * c + h) vv).1 + f 0 * 100 ^ n) (d := 100 ^ n) (by unfold B63; omega) (by unfold B63; omega) hp
  obtain ⟨x', y', F3, F4⟩ := frac_c (g := g) (by omega) (u := (V W H K w hd (eW f K) (f 3) (f 4) n (4 * c + h) vv).2.1) (d := 100 ^ n) (by unfold B63; omega) (by unfold B63; omega) hp
  have G1 := F1 p1 47 R1 (wI I1 3 1 0) L1 0 hR1 wI_s (by omega)
  have G3 := F3 p1 47 R1 (wI (wI I1 3 1 0) 3 1 (nI (0 + 2))) (wL (wL L1 4 0 x) 4 (0 + 1) y) 2 hR1 wI_s (by omega)
  have f2 : Fr fGr I (wI (wI (wI (wI I1 3 1 0) 3 1 (nI (0 + 2))) 3 1 (nI (2 + 2))) 90 0 0) := ((((f1.sub rfl).w rfl).w rfl).w rfl).w rfl
  have hMH : MH W H K w hd (wI (wI (wI (wI I1 3 1 0) 3 1 (nI (0 + 2))) 3 1 (nI (2 + 2))) 90 0 0) := ⟨hLn.2.1.ag (f2.ag rfl), ⟨hw.1, fun t ht => ((hw.ag (f2.ag rfl)).2.1 t ht).2⟩, hw.2.2.1, (hw.ag (f2.ag rfl)).2.2.2.2⟩
  obtain ⟨L3, e3, l3, c3⟩ := wants_c (L := wL (wL (wL (wL L1 4 0 x) 4 (0 + 1) y) 4 2 x') 4 (2 + 1) y') (n := n) (g := g) (by omega) hR1 hMH (want97 hR1 (hf.ag (f2.ag rfl))) hf.1 hn
  have c3' := c3 (4 * c + h) vv (by omega) (by omega)
  have f3 : Fr fGr I (wI (wI (wI (wI (wI I1 3 1 0) 3 1 (nI (0 + 2))) 3 1 (nI (2 + 2))) 90 0 0) 90 1 0) := f2.w rfl
  have G2 := F2 p1 47 R1 (wI (wI (wI (wI (wI I1 3 1 0) 3 1 (nI (0 + 2))) 3 1 (nI (2 + 2))) 90 0 0) 90 1 0) L3 0 hR1 wI_s (by omega)
  have f3b : Fr fGr I (wI (wI (wI (wI (wI (wI I1 3 1 0) 3 1 (nI (0 + 2))) 3 1 (nI (2 + 2))) 90 0 0) 90 1 0) 90 1 (nI (0 + 2))) := f3.w rfl
  have G4 := F4 p1 47 R1 (wI (wI (wI (wI (wI (wI I1 3 1 0) 3 1 (nI (0 + 2))) 3 1 (nI (2 + 2))) 90 0 0) 90 1 0) 90 1 (nI (0 + 2))) (wL (wL L3 91 0 x) 91 (0 + 1) y) 2 hR1 wI_s (by omega)
  have f4 : Fr fGr I (wI (wI (wI (wI (wI (wI (wI I1 3 1 0) 3 1 (nI (0 + 2))) 3 1 (nI (2 + 2))) 90 0 0) 90 1 0) 90 1 (nI (0 + 2))) 90 1 (nI (2 + 2))) := f3b.w rfl
  have hf0 := hf.1 0 (by omega)
  refine ⟨0, wI (wI (wI I1 3 1 0) 3 1 (nI (0 + 2))) 3 1 (nI (2 + 2)), wL (wL (wL (wL L1 4 0 x) 4 (0 + 1) y) 4 2 x') 4 (2 + 1) y', R1, wI (wI (wI (wI (wI (wI (wI I1 3 1 0) 3 1 (nI (0 + 2))) 3 1 (nI (2 + 2))) 90 0 0) 90 1 0) 90 1 (nI (0 + 2))) 90 1 (nI (2 + 2)), wL (wL (wL (wL L3 91 0 x) 91 (0 + 1) y) 91 2 x') 91 (2 + 1) y', ?_, ?_, ?_⟩
  · have i64 : wI I1 3 1 0 64 2 = nI vv := by rw [wI_n (by omega), f1 64 2 rfl, c2.1, k2]
    unfold f_GWL_greed f_Numbers_begin
    rw [show (5 : Int32) = nI 5 from rfl, e0, bnd1_c, ifb_neg (by decide), r_0_7 hR, bnd1_c, e1, bnd4_c, r_0_1 hR1, bnd1_c, t_3, asrt_pos rfl, lt_c, bnd1_c, r_0_14 hR1, bnd1_c, r_0_3 hR1, bnd1_c, t_64, asrt_pos rfl, t_67, asrt_pos rfl, i64, py (wI I1 3 1 0) (wI_n (by omega)) (wI_n (by omega)), bnd1_c, hund_c (by omega), bnd1_c, G1, bnd2_c, bnd1_c, G3, bnd2_c]
  · unfold f_Mod_greed
    have hst := @stateOf_c (4 * c + h) vv (by omega) (by omega)
    rw [show (4 * c + h) / 4 = c by omega, show (4 * c + h) % 4 = h by omega] at hst
    have i97 : wI (wI (wI (wI (wI I1 3 1 0) 3 1 (nI (0 + 2))) 3 1 (nI (2 + 2))) 90 0 0) 90 1 0 97 0 = iI (f 0) := (f3 97 0 rfl).trans (hf.2.2 0 (by omega))
    rw [lt_c, few_t hn, bnd1_c, ifb_neg (by decide), r_90_21 hR1, bnd1_c, e3, bnd1_c, lt_c, r_90_32 hR1, bnd1_c, f3 90 7 rfl, c0.2, k0, f3 90 8 rfl, c1.2, k1, f3 90 10 rfl, c2.2, k2, hst, bnd1_c, t_107, asrt_pos rfl, asrt_pos (vir (by omega) (by omega)), t_97, asrt_pos rfl, asrt_pos (pk_in 0 5 (by omega)), whole_c (by omega) (by omega), bnd1_c, bnd1_c, cl32 (by omega), c3'.2, show Int32.toNatClampNeg 0 = 0 by decide, i97, iI_l (by omega), iL_mul, iL_add, G2, bnd2_c, f3b 90 10 rfl, c2.2, k2, chance_c hR1 ((f3b 90 7 rfl).trans (c0.2.trans k0)) ((f3b 90 8 rfl).trans (c1.2.trans k1)) (by omega) hh (by omega), bnd1_c, bnd1_c, wL_n (by omega), wL_n (by omega), c3'.1, G4, bnd2_c]
  · refine ⟨⟨_, _, hR1⟩, hTx.imp fun _ h => h.imp fun _ h => h.ag (f4.ag rfl), ?_, hWg.imp fun _ h => h.imp fun _ h => h.ag (f4.ag rfl), hFe.imp fun _ h => h.ag (f4.ag rfl), hSh.ag (f4.ag rfl), hMk.imp fun _ h => h.ag (f4.ag rfl), W, H, K, hLn.ag (f4.ag rfl), hPt.imp fun _ h => h.ag (f4.ag rfl), hPs.imp fun _ h => h.imp fun _ h => h.imp fun _ h => h.ag (f4.ag rfl), hPr.imp fun _ h => h.imp fun _ h => h.imp fun _ h => h.ag (f4.ag rfl), hKp.ag (f4.ag rfl)⟩
    have l35 : ∀ k, L3 4 k = wL (wL (wL (wL L1 4 0 x) 4 (0 + 1) y) 4 2 x') 4 (2 + 1) y' 4 k := fun k => l3 4 k rfl
    refine ⟨4, fun k => if k = 0 then x else if k = 1 then y else if k = 2 then x' else y', by omega, ?_, wI_s, fun k hk => ?_⟩
    · rw [wI_n (by omega), wI_n (by omega), wI_n (by omega), wI_n (by omega), wI_s]
    · have : k = 0 ∨ k = 1 ∨ k = 2 ∨ k = 3 := by omega
      rcases this with rfl | rfl | rfl | rfl
      · rw [wL_n (by omega), wL_n (by omega), wL_n (by omega), wL_n (by omega), wL_n (by omega), wL_n (by omega), wL_n (by omega), wL_s, l35, wL_n (by omega), wL_n (by omega), wL_n (by omega), wL_s]
        exact ⟨rfl, rfl⟩
      · rw [wL_n (by omega), wL_n (by omega), wL_n (by omega), wL_n (by omega), wL_n (by omega), wL_n (by omega), wL_s, l35, wL_n (by omega), wL_n (by omega), wL_s]
        exact ⟨rfl, rfl⟩
      · rw [wL_n (by omega), wL_n (by omega), wL_n (by omega), wL_n (by omega), wL_n (by omega), wL_s, l35, wL_n (by omega), wL_s]
        exact ⟨rfl, rfl⟩
      · rw [wL_n (by omega), wL_n (by omega), wL_n (by omega), wL_n (by omega), wL_s, l35, wL_s]
        exact ⟨rfl, rfl⟩
end OL
