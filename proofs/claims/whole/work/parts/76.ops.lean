section OM
variable {W H m s0 n k hd h0 N b q c h vv vo B fb : Nat} {K w : Nat → Nat} {l e : Nat → Int} {fs fa M : Int} {f : Nat → Int} {I I' J : MI} {L L' L0 L1 : ML} {R : MR} {p : Bool} {fe : Nat}
def fHo : FT := [(3, some 1), (49, none), (67, some 8), (67, some 9), (67, some 10), (67, some 11), (68, some 2), (69, none), (70, none), (90, some 0), (90, some 1)]
theorem op_honest {g : Nat} (hg : 1000000000 ≤ g) (hC : Cp B I L R) (x : Int32) : ∃ v I1 L1 R1 I2 L2, f_GWL_honest g S1 R I L 0 x = some (v, I1, L1, R1) ∧ f_Mod_honest g S1 R1 I1 L1 90 x = some (v, I2, L2) ∧ Cp (B + 1) I2 L2 R1 := by
  obtain ⟨⟨p, fe, hR⟩, hTx, hRw, hWg, hFe, hSh, hMk, W, H, K, hLn, hPt, hPs, hPr, hKp⟩ := hC
  obtain ⟨q, hq⟩ := id hPt
  obtain ⟨⟨⟨c, hc, k0⟩, ⟨h, hh, k1⟩, ⟨vv, hv, k2⟩, -⟩, c0, c1, c2, -⟩ := hq.d
  obtain ⟨w, hd, hw⟩ := id hWg
  obtain ⟨f, hf⟩ := id hFe
  have hN := hLn.1.N36
  rcases len_c x (N := 5) (by omega) with ⟨hx, e0⟩ | ⟨n, hn, rfl, e0⟩
  · have f0 : Fr [(90, some 0)] I (wI I 90 0 0) := Fr.w Fr.rf rfl
    refine ⟨-1, I, L, R, wI I 90 0 0, L, ?_, ?_, ?_⟩
    · unfold f_GWL_honest
      rw [show (5 : Int32) = nI 5 from rfl, e0, bnd1_c, ifb_pos rfl]
    · unfold f_Mod_honest
      rw [lt_c, few_f hx, bnd1_c, ifb_pos rfl]
    · refine ⟨⟨_, _, hR⟩, hTx.imp fun _ h => h.imp fun _ h => h.ag (f0.ag rfl), hRw.imp fun _ h => h.imp fun _ h => h.ag (f0.ag rfl) (fun _ _ _ => rfl), hWg.imp fun _ h => h.imp fun _ h => h.ag (f0.ag rfl), hFe.imp fun _ h => h.ag (f0.ag rfl), hSh.ag (f0.ag rfl), hMk.imp fun _ h => h.ag (f0.ag rfl), W, H, K, hLn.ag (f0.ag rfl), hPt.imp fun _ h => h.ag (f0.ag rfl), hPs.imp fun _ h => h.imp fun _ h => h.imp fun _ h => h.ag (f0.ag rfl), hPr.imp fun _ h => h.imp fun _ h => h.imp fun _ h => h.ag (f0.ag rfl), hKp.ag (f0.ag rfl)⟩
  obtain ⟨I0, L0, R0, p0, ea, hR0, fa, la, -⟩ := bestC_c (L := L) (n := n) (g := g) (by omega) hR hLn.1 hLn.2.2.1 hw hw.2.2.1 (by omega) hc hh (c0.1.trans k0) (c1.1.trans k1) (c2.1.trans k2) hv
  have hf0 := hf.ag (fa.ag rfl)
  obtain ⟨I1, L1, R1, p1, e1, hR1, f1', l1', -⟩ := greedyC_c (L := L0) (n := n) (g := g) (fb := 47) (by omega) hR0 (hLn.1.ag (fa.ag rfl)) (hLn.2.2.1.ag (fa.ag rfl)) (hw.ag (fa.ag rfl)) ⟨hf0.2.1.1, hf0.2.1.2⟩ hf.1 rfl hn hc hh ((fa 64 0 rfl).trans (c0.1.trans k0)) ((fa 64 1 rfl).trans (c1.1.trans k1)) ((fa 64 2 rfl).trans (c2.1.trans k2)) hv
  have f1 : Fr fBC I I1 := fa.tr (f1'.sub rfl)
  have l1 : FrL fG4 L L1 := la.tr l1'
  have hz := V_in (W := W) (H := H) (K := K) (w := w) (hd := hd) (EB_W (K := K) hf.1) hw.1 hw.2.2.1 n (4 * c + h) vv
  have hz1 := mW_in (W := W) (H := H) (K := K) (q := 1) (l := lay K 0) hw.1 hw.2.2.1 (fun c => by have := @lay_b K 0 c; omega) n (4 * c + h) vv
  have h16n := h16 n (by omega)
  have hp := p100 n
  have z2 := hz.2.1
  have ba : B63 (mW W H K w hd (lay K 0) 1 n (4 * c + h) vv) := by unfold B63; omega
  have bb : B63 (V W H K w hd (eW f K) (f 3) (f 4) n (4 * c + h) vv).2.1 := by unfold B63; omega
  have bu : B63 (mW W H K w hd (lay K 0) 1 n (4 * c + h) vv - (V W H K w hd (eW f K) (f 3) (f 4) n (4 * c + h) vv).2.1) := by unfold B63; omega
  obtain ⟨x, y, F1, F2⟩ := frac_c (g := g) (by omega) bu (d := 100 ^ n) (by unfold B63; omega) hp
  have G1 := F1 p1 47 R1 (wI I1 3 1 0) L1 0 hR1 wI_s (by omega)
  have f2 : Fr fHo I (wI (wI (wI I1 3 1 0) 3 1 (nI (0 + 2))) 90 0 0) := (((f1.sub rfl).w rfl).w rfl).w rfl
  have hMH : MH W H K w hd (wI (wI (wI I1 3 1 0) 3 1 (nI (0 + 2))) 90 0 0) := ⟨hLn.2.1.ag (f2.ag rfl), ⟨hw.1, fun t ht => ((hw.ag (f2.ag rfl)).2.1 t ht).2⟩, hw.2.2.1, (hw.ag (f2.ag rfl)).2.2.2.2⟩
  obtain ⟨L3, e3, l3, c3⟩ := wants_c (L := wL (wL L1 4 0 x) 4 (0 + 1) y) (n := n) (g := g) (by omega) hR1 hMH (want97 hR1 (hf.ag (f2.ag rfl))) hf.1 hn
  have c3' := (c3 (4 * c + h) vv (by omega) (by omega)).1
  obtain ⟨L5, e5, l5, c5⟩ := works_c (L := L3) (n := n) (c := 0) (q := 1) (g := g) (by omega) hR1 hMH (by omega) (by omega) (by omega)
  have c5' := c5 (4 * c + h) vv (by omega) (by omega)
  have f3 : Fr fHo I (wI (wI (wI (wI I1 3 1 0) 3 1 (nI (0 + 2))) 90 0 0) 90 1 0) := f2.w rfl
  have G2 := F2 p1 47 R1 (wI (wI (wI (wI I1 3 1 0) 3 1 (nI (0 + 2))) 90 0 0) 90 1 0) L5 0 hR1 wI_s (by omega)
  have f4 : Fr fHo I (wI (wI (wI (wI (wI I1 3 1 0) 3 1 (nI (0 + 2))) 90 0 0) 90 1 0) 90 1 (nI (0 + 2))) := f3.w rfl
  have eq1 : ∀ X Y : Option Int32, ifb (lg_cmp (iL (mW W H K w hd (lay K 0) 1 n (4 * c + h) vv - (V W H K w hd (eW f K) (f 3) (f 4) n (4 * c + h) vv).2.1)) 0 = 0) X Y = if mW W H K w hd (lay K 0) 1 n (4 * c + h) vv = (V W H K w hd (eW f K) (f 3) (f 4) n (4 * c + h) vv).2.1 then X else Y := by
    intro X Y
    split
    · rename_i z
      rw [ifb_pos (by rw [lg_cmp_eq, iL_0, iL_eq bu (by unfold B63; omega)]; omega)]
    · rename_i z
      rw [ifb_neg (by rw [lg_cmp_eq, iL_0, iL_eq bu (by unfold B63; omega)]; omega)]
  have eq2 : ∀ X Y : Option Int32, ifb (lg_cmp (iL (mW W H K w hd (lay K 0) 1 n (4 * c + h) vv)) (iL (V W H K w hd (eW f K) (f 3) (f 4) n (4 * c + h) vv).2.1) = 0) X Y = if mW W H K w hd (lay K 0) 1 n (4 * c + h) vv = (V W H K w hd (eW f K) (f 3) (f 4) n (4 * c + h) vv).2.1 then X else Y := by
    intro X Y
    split
    · rename_i z
      rw [ifb_pos (by rw [lg_cmp_eq, iL_eq ba bb]; exact z)]
    · rename_i z
      rw [ifb_neg (by rw [lg_cmp_eq, iL_eq ba bb]; exact z)]
  refine ⟨if mW W H K w hd (lay K 0) 1 n (4 * c + h) vv = (V W H K w hd (eW f K) (f 3) (f 4) n (4 * c + h) vv).2.1 then 1 else 0, wI (wI I1 3 1 0) 3 1 (nI (0 + 2)), wL (wL L1 4 0 x) 4 (0 + 1) y, R1, wI (wI (wI (wI (wI I1 3 1 0) 3 1 (nI (0 + 2))) 90 0 0) 90 1 0) 90 1 (nI (0 + 2)), wL (wL L5 91 0 x) 91 (0 + 1) y, ?_, ?_, ?_⟩
  · unfold f_GWL_honest f_Numbers_begin
    rw [show (5 : Int32) = nI 5 from rfl, e0, bnd1_c, ifb_neg (by decide), hw.2.2.2.1, ea, bnd4_c, r_0_7 hR0, bnd1_c, e1, bnd4_c, iL_sub, lt_c, r_0_1 hR1, bnd1_c, t_3, asrt_pos rfl, lt_c, bnd1_c, hund_c (by omega), bnd1_c, G1, bnd2_c, eq1]
    split <;> rfl
  · unfold f_Mod_honest
    rw [lt_c, few_t hn, bnd1_c, ifb_neg (by decide), r_90_21 hR1, bnd1_c, e3, bnd1_c, f2 90 10 rfl, c2.2, k2, chance_c hR1 ((f2 90 7 rfl).trans (c0.2.trans k0)) ((f2 90 8 rfl).trans (c1.2.trans k1)) (by omega) hh (by omega), bnd1_c, show f_Mod_works g S1 R1 (wI (wI (wI I1 3 1 0) 3 1 (nI (0 + 2))) 90 0 0) L3 90 (nI n) 0 1 = some L5 from e5, bnd1_c, lt_c, f3 90 10 rfl, c2.2, k2, chance_c hR1 ((f3 90 7 rfl).trans (c0.2.trans k0)) ((f3 90 8 rfl).trans (c1.2.trans k1)) (by omega) hh (by omega), bnd1_c, whole_c (by omega) (by omega), bnd1_c, c5', c3', iL_sub, G2, bnd2_c, f4 90 10 rfl, c2.2, k2, chance_c hR1 ((f4 90 7 rfl).trans (c0.2.trans k0)) ((f4 90 8 rfl).trans (c1.2.trans k1)) (by omega) hh (by omega), bnd1_c, wL_n (by omega), wL_n (by omega), c5', eq2]
    split
    · rw [bnd1_c, flag_1, bnd1_c]
    · rw [bnd1_c, flag_0, bnd1_c]
  · refine ⟨⟨_, _, hR1⟩, hTx.imp fun _ h => h.imp fun _ h => h.ag (f4.ag rfl), ?_, hWg.imp fun _ h => h.imp fun _ h => h.ag (f4.ag rfl), hFe.imp fun _ h => h.ag (f4.ag rfl), hSh.ag (f4.ag rfl), hMk.imp fun _ h => h.ag (f4.ag rfl), W, H, K, hLn.ag (f4.ag rfl), hPt.imp fun _ h => h.ag (f4.ag rfl), hPs.imp fun _ h => h.imp fun _ h => h.imp fun _ h => h.ag (f4.ag rfl), hPr.imp fun _ h => h.imp fun _ h => h.imp fun _ h => h.ag (f4.ag rfl), hKp.ag (f4.ag rfl)⟩
    refine ⟨2, fun k => if k = 0 then x else y, by omega, ?_, wI_s, fun k hk => ?_⟩
    · rw [wI_n (by omega), wI_n (by omega), wI_n (by omega), wI_s]
    · have : k = 0 ∨ k = 1 := by omega
      rcases this with rfl | rfl
      · rw [wL_n (by omega), wL_n (by omega), wL_n (by omega), wL_s, l5 4 0 rfl, l3 4 0 rfl, wL_n (by omega), wL_s]
        exact ⟨rfl, rfl⟩
      · rw [wL_n (by omega), wL_n (by omega), wL_s, l5 4 1 rfl, l3 4 1 rfl, wL_s]
        exact ⟨rfl, rfl⟩
end OM
