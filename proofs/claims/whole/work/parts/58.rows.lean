section TG
variable {W H B n : Nat} {K τ z w : Nat → Nat} {I I' : MI} {L : ML} {R : MR} {p : Bool} {fe : Nat} {q : Nat → Int32}
theorem Pri.c {h : Nat} (hP : Pri W H n h z I) : PrC W H n z I ∧ PrM W H n z I := by
  obtain ⟨h1, h2, h3, h4, h5, h6⟩ := hP
  exact ⟨⟨h1, h3, fun k hk => ⟨(h6 k hk).1, (h6 k hk).2.1⟩⟩, ⟨h1, h4, fun k hk => ⟨(h6 k hk).1, (h6 k hk).2.2⟩⟩⟩
theorem op_rows {g : Nat} (hg : 1000000000 ≤ g) (hC : Cp B I L R) : ∃ v I1 L1 I2 L2, f_GWL_rows g S1 R I L 0 = some (v, I1, L1) ∧ f_Mod_rows g S1 R I1 L1 90 = some (v, I2, L2) ∧ Cp (B + 1) I2 L2 R := by
  obtain ⟨⟨p, fe, hR⟩, hTx, hRw, hWg, hFe, hSh, hMk, W, H, K, hLn, hPt, hPs, hPr, hKp⟩ := hC
  have f0 : Fr [(90, some 0)] I (wI I 90 0 0) := Fr.w Fr.rf rfl
  have fin : Cp (B + 1) (wI I 90 0 0) L R := by
    refine ⟨⟨_, _, hR⟩, hTx.imp fun _ h => h.imp fun _ h => h.ag (f0.ag rfl), hRw.imp fun _ h => h.imp fun _ h => h.ag (f0.ag rfl) (fun _ _ _ => rfl), hWg.imp fun _ h => h.imp fun _ h => h.ag (f0.ag rfl), hFe.imp fun _ h => h.ag (f0.ag rfl), hSh.ag (f0.ag rfl), hMk.imp fun _ h => h.ag (f0.ag rfl), W, H, K, hLn.ag (f0.ag rfl), hPt.imp fun _ h => h.ag (f0.ag rfl), hPs.imp fun _ h => h.imp fun _ h => h.imp fun _ h => h.ag (f0.ag rfl), hPr.imp fun _ h => h.imp fun _ h => h.imp fun _ h => h.ag (f0.ag rfl), hKp.ag (f0.ag rfl)⟩
  obtain ⟨n, h, z, hz⟩ := id hPr
  obtain ⟨w, hd, hw⟩ := id hWg
  obtain ⟨hPc, hPm⟩ := hz.c
  obtain ⟨z1, z2, z3, z4, z5, z6⟩ := id hz
  have hN := hLn.1.N36
  have hg' : 1000 ≤ g := by omega
  by_cases hn : n = 0
  · refine ⟨-2, I, L, _, L, ?_, ?_, fin⟩
    · unfold f_GWL_rows
      rw [r_0_17 hR, bnd1_c, t_77, asrt_pos rfl, z3, ifb_pos (by rw [hn]; rfl)]
    · unfold f_Mod_rows
      rw [lt_c, wI_n (by omega), z4, ifb_pos (by rw [hn]; rfl)]
  have hn0 : 0 < n := by omega
  obtain ⟨h75, h43⟩ := z5 hn0
  obtain ⟨⟨I1, L1⟩, e1, a1, b1, j1, l1, d1, t1⟩ := traceC (L := L) (jd := 0) hg' hR hLn hw hPc hn0 (by omega)
  simp only at a1 b1 j1 l1 d1 t1
  have e1' : f_Prints_trace g S1 R I L 77 0 = some (I1, L1) := e1
  have hb : ∀ s, s < 4 * (W * H) → (∃ d, d ≤ 144 ∧ DH W H K s d) ∨ ∀ d, ¬ rch W H K d s := fun s hs => HW_b (d1 s (by omega))
  have hwl := @WY_lt W H n K z (n - 1) h (by omega)
  have f1b : Fr [(3, some 1)] I1 (wI I1 3 1 0) := Fr.w Fr.rf rfl
  have tb1 : TbC W H K w z n 0 0 (wI I1 3 1 0) L1 := fun k a b c d => by rw [f1b 80 _ rfl]; exact t1 k a b c d
  have p75 : wI I1 3 1 0 77 5 = nI h := by rw [f1b 77 5 rfl, a1 77 5 rfl, h75]
  -- what the class tells
  obtain ⟨m, J1, M1, hm, eT, x1, y1, c1, d2⟩ : ∃ m J1 M1, m ≤ n - 1 ∧ f_Prints_tellLeast g S1 R (wI I1 3 1 0) L1 77 3 = some (J1, M1) ∧ Fr [(3, some 1)] I1 J1 ∧ FrL [(4, none)] L1 M1 ∧ (J1 3 1 = nI m ∧ ∀ j, j < m → M1 4 j = (nI (phV W H K z (lmJ W H K w z 0) n h j)).toInt64) ∧ ((WY W H K z n (n - 1) h = 0 ∧ m = 0) ∨ (WY W H K z n (n - 1) h ≠ 0 ∧ m = n - 1)) := by
    by_cases hW0 : WY W H K z n (n - 1) h = 0
    · refine ⟨0, wI I1 3 1 0, L1, by omega, ?_, f1b, FrL.rf, ⟨wI_s, fun j hj => by omega⟩, Or.inl ⟨hW0, rfl⟩⟩
      unfold f_Prints_tellLeast
      obtain ⟨g, rfl⟩ : ∃ g', g = g' + 1 := ⟨g - 1, by omega⟩
      rw [p75, lt_c, l_Prints_tellLeast_7]
      have hP1 := (hPc.ag (a1.ag rfl)).ag (f1b.ag rfl)
      rw [hP1.2.1, sub1 (by omega)]
      by_cases h1 : n = 1
      · rw [ifb_pos (by rw [nI0, le32 (by omega) (by omega)]; omega), bnd2_c]
      · rw [ifb_neg (by rw [nI0, le32 (by omega) (by omega)]; omega), fewest_v hR hn0 z2 p75 tb1, bnd1_c, ifb_pos (enc_m1.mpr (by rw [LY0, if_pos hW0]; omega)), bnd2_c]
    · have hf0 : LY W H K z (lmJ W H K w z 0) n (n - 1) h < 1000000 := by rw [LY0, if_neg hW0]; omega
      obtain ⟨⟨J1, M1⟩, e2, x, y, c, d⟩ := tell_l (w := w) (hd := hd) hg' hR (jd := 0) (by omega) z2 hf0 hn0 g 0 (wI I1 3 1 0) L1 (l1.1.ag (f1b.ag rfl)) (l1.2.2.1.ag (f1b.ag rfl)) ((hw.ag (a1.ag rfl)).ag (f1b.ag rfl)) (fun s hs => by rw [f1b 63 s rfl]; exact d1 s hs) ((hPc.ag (a1.ag rfl)).ag (f1b.ag rfl)) ((f1b 77 7 rfl).trans j1) p75 tb1 (by omega) (by omega) wI_s (fun j hj => by omega)
      simp only at x y c d
      refine ⟨n - 1, J1, M1, Nat.le_refl _, ?_, f1b.tr x, y, ⟨c, d⟩, Or.inr ⟨hW0, rfl⟩⟩
      unfold f_Prints_tellLeast
      rw [p75, lt_c, show l_Prints_tellLeast_7 g S1 R 77 3 g (wI I1 3 1 0) L1 (nI h) 0 = some (J1, M1) from e2, bnd2_c]
  have fA : Fr [(77, some 7), (63, none), (60, some 5), (80, none), (3, some 1), (90, some 0)] I (wI J1 90 0 0) := ((a1.sub rfl).tr (x1.sub rfl)).w rfl
  have hwA := hw.ag (fA.ag rfl)
  obtain ⟨⟨I3, L3⟩, e3, a3, b3, d3, t3⟩ := traceM (L := M1) (w := w) (hd := hd) hg hR (I := wI J1 90 0 0) (hLn.2.1.ag (fA.ag rfl)) hwA (hPm.ag (fA.ag rfl)) hn0 hb
  simp only at a3 b3 d3 t3
  have f3b : Fr [(90, some 1)] I3 (wI I3 90 1 0) := Fr.w Fr.rf rfl
  have fB : Fr [(77, some 7), (63, none), (60, some 5), (80, none), (3, some 1), (90, some 0), (100, none), (116, none)] I I3 := (fA.sub rfl).tr (a3.sub rfl)
  have p43 : wI I3 90 1 0 90 43 = nI h := by rw [f3b 90 43 rfl, fB 90 43 rfl, h43]
  have ttop : L3 115 h = lN (WY W H K z n (n - 1) h) := by
    have := (t3 0 (by omega) hn0 h z2).2
    rw [Nat.mul_zero, Nat.zero_add, Nat.sub_zero] at this
    exact this
  obtain ⟨J2, M2, e4, x2, y2, c2, d4⟩ : ∃ J2 M2, l_Mod_rows_32 g S1 R 90 g (wI I3 90 1 0) L3 (nI h) 0 = some (J2, M2) ∧ Fr [(90, some 1)] I3 J2 ∧ FrL [(91, none)] L3 M2 ∧ J2 90 1 = nI m ∧ ∀ j, j < m → M2 91 j = (nI (phV W H K z (lmJ W H K w z 0) n h j)).toInt64 := by
    rcases d2 with ⟨hW0, rfl⟩ | ⟨hW0, rfl⟩
    · refine ⟨wI I3 90 1 0, L3, ?_, f3b, FrL.rf, wI_s, fun j hj => by omega⟩
      obtain ⟨g, rfl⟩ : ∃ g', g = g' + 1 := ⟨g - 1, by omega⟩
      have hP3 := (hPm.ag (fB.ag rfl)).ag (f3b.ag rfl)
      rw [l_Mod_rows_32, hP3.2.1, sub1 (by omega)]
      by_cases h1 : n = 1
      · rw [ifb_pos (by rw [nI0, le32 (by omega) (by omega)]; omega)]
      · rw [ifb_neg (by rw [nI0, le32 (by omega) (by omega)]; omega), r_90_45 hR, bnd1_c, p43, lt_c, t_115, asrt_pos rfl, asrt_pos (vir (by omega) (by omega)), cl32 (by omega), ttop, hW0, ifb_pos (by rw [lg_cmp_le]; decide)]
    · have hf0 : LY W H K z (lmJ W H K w z 0) n (n - 1) h < 1000000 := by rw [LY0, if_neg hW0]; omega
      obtain ⟨⟨J2, M2⟩, e4, x, y, c, d⟩ := mrows_l (w := w) hg' hR z2 hf0 hn0 g 0 (wI I3 90 1 0) L3 ((hLn.2.1.ag (fB.ag rfl)).ag (f3b.ag rfl)) ((hPm.ag (fB.ag rfl)).ag (f3b.ag rfl)) p43 (fun k hk h' hh' => (t3 k (by omega) hk h' hh').2) (by omega) (by omega) wI_s (fun j hj => by omega)
      exact ⟨J2, M2, e4, f3b.tr x, y, c, d⟩
  have fC : Fr [(77, some 7), (63, none), (60, some 5), (80, none), (3, some 1), (90, some 0), (100, none), (116, none), (90, some 1)] I J2 := (fB.sub rfl).tr (x2.sub rfl)
  have f13 : Fr [(90, some 0), (100, none), (116, none), (90, some 1)] J1 J2 := ((Fr.w Fr.rf rfl).tr (a3.sub rfl)).tr (x2.sub rfl)
  have hL2 : Lnd W H K J2 := l1.ag (Fr.ag (l := [(3, some 1), (90, some 0), (100, none), (116, none), (90, some 1)]) ((x1.sub rfl).tr (f13.sub rfl)) rfl)
  refine ⟨lN (WY W H K z n (n - 1) h), J1, M1, J2, M2, ?_, ?_, ?_⟩
  · unfold f_GWL_rows f_Numbers_begin
    have hTJ : TbC W H K w z n 0 0 J1 M1 := fun k a b c d => by
      rw [x1 80 _ rfl, y1 79 _ rfl]
      exact t1 k a b c d
    rw [r_0_17 hR, bnd1_c, t_77, asrt_pos rfl, z3, ifb_neg (by rw [nI0, eq32 (by omega) (by omega)]; omega), e1', bnd2_c, r_0_1 hR, bnd1_c, t_3, asrt_pos rfl, lt_c, bnd1_c, eT, bnd2_c, many_v hR hn0 z2 (by rw [x1 77 5 rfl, a1 77 5 rfl, h75]) hTJ, bnd1_c]
  · unfold f_Mod_rows
    rw [lt_c, fA 90 42 rfl, z4, ifb_neg (by rw [nI0, eq32 (by omega) (by omega)]; omega), e3, bnd2_c, lt_c, p43, lt_c, e4, bnd2_c, r_90_45 hR, bnd1_c, fC 90 43 rfl, h43, lt_c, t_115, asrt_pos rfl, asrt_pos (vir (by omega) (by omega)), lt_c, cl32 (by omega), y2 115 _ rfl, ttop]
  · refine ⟨⟨_, _, hR⟩, hTx.imp fun _ h => h.imp fun _ h => h.ag (fC.ag rfl), ?_, hWg.imp fun _ h => h.imp fun _ h => h.ag (fC.ag rfl), hFe.imp fun _ h => h.ag (fC.ag rfl), hSh.ag (fC.ag rfl), hMk.imp fun _ h => h.ag (fC.ag rfl), W, H, K, ?_, hPt.imp fun _ h => h.ag (fC.ag rfl), hPs.imp fun _ h => h.imp fun _ h => h.imp fun _ h => h.ag (fC.ag rfl), hPr.imp fun _ h => h.imp fun _ h => h.imp fun _ h => h.ag (fC.ag rfl), hKp.ag (fC.ag rfl)⟩
    · exact ⟨m, fun j => (nI (phV W H K z (lmJ W H K w z 0) n h j)).toInt64, by omega, (f13 3 1 rfl).trans c1.1, c2, fun j hj => ⟨by rw [y2 4 j rfl, b3 4 j rfl]; exact c1.2 j hj, d4 j hj⟩⟩
    · exact hL2
theorem op_lies {g : Nat} (hg : 1000000000 ≤ g) (hC : Cp B I L R) : ∃ v I1 L1 I2 L2, f_GWL_lies g S1 R I L 0 = some (v, I1, L1) ∧ f_Mod_lies g S1 R I1 L1 90 = some (v, I2, L2) ∧ Cp (B + 1) I2 L2 R := by
  obtain ⟨⟨p, fe, hR⟩, hTx, hRw, hWg, hFe, hSh, hMk, W, H, K, hLn, hPt, hPs, hPr, hKp⟩ := hC
  have f0 : Fr [(90, some 0)] I (wI I 90 0 0) := Fr.w Fr.rf rfl
  have fin : Cp (B + 1) (wI I 90 0 0) L R := by
    refine ⟨⟨_, _, hR⟩, hTx.imp fun _ h => h.imp fun _ h => h.ag (f0.ag rfl), hRw.imp fun _ h => h.imp fun _ h => h.ag (f0.ag rfl) (fun _ _ _ => rfl), hWg.imp fun _ h => h.imp fun _ h => h.ag (f0.ag rfl), hFe.imp fun _ h => h.ag (f0.ag rfl), hSh.ag (f0.ag rfl), hMk.imp fun _ h => h.ag (f0.ag rfl), W, H, K, hLn.ag (f0.ag rfl), hPt.imp fun _ h => h.ag (f0.ag rfl), hPs.imp fun _ h => h.imp fun _ h => h.imp fun _ h => h.ag (f0.ag rfl), hPr.imp fun _ h => h.imp fun _ h => h.imp fun _ h => h.ag (f0.ag rfl), hKp.ag (f0.ag rfl)⟩
  obtain ⟨n, h, z, hz⟩ := id hPr
  obtain ⟨w, hd, hw⟩ := id hWg
  obtain ⟨hPc, hPm⟩ := hz.c
  obtain ⟨z1, z2, z3, z4, z5, z6⟩ := id hz
  have hN := hLn.1.N36
  have hg' : 1000 ≤ g := by omega
  by_cases hn : n = 0
  · refine ⟨-1, I, L, _, L, ?_, ?_, fin⟩
    · unfold f_GWL_lies
      rw [r_0_17 hR, bnd1_c, t_77, asrt_pos rfl, z3, ifb_pos (by rw [hn]; rfl)]
    · unfold f_Mod_lies
      rw [lt_c, wI_n (by omega), z4, ifb_pos (by rw [hn]; rfl)]
  have hn0 : 0 < n := by omega
  obtain ⟨h75, h43⟩ := z5 hn0
  obtain ⟨⟨I1, L1⟩, e1, a1, b1, j1, l1, d1, t1⟩ := traceC (L := L) (jd := 1) hg' hR hLn hw hPc hn0 (by omega)
  simp only at a1 b1 j1 l1 d1 t1
  have e1' : f_Prints_trace g S1 R I L 77 1 = some (I1, L1) := e1
  have hb : ∀ s, s < 4 * (W * H) → (∃ d, d ≤ 144 ∧ DH W H K s d) ∨ ∀ d, ¬ rch W H K d s := fun s hs => HW_b (d1 s (by omega))
  have p75 : I1 77 5 = nI h := by rw [a1 77 5 rfl, h75]
  have hLle := @LY_le W H n K z (lie W H K w z) (n - 1) h
  have hfew := fewest_v hR hn0 z2 p75 t1
  rw [lmJ_1] at hfew
  by_cases hM0 : 1000000 ≤ LY W H K z (lie W H K w z) n (n - 1) h
  · have fA : Fr [(77, some 7), (63, none), (60, some 5), (80, none), (90, some 0)] I (wI I1 90 0 0) := (a1.sub rfl).w rfl
    obtain ⟨⟨I3, L3⟩, e3, a3, b3, d3, t3⟩ := traceM (L := L1) (w := w) (hd := hd) hg hR (I := wI I1 90 0 0) (hLn.2.1.ag (fA.ag rfl)) (hw.ag (fA.ag rfl)) (hPm.ag (fA.ag rfl)) hn0 hb
    simp only at a3 b3 d3 t3
    have fB : Fr [(77, some 7), (63, none), (60, some 5), (80, none), (90, some 0), (100, none), (116, none)] I I3 := (fA.sub rfl).tr (a3.sub rfl)
    have ttop : I3 116 h = nI (LY W H K z (lie W H K w z) n (n - 1) h) := by
      have := (t3 0 (by omega) hn0 h z2).1
      rw [Nat.mul_zero, Nat.zero_add, Nat.sub_zero] at this
      exact this
    have hL3 : Lnd W H K I3 := l1.ag (Fr.ag (l := [(90, some 0), (100, none), (116, none)]) ((Fr.w Fr.rf rfl).tr (a3.sub rfl)) rfl)
    refine ⟨-2, I1, L1, I3, L3, ?_, ?_, ?_⟩
    · unfold f_GWL_lies
      rw [r_0_17 hR, bnd1_c, t_77, asrt_pos rfl, z3, ifb_neg (by rw [nI0, eq32 (by omega) (by omega)]; omega), e1', bnd2_c, hfew, bnd1_c, ifb_pos (enc_m1.mpr hM0)]
    · unfold f_Mod_lies
      rw [lt_c, fA 90 42 rfl, z4, ifb_neg (by rw [nI0, eq32 (by omega) (by omega)]; omega), e3, bnd2_c, r_90_46 hR, bnd1_c, fB 90 43 rfl, h43, lt_c, t_116, asrt_pos rfl, asrt_pos (vir (by omega) (by omega)), lt_c, cl32 (by omega), ttop, ifb_neg (by rw [show (1000000 : Int32) = nI 1000000 from rfl, lt32 (by omega) (by omega)]; omega)]
    · have bL : FrL [(79, none), (115, none)] L L3 := (b1.sub rfl).tr (b3.sub rfl)
      refine ⟨⟨_, _, hR⟩, hTx.imp fun _ h => h.imp fun _ h => h.ag (fB.ag rfl), hRw.imp fun _ h => h.imp fun _ h => h.ag (fB.ag rfl) (bL.ag rfl), hWg.imp fun _ h => h.imp fun _ h => h.ag (fB.ag rfl), hFe.imp fun _ h => h.ag (fB.ag rfl), hSh.ag (fB.ag rfl), hMk.imp fun _ h => h.ag (fB.ag rfl), W, H, K, ?_, hPt.imp fun _ h => h.ag (fB.ag rfl), hPs.imp fun _ h => h.imp fun _ h => h.imp fun _ h => h.ag (fB.ag rfl), hPr.imp fun _ h => h.imp fun _ h => h.imp fun _ h => h.ag (fB.ag rfl), hKp.ag (fB.ag rfl)⟩
      exact hL3
  · have hf0 : LY W H K z (lmJ W H K w z 1) n (n - 1) h < 1000000 := by rw [lmJ_1]; omega
    have hf1 : LY W H K z (lie W H K w z) n (n - 1) h < 1000000 := by omega
    have f1b : Fr [(3, some 1)] I1 (wI I1 3 1 0) := Fr.w Fr.rf rfl
    have tb1 : TbC W H K w z n 1 0 (wI I1 3 1 0) L1 := fun k a b c d => by rw [f1b 80 _ rfl]; exact t1 k a b c d
    obtain ⟨⟨J1, M1⟩, e2, x1, y1, c1, d2⟩ := tell_l (w := w) (hd := hd) hg' hR (jd := 1) (by omega) z2 hf0 hn0 g 0 (wI I1 3 1 0) L1 (l1.1.ag (f1b.ag rfl)) (l1.2.2.1.ag (f1b.ag rfl)) ((hw.ag (a1.ag rfl)).ag (f1b.ag rfl)) (fun s hs => by rw [f1b 63 s rfl]; exact d1 s hs) ((hPc.ag (a1.ag rfl)).ag (f1b.ag rfl)) ((f1b 77 7 rfl).trans j1) ((f1b 77 5 rfl).trans p75) tb1 (by omega) (by omega) wI_s (fun j hj => by omega)
    simp only at x1 y1 c1 d2
    rw [lmJ_1] at d2
    have x1' : Fr [(3, some 1)] I1 J1 := f1b.tr x1
    have fA : Fr [(77, some 7), (63, none), (60, some 5), (80, none), (3, some 1), (90, some 0)] I (wI J1 90 0 0) := ((a1.sub rfl).tr (x1'.sub rfl)).w rfl
    obtain ⟨⟨I3, L3⟩, e3, a3, b3, d3, t3⟩ := traceM (L := M1) (w := w) (hd := hd) hg hR (I := wI J1 90 0 0) (hLn.2.1.ag (fA.ag rfl)) (hw.ag (fA.ag rfl)) (hPm.ag (fA.ag rfl)) hn0 hb
    simp only at a3 b3 d3 t3
    have f3b : Fr [(90, some 1)] I3 (wI I3 90 1 0) := Fr.w Fr.rf rfl
    have fB : Fr [(77, some 7), (63, none), (60, some 5), (80, none), (3, some 1), (90, some 0), (100, none), (116, none)] I I3 := (fA.sub rfl).tr (a3.sub rfl)
    have ttop : I3 116 h = nI (LY W H K z (lie W H K w z) n (n - 1) h) := by
      have := (t3 0 (by omega) hn0 h z2).1
      rw [Nat.mul_zero, Nat.zero_add, Nat.sub_zero] at this
      exact this
    have tb3 : TbM W H K w z n 0 (wI I3 90 1 0) L3 := fun k a b c d => by rw [f3b 116 _ rfl]; exact t3 k a b c d
    obtain ⟨⟨J2, M2⟩, e4, x2, y2, c2, d4⟩ := mlies_l (w := w) (hd := hd) hg' hR z2 hf1 (v1 := nI (LY W H K z (lie W H K w z) n (n - 1) h)) g 0 (wI I3 90 1 0) L3 ((hLn.2.1.ag (fB.ag rfl)).ag (f3b.ag rfl)) ((hw.ag (fB.ag rfl)).ag (f3b.ag rfl)) (fun s hs => by rw [f3b 100 s rfl]; exact d3 s hs) ((hPm.ag (fB.ag rfl)).ag (f3b.ag rfl)) tb3 (by omega) (by omega) wI_s (fun j hj => by omega)
    simp only at x2 y2 c2 d4
    have x2' : Fr [(90, some 1)] I3 J2 := f3b.tr x2
    have fC : Fr [(77, some 7), (63, none), (60, some 5), (80, none), (3, some 1), (90, some 0), (100, none), (116, none), (90, some 1)] I J2 := (fB.sub rfl).tr (x2'.sub rfl)
    have f13 : Fr [(90, some 0), (100, none), (116, none), (90, some 1)] J1 J2 := ((Fr.w Fr.rf rfl).tr (a3.sub rfl)).tr (x2'.sub rfl)
    have hL2 : Lnd W H K J2 := l1.ag (Fr.ag (l := [(3, some 1), (90, some 0), (100, none), (116, none), (90, some 1)]) ((x1'.sub rfl).tr (f13.sub rfl)) rfl)
    refine ⟨nI (LY W H K z (lie W H K w z) n (n - 1) h), J1, M1, J2, M2, ?_, ?_, ?_⟩
    · have eT : f_Prints_tellLeast g S1 R (wI I1 3 1 0) L1 77 3 = some (J1, M1) := by
        unfold f_Prints_tellLeast
        rw [wI_n (by omega), p75, lt_c, show l_Prints_tellLeast_7 g S1 R 77 3 g (wI I1 3 1 0) L1 (nI h) 0 = some (J1, M1) from e2, bnd2_c]
      unfold f_GWL_lies f_Numbers_begin
      rw [r_0_17 hR, bnd1_c, t_77, asrt_pos rfl, z3, ifb_neg (by rw [nI0, eq32 (by omega) (by omega)]; omega), e1', bnd2_c, hfew, bnd1_c, ifb_neg (fun qq => hM0 (enc_m1.mp qq)), r_0_1 hR, bnd1_c, t_3, asrt_pos rfl, lt_c, bnd1_c, eT, bnd2_c]
      unfold enc
      rw [if_pos hf1]
    · unfold f_Mod_lies
      rw [lt_c, fA 90 42 rfl, z4, ifb_neg (by rw [nI0, eq32 (by omega) (by omega)]; omega), e3, bnd2_c, r_90_46 hR, bnd1_c, fB 90 43 rfl, h43, lt_c, t_116, asrt_pos rfl, asrt_pos (vir (by omega) (by omega)), lt_c, cl32 (by omega), ttop, ifb_pos (by rw [show (1000000 : Int32) = nI 1000000 from rfl, lt32 (by omega) (by omega)]; omega),
        lt_c, wI_n (by omega), fB 90 43 rfl, h43, lt_c, show l_Mod_lies_50 g S1 R 90 (nI (LY W H K z (lie W H K w z) n (n - 1) h)) g (wI I3 90 1 0) L3 (nI h) 0 = some (J2, M2) from e4, bnd2_c]
    · refine ⟨⟨_, _, hR⟩, hTx.imp fun _ h => h.imp fun _ h => h.ag (fC.ag rfl), ?_, hWg.imp fun _ h => h.imp fun _ h => h.ag (fC.ag rfl), hFe.imp fun _ h => h.ag (fC.ag rfl), hSh.ag (fC.ag rfl), hMk.imp fun _ h => h.ag (fC.ag rfl), W, H, K, ?_, hPt.imp fun _ h => h.ag (fC.ag rfl), hPs.imp fun _ h => h.imp fun _ h => h.imp fun _ h => h.ag (fC.ag rfl), hPr.imp fun _ h => h.imp fun _ h => h.imp fun _ h => h.ag (fC.ag rfl), hKp.ag (fC.ag rfl)⟩
      · exact ⟨n - 1, fun j => (nI (phV W H K z (lie W H K w z) n h j)).toInt64, by omega, (f13 3 1 rfl).trans c1, c2, fun j hj => ⟨by rw [y2 4 j rfl, b3 4 j rfl]; exact d2 j hj, d4 j hj⟩⟩
      · exact hL2
end TG
