section OB
variable {W H B n : Nat} {K τ : Nat → Nat} {I I' : MI} {L : ML} {R : MR} {p : Bool} {fe : Nat}
theorem vir {n N : Nat} (h : n < N) (hN : n < 2147483648) : vp_in (nI n) N := (vi32 hN).mpr h
theorem Ptyq {q' : Nat → Int32} (hP : Pok W H q') (h0 : I' 64 0 = q' 0 ∧ I' 90 7 = q' 0) (h1 : I' 64 1 = q' 1 ∧ I' 90 8 = q' 1) (h2 : I' 64 2 = q' 2 ∧ I' 90 10 = q' 2) (h3 : I' 64 3 = q' 3 ∧ I' 90 12 = q' 3) (h4 : I' 64 4 = q' 4 ∧ I' 90 13 = q' 4) (h5 : I' 64 5 = q' 5 ∧ I' 90 14 = q' 5)
    (ht : ∀ k, k < 36 → I' 65 k = q' (7 + k) ∧ I' 94 k = q' (7 + k)) : Pty W H q' I' :=
  ⟨hP, ⟨⟨h0.1, h1.1, h2.1, h3.1, h4.1, h5.1⟩, fun k hk => (ht k hk).1⟩, ⟨h0.2, h1.2, h2.2, h3.2, h4.2, h5.2⟩, fun k hk => (ht k hk).2⟩
theorem Pty.d {q : Nat → Int32} (h : Pty W H q I) : Pok W H q ∧ (I 64 0 = q 0 ∧ I 90 7 = q 0) ∧ (I 64 1 = q 1 ∧ I 90 8 = q 1) ∧ (I 64 2 = q 2 ∧ I 90 10 = q 2) ∧ (I 64 3 = q 3 ∧ I 90 12 = q 3) ∧ (I 64 4 = q 4 ∧ I 90 13 = q 4) ∧ (I 64 5 = q 5 ∧ I 90 14 = q 5) ∧ ∀ k, k < 36 → I 65 k = q (7 + k) ∧ I 94 k = q (7 + k) := by
  obtain ⟨hP, ⟨⟨c0, c1, c2, c3, c4, c5⟩, c6⟩, ⟨d0, d1, d2, d3, d4, d5⟩, d6⟩ := h
  exact ⟨hP, ⟨c0, d0⟩, ⟨c1, d1⟩, ⟨c2, d2⟩, ⟨c3, d3⟩, ⟨c4, d4⟩, ⟨c5, d5⟩, fun k hk => ⟨c6 k hk, d6 k hk⟩⟩
theorem op_track (hC : Cp B I L R) (x : Int32) : ∃ v I2, f_GWL_track S1 R I 0 x = some v ∧ f_Mod_track S1 R I 90 x = some (v, I2) ∧ Cp (B + 1) I2 L R := by
  obtain ⟨⟨p, fe, hR⟩, hTx, hRw, hWg, hFe, hSh, hMk, W, H, K, hLn, hPt, hPs, hPr, hKp⟩ := hC
  obtain ⟨q, hq⟩ := hPt
  have f1 : Fr [(90, some 0)] I (wI I 90 0 0) := Fr.w Fr.rf rfl
  have hM := hLn.2.1.ag (f1.ag rfl)
  have hN := hLn.1.N36
  rcases ix3 x (W * H) (by omega) with hx | ⟨c, hc, rfl⟩
  · refine ⟨-1, wI I 90 0 0, ?_, ?_, ?_⟩
    · unfold f_GWL_track
      rw [r_0_2 hR, bnd1_c, t_60, asrt_pos rfl, has_out hLn.1 hx, bnd1_c, ifb_pos rfl]; rfl
    · unfold f_Mod_track
      rw [lt_c, isCell_out hM hx, bnd1_c, ifb_pos rfl]; rfl
    · refine ⟨⟨_, _, hR⟩, hTx.imp fun _ h => h.imp fun _ h => h.ag (f1.ag rfl), hRw.imp fun _ h => h.imp fun _ h => h.ag (f1.ag rfl) (fun _ _ _ => rfl), hWg.imp fun _ h => h.imp fun _ h => h.ag (f1.ag rfl), hFe.imp fun _ h => h.ag (f1.ag rfl), hSh.ag (f1.ag rfl), hMk.imp fun _ h => h.ag (f1.ag rfl), W, H, K, hLn.ag (f1.ag rfl), ?_, hPs.imp fun _ h => h.imp fun _ h => h.imp fun _ h => h.ag (f1.ag rfl), hPr.imp fun _ h => h.imp fun _ h => h.imp fun _ h => h.ag (f1.ag rfl), hKp.ag (f1.ag rfl)⟩
      exact ⟨q, hq.ag (f1.ag rfl)⟩
  · refine ⟨q (7 + c), wI I 90 0 0, ?_, ?_, ?_⟩
    · unfold f_GWL_track f_Party_trackFrom
      rw [r_0_2 hR, bnd1_c, t_60, asrt_pos rfl, has_in hLn.1 hc, bnd1_c, ifb_neg (by decide), r_0_3 hR, bnd1_c, t_64, asrt_pos rfl, ifb_neg (zn (by omega)), show (36 : Int32) = nI 36 from rfl, ifb_neg (by rw [le32 (by omega) (by omega)]; omega),
        r_64_6 hR, bnd1_c, t_65, asrt_pos rfl, asrt_pos (vir (by omega) (by omega)), cl32 (by omega), hq.2.1.2 c (by omega)]
      rfl
    · unfold f_Mod_track
      rw [lt_c, isCell_in hM hc, bnd1_c, ifb_neg (by decide), r_90_15 hR, bnd1_c, t_94, asrt_pos rfl, asrt_pos (vir (by omega) (by omega)), cl32 (by omega), wI_n (by omega), hq.2.2.2 c (by omega)]; rfl
    · refine ⟨⟨_, _, hR⟩, hTx.imp fun _ h => h.imp fun _ h => h.ag (f1.ag rfl), hRw.imp fun _ h => h.imp fun _ h => h.ag (f1.ag rfl) (fun _ _ _ => rfl), hWg.imp fun _ h => h.imp fun _ h => h.ag (f1.ag rfl), hFe.imp fun _ h => h.ag (f1.ag rfl), hSh.ag (f1.ag rfl), hMk.imp fun _ h => h.ag (f1.ag rfl), W, H, K, hLn.ag (f1.ag rfl), ?_, hPs.imp fun _ h => h.imp fun _ h => h.imp fun _ h => h.ag (f1.ag rfl), hPr.imp fun _ h => h.imp fun _ h => h.imp fun _ h => h.ag (f1.ag rfl), hKp.ag (f1.ag rfl)⟩
      exact ⟨q, hq.ag (f1.ag rfl)⟩
theorem fate_in (h : LKc W H K I) (hR : RG p fe R) {c : Nat} (hc : c < W * H) : f_GWL_fate S1 R I 0 (nI c) = some (if K c = 1 then 1 else if K c = 3 then 2 else 0) := by
  have hk := h.2.2.1 c
  unfold f_GWL_fate
  rw [r_0_2 hR, bnd1_c, t_60, asrt_pos rfl, kindOf_in h hR hc, bnd1_c]
  generalize K c = k at hk
  rcases k4 hk with rfl | rfl | rfl | rfl
  · rw [ifb_neg (by decide), ifb_neg (by decide)]; rfl
  · rw [ifb_pos (by decide)]; rfl
  · rw [ifb_neg (by decide), ifb_neg (by decide)]; rfl
  · rw [ifb_neg (by decide), ifb_pos (by decide)]; rfl
theorem endOf_c {k : Nat} (hk : k < 4) : f_Mod_endOf (nI k) = some (if k = 1 then 1 else if k = 3 then 2 else 0) := by
  unfold f_Mod_endOf
  rcases k4 hk with rfl | rfl | rfl | rfl
  · rw [ifb_neg (by decide), ifb_neg (by decide)]; rfl
  · rw [ifb_pos (by decide)]; rfl
  · rw [ifb_neg (by decide), ifb_neg (by decide)]; rfl
  · rw [ifb_neg (by decide), ifb_pos (by decide)]; rfl
theorem op_count (hC : Cp B I L R) (x : Int32) : ∃ v I2, f_GWL_count S1 R I 0 x = some v ∧ f_Mod_count S1 R I 90 x = some (v, I2) ∧ Cp (B + 1) I2 L R := by
  obtain ⟨⟨p, fe, hR⟩, hTx, hRw, hWg, hFe, hSh, hMk, W, H, K, hLn, hPt, hPs, hPr, hKp⟩ := hC
  have f1 : Fr [(90, some 0)] I (wI I 90 0 0) := Fr.w Fr.rf rfl
  have fin : Cp (B + 1) (wI I 90 0 0) L R := by
    refine ⟨⟨_, _, hR⟩, hTx.imp fun _ h => h.imp fun _ h => h.ag (f1.ag rfl), hRw.imp fun _ h => h.imp fun _ h => h.ag (f1.ag rfl) (fun _ _ _ => rfl), hWg.imp fun _ h => h.imp fun _ h => h.ag (f1.ag rfl), hFe.imp fun _ h => h.ag (f1.ag rfl), hSh.ag (f1.ag rfl), hMk.imp fun _ h => h.ag (f1.ag rfl), W, H, K, hLn.ag (f1.ag rfl), hPt.imp fun _ h => h.ag (f1.ag rfl), hPs.imp fun _ h => h.imp fun _ h => h.imp fun _ h => h.ag (f1.ag rfl), hPr.imp fun _ h => h.imp fun _ h => h.imp fun _ h => h.ag (f1.ag rfl), hKp.ag (f1.ag rfl)⟩
  obtain ⟨q, hq⟩ := hPt
  obtain ⟨⟨⟨c, hc, e0⟩, -⟩, ⟨a0, b0⟩, ⟨a1, b1⟩, ⟨a2, b2⟩, ⟨a3, b3⟩, ⟨a4, b4⟩, ⟨a5, b5⟩, -⟩ := hq.d
  obtain ⟨n, τ, -, t1, t2, -⟩ := hTx
  obtain ⟨m, ρ, -, w1, w2, -⟩ := hRw
  obtain ⟨pn, nx, u, -, -, -, p1, p2, -⟩ := hPs
  obtain ⟨zn, zh, z, -, -, z1, z2, -⟩ := hPr
  obtain ⟨-, -, -, k1, k2, -⟩ := hLn.1
  obtain ⟨-, -, -, m1, m2, m3⟩ := hLn.2.1
  have hN := hLn.1.N36
  have hw : ∀ k, k ≠ 0 → wI I 90 0 0 90 k = I 90 k := fun k hk => wI_n (by omega)
  unfold f_GWL_count f_Mod_count
  by_cases h0 : x = 0
  · refine ⟨nI (W * H), _, ?_, ?_, fin⟩
    · rw [ifb_pos h0, r_0_2 hR, bnd1_c, t_60, asrt_pos rfl]
      unfold f_Land_size
      rw [k1, k2, pk_mul]; rfl
    · rw [lt_c, ifb_pos h0]
      unfold f_Mod_cells
      rw [hw _ (by omega), hw _ (by omega), m1, m2, pk_mul]; rfl
  rw [ifb_neg h0, lt_c, ifb_neg h0]
  by_cases h1 : x = 1
  · refine ⟨nI W, _, ?_, ?_, fin⟩
    · rw [ifb_pos h1, r_0_2 hR, bnd1_c, t_60, asrt_pos rfl, lt_c, k1]
    · rw [ifb_pos h1, lt_c, hw _ (by omega), m1]
  rw [ifb_neg h1, ifb_neg h1]
  by_cases h2 : x = 2
  · refine ⟨q 0, _, ?_, ?_, fin⟩
    · rw [ifb_pos h2, r_0_3 hR, bnd1_c, t_64, asrt_pos rfl, lt_c, a0]
    · rw [ifb_pos h2, lt_c, hw _ (by omega), b0]
  rw [ifb_neg h2, ifb_neg h2]
  by_cases h3 : x = 3
  · refine ⟨q 1, _, ?_, ?_, fin⟩
    · rw [ifb_pos h3, r_0_3 hR, bnd1_c, t_64, asrt_pos rfl, lt_c, a1]
    · rw [ifb_pos h3, lt_c, hw _ (by omega), b1]
  rw [ifb_neg h3, ifb_neg h3]
  by_cases h4 : x = 4
  · refine ⟨(if K c = 1 then 1 else if K c = 3 then 2 else 0), _, ?_, ?_, fin⟩
    · rw [ifb_pos h4, r_0_3 hR, bnd1_c, t_64, asrt_pos rfl, a0, e0, fate_in hLn.1 hR hc]; rfl
    · rw [ifb_pos h4, r_90_5 hR, bnd1_c, hw _ (by omega), b0, e0, lt_c, t_92, asrt_pos rfl, asrt_pos (vir (by omega) (by omega)), cl32 (by omega), wI_n (by omega), m3 c hc, endOf_c (hLn.1.2.2.1 c)]; rfl
  rw [ifb_neg h4, ifb_neg h4]
  by_cases h5 : x = 5
  · refine ⟨q 2, _, ?_, ?_, fin⟩
    · rw [ifb_pos h5, r_0_3 hR, bnd1_c, t_64, asrt_pos rfl, lt_c, a2]
    · rw [ifb_pos h5, lt_c, hw _ (by omega), b2]
  rw [ifb_neg h5, ifb_neg h5]
  by_cases h6 : x = 6
  · refine ⟨q 4, _, ?_, ?_, fin⟩
    · rw [ifb_pos h6, r_0_3 hR, bnd1_c, t_64, asrt_pos rfl, lt_c, a4]
    · rw [ifb_pos h6, lt_c, hw _ (by omega), b4]
  rw [ifb_neg h6, ifb_neg h6]
  by_cases h7 : x = 7
  · refine ⟨q 5, _, ?_, ?_, fin⟩
    · rw [ifb_pos h7, r_0_3 hR, bnd1_c, t_64, asrt_pos rfl, lt_c, a5]
    · rw [ifb_pos h7, lt_c, hw _ (by omega), b5]
  rw [ifb_neg h7, ifb_neg h7]
  by_cases h8 : x = 8
  · refine ⟨nI pn, _, ?_, ?_, fin⟩
    · rw [ifb_pos h8, r_0_4 hR, bnd1_c, t_5, asrt_pos rfl, lt_c, p1]
    · rw [ifb_pos h8, lt_c, hw _ (by omega), p2]
  rw [ifb_neg h8, ifb_neg h8]
  by_cases h9 : x = 9
  · refine ⟨nI zn, _, ?_, ?_, fin⟩
    · rw [ifb_pos h9, r_0_17 hR, bnd1_c, t_77, asrt_pos rfl, lt_c, z1]
    · rw [ifb_pos h9, lt_c, hw _ (by omega), z2]
  rw [ifb_neg h9, ifb_neg h9]
  by_cases h10 : x = 10
  · refine ⟨nI m, _, ?_, ?_, fin⟩
    · rw [ifb_pos h10, r_0_1 hR, bnd1_c, t_3, asrt_pos rfl, lt_c, w1]
    · rw [ifb_pos h10, lt_c, hw _ (by omega), w2]
  rw [ifb_neg h10, ifb_neg h10]
  by_cases h11 : x = 11
  · refine ⟨nI n, _, ?_, ?_, fin⟩
    · rw [ifb_pos h11, r_0_0 hR, bnd1_c, t_1, asrt_pos rfl]
      unfold f_Signs_length
      rw [lt_c, t1]; rfl
    · rw [ifb_pos h11, lt_c, hw _ (by omega), t2]
  rw [ifb_neg h11, ifb_neg h11]
  exact ⟨_, _, rfl, rfl, fin⟩
theorem op_wipe (hC : Cp B I L R) : ∃ v I1 I2, f_GWL_wipe S1 R I 0 = some (v, I1) ∧ f_Mod_wipe S1 I1 90 = some (v, I2) ∧ Cp (B + 1) I2 L R := by
  obtain ⟨⟨p, fe, hR⟩, hTx, hRw, hWg, hFe, hSh, hMk, W, H, K, hLn, hPt, hPs, hPr, hKp⟩ := hC
  obtain ⟨n, h, z, z1, z2, z3, z4, z5, z6⟩ := hPr
  have f1 : Fr [(77, some 6), (90, some 0), (90, some 42)] I (wI (wI (wI I 77 6 0) 90 0 0) 90 42 0) := Fr.w (Fr.w (Fr.w Fr.rf rfl) rfl) rfl
  refine ⟨nI n, wI I 77 6 0, wI (wI (wI I 77 6 0) 90 0 0) 90 42 0, ?_, ?_, ?_⟩
  · unfold f_GWL_wipe f_Prints_forget
    rw [r_0_17 hR, bnd1_c, t_77, asrt_pos rfl, lt_c, lt_c, bnd2_c, z3]
  · unfold f_Mod_wipe
    rw [lt_c, lt_c, lt_c, wI_n (by omega), wI_n (by omega), z4]
  · refine ⟨⟨_, _, hR⟩, hTx.imp fun _ h => h.imp fun _ h => h.ag (f1.ag rfl), hRw.imp fun _ h => h.imp fun _ h => h.ag (f1.ag rfl) (fun _ _ _ => rfl), hWg.imp fun _ h => h.imp fun _ h => h.ag (f1.ag rfl), hFe.imp fun _ h => h.ag (f1.ag rfl), hSh.ag (f1.ag rfl), hMk.imp fun _ h => h.ag (f1.ag rfl), W, H, K, hLn.ag (f1.ag rfl), hPt.imp fun _ h => h.ag (f1.ag rfl), hPs.imp fun _ h => h.imp fun _ h => h.imp fun _ h => h.ag (f1.ag rfl), ?_, hKp.ag (f1.ag rfl)⟩
    exact ⟨0, h, z, by omega, z2, by rw [wI_n (by omega), wI_n (by omega), wI_s]; rfl, by rw [wI_s]; rfl, fun q => by omega, fun k hk => by omega⟩
theorem op_worth (hC : Cp B I L R) (x y z : Int32) : ∃ v I1 I2, f_GWL_worth S1 R I 0 x y z = some (v, I1) ∧ f_Mod_worth S1 R I1 90 x y z = some (v, I2) ∧ Cp (B + 1) I2 L R := by
  obtain ⟨⟨p, fe, hR⟩, hTx, hRw, hWg, hFe, hSh, hMk, W, H, K, hLn, hPt, hPs, hPr, hKp⟩ := hC
  obtain ⟨w, hw⟩ := hMk
  have f0 : Fr [(90, some 0)] I (wI I 90 0 0) := Fr.w Fr.rf rfl
  have fin : Cp (B + 1) (wI I 90 0 0) L R := by
    refine ⟨⟨_, _, hR⟩, hTx.imp fun _ h => h.imp fun _ h => h.ag (f0.ag rfl), hRw.imp fun _ h => h.imp fun _ h => h.ag (f0.ag rfl) (fun _ _ _ => rfl), hWg.imp fun _ h => h.imp fun _ h => h.ag (f0.ag rfl), hFe.imp fun _ h => h.ag (f0.ag rfl), hSh.ag (f0.ag rfl), ?_, W, H, K, hLn.ag (f0.ag rfl), hPt.imp fun _ h => h.ag (f0.ag rfl), hPs.imp fun _ h => h.imp fun _ h => h.imp fun _ h => h.ag (f0.ag rfl), hPr.imp fun _ h => h.imp fun _ h => h.imp fun _ h => h.ag (f0.ag rfl), hKp.ag (f0.ag rfl)⟩
    exact ⟨w, hw.ag (f0.ag rfl)⟩
  have one : ∀ {a : Nat}, a ≤ 4 → f_Market_isOne 57 (nI a) = some 1 := fun ha => by
    unfold f_Market_isOne
    rw [ifb_neg (zn (by omega)), show (5 : Int32) = nI 5 from rfl, ifb_neg (by rw [le32 (by omega) (by omega)]; omega), bnd1_c, asrt_pos (Or.inr rfl)]
  have none1 : ∀ {u : Int32}, u < 0 ∨ nI 4 < u → f_Market_isOne 57 u = some 0 := fun {u} hu => by
    unfold f_Market_isOne
    by_cases h : u < 0
    · rw [ifb_pos h, bnd1_c, asrt_pos (Or.inl rfl)]
    · rw [ifb_neg h, ifb_pos (show (5 : Int32) ≤ u from (le_gt (n := 4) (by omega)).mpr (hu.resolve_left h)), bnd1_c, asrt_pos (Or.inl rfl)]
  unfold f_GWL_worth f_Mod_worth
  rw [r_0_18 hR, bnd1_c, t_57, asrt_pos rfl]
  rcases ix4 x 4 (by omega) with hx | ⟨a, ha, rfl⟩
  · refine ⟨-1, I, _, ?_, ?_, fin⟩
    · rw [none1 hx, bnd1_c, ifb_pos rfl]; rfl
    · rw [lt_c, in_f (b := 4) (y := nI 4) rfl hx, bnd1_c, ifb_pos rfl]
  rw [one ha, bnd1_c, ifb_neg (by decide)]
  rcases ix4 y 4 (by omega) with hy | ⟨b, hb, rfl⟩
  · refine ⟨-1, I, _, ?_, ?_, fin⟩
    · rw [none1 hy, bnd1_c, ifb_pos rfl]; rfl
    · rw [lt_c, in_t (b := 4) (n := 4) rfl (by omega) (by omega), bnd1_c, ifb_neg (by decide), in_f (b := 4) (y := nI 4) rfl hy, bnd1_c, ifb_pos rfl]
  rw [one hb, bnd1_c, ifb_neg (by decide)]
  rcases ix4 z 99 (by omega) with hz | ⟨c, hc, rfl⟩
  · refine ⟨-1, I, _, ?_, ?_, fin⟩
    · by_cases h : z < 0
      · rw [ifb_pos h]; rfl
      · rw [ifb_neg h, ifb_pos (show (99 : Int32) < z from hz.resolve_left h)]; rfl
    · rw [lt_c, in_t (b := 4) (n := 4) rfl (by omega) (by omega), bnd1_c, ifb_neg (by decide), in_t (b := 4) (n := 4) rfl (by omega) (by omega), bnd1_c, ifb_neg (by decide), in_f (b := 99) (y := nI 99) rfl hz, bnd1_c, ifb_pos rfl]
  have f1 : Fr [(58, none), (90, some 0), (117, none)] I (wI (wI (wI I 58 (5 * a + b) (nI c)) 90 0 0) 117 (5 * a + b) (nI c)) := Fr.w (Fr.w (Fr.w Fr.rf (by simp [inF])) rfl) (by simp [inF])
  refine ⟨nI (w (5 * a + b)), wI I 58 (5 * a + b) (nI c), wI (wI (wI I 58 (5 * a + b) (nI c)) 90 0 0) 117 (5 * a + b) (nI c), ?_, ?_, ?_⟩
  · unfold f_Market_value
    rw [ifb_neg (zn (by omega)), show (99 : Int32) = nI 99 from rfl, ifb_neg (by rw [lt32 (by omega) (by omega)]; omega), show (5 : Int32) = nI 5 from rfl, pk_mul, nI_add, lt_c, ifb_neg (zn (by omega)), r_57_0 hR, bnd1_c, t_58, asrt_pos rfl,
      ifb_pos (by rw [show Int32.ofNat (20, 25).2 = nI 25 from rfl, lt32 (by omega) (by omega)]; omega), asrt_pos (vir (by omega) (by omega)), lt_c, cl32 (by omega), asrt_pos (vir (by omega) (by omega)), lt_c, Nat.mul_comm a 5, (hw _ (by omega)).2.1]
    rfl
  · rw [lt_c, in_t (b := 4) (n := 4) rfl (by omega) (by omega), bnd1_c, ifb_neg (by decide), in_t (b := 4) (n := 4) rfl (by omega) (by omega), bnd1_c, ifb_neg (by decide), in_t (b := 99) (n := 99) rfl (by omega) (by omega), bnd1_c, ifb_neg (by decide),
      r_90_47 hR, bnd1_c, show (5 : Int32) = nI 5 from rfl, pk_mul, nI_add, lt_c, t_117, asrt_pos rfl, asrt_pos (vir (by omega) (by omega)), lt_c, asrt_pos (vir (by omega) (by omega)), lt_c, cl32 (by omega), wI_n (by omega), wI_n (by omega), (hw _ (by omega)).2.2]
  · refine ⟨⟨_, _, hR⟩, hTx.imp fun _ h => h.imp fun _ h => h.ag (f1.ag rfl), hRw.imp fun _ h => h.imp fun _ h => h.ag (f1.ag rfl) (fun _ _ _ => rfl), hWg.imp fun _ h => h.imp fun _ h => h.ag (f1.ag rfl), hFe.imp fun _ h => h.ag (f1.ag rfl), hSh.ag (f1.ag rfl), ?_, W, H, K, hLn.ag (f1.ag rfl), hPt.imp fun _ h => h.ag (f1.ag rfl), hPs.imp fun _ h => h.imp fun _ h => h.imp fun _ h => h.ag (f1.ag rfl), hPr.imp fun _ h => h.imp fun _ h => h.imp fun _ h => h.ag (f1.ag rfl), hKp.ag (f1.ag rfl)⟩
    refine ⟨fun j => if j = 5 * a + b then c else w j, fun k hk => ?_⟩
    by_cases e : k = 5 * a + b
    · subst e
      simp only [if_true]
      exact ⟨hc, by rw [wI_n (by omega), wI_n (by omega), wI_s], by rw [wI_s]⟩
    · simp only [e, if_false]
      exact ⟨(hw k hk).1, by rw [wI_n (by omega), wI_n (by omega), wI_n (by omega)]; exact (hw k hk).2.1, by rw [wI_n (by omega), wI_n (by omega), wI_n (by omega)]; exact (hw k hk).2.2⟩
end OB
