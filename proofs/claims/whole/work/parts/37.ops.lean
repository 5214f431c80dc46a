section OC
variable {W H B n : Nat} {K τ : Nat → Nat} {I I' : MI} {L : ML} {R : MR} {p : Bool} {fe : Nat}
theorem op_set (hC : Cp B I L R) (x y : Int32) : ∃ v I1 I2, f_GWL_set S1 R I 0 x y = some (v, I1) ∧ f_Mod_set S1 I1 90 x y = some (v, I2) ∧ Cp (B + 1) I2 L R := by
  obtain ⟨⟨p, fe, hR⟩, hTx, hRw, hWg, hFe, hSh, hMk, W, H, K, hLn, hPt, hPs, hPr, hKp⟩ := hC
  have f0 : Fr [(90, some 0)] I (wI I 90 0 0) := Fr.w Fr.rf rfl
  have fin : Cp (B + 1) (wI I 90 0 0) L R := by
    refine ⟨⟨_, _, hR⟩, hTx.imp fun _ h => h.imp fun _ h => h.ag (f0.ag rfl), hRw.imp fun _ h => h.imp fun _ h => h.ag (f0.ag rfl) (fun _ _ _ => rfl), hWg.imp fun _ h => h.imp fun _ h => h.ag (f0.ag rfl), hFe.imp fun _ h => h.ag (f0.ag rfl), hSh.ag (f0.ag rfl), hMk.imp fun _ h => h.ag (f0.ag rfl), W, H, K, hLn.ag (f0.ag rfl), hPt.imp fun _ h => h.ag (f0.ag rfl), hPs.imp fun _ h => h.imp fun _ h => h.imp fun _ h => h.ag (f0.ag rfl), hPr.imp fun _ h => h.imp fun _ h => h.imp fun _ h => h.ag (f0.ag rfl), hKp.ag (f0.ag rfl)⟩
  unfold f_GWL_set
  by_cases h0 : x = 0
  · subst h0
    rw [ifb_pos rfl]
    rcases ix4 y 9 (by omega) with hy | ⟨a, ha, rfl⟩
    · refine ⟨-1, I, _, ?_, ?_, fin⟩
      · by_cases h : y < 0
        · rw [ifb_pos h, ifb_neg (by decide)]; rfl
        · rw [ifb_neg h, ifb_pos (show (9 : Int32) < y from hy.resolve_left h), ifb_neg (by decide)]; rfl
      · unfold f_Mod_set
        rw [lt_c, ifb_pos rfl, in_f (b := 9) (y := nI 9) rfl hy, bnd1_c, ifb_pos rfl, ifb_neg (by decide)]
    · obtain ⟨q, hq⟩ := hPt
      have f1 : Fr [(64, some 2), (90, some 0), (90, some 10)] I (wI (wI (wI I 64 2 (nI a)) 90 0 0) 90 10 (nI a)) := Fr.w (Fr.w (Fr.w Fr.rf rfl) rfl) rfl
      obtain ⟨⟨b1, b2, b3, b4⟩, c0, c1, c2, c3, c4, c5, c6⟩ := hq.d
      refine ⟨q 2, wI I 64 2 (nI a), wI (wI (wI I 64 2 (nI a)) 90 0 0) 90 10 (nI a), ?_, ?_, ?_⟩
      · rw [ifb_neg (zn (by omega)), show (9 : Int32) = nI 9 from rfl, ifb_neg (by rw [lt32 (by omega) (by omega)]; omega), r_0_3 hR, bnd1_c, t_64, asrt_pos rfl, lt_c, lt_c, bnd2_c, c2.1]
      · unfold f_Mod_set
        rw [lt_c, ifb_pos rfl, in_t (b := 9) (n := 9) rfl (by omega) (by omega), bnd1_c, ifb_neg (by decide), lt_c, lt_c, wI_n (by omega), wI_n (by omega), c2.2]
      · refine ⟨⟨_, _, hR⟩, hTx.imp fun _ h => h.imp fun _ h => h.ag (f1.ag rfl), hRw.imp fun _ h => h.imp fun _ h => h.ag (f1.ag rfl) (fun _ _ _ => rfl), hWg.imp fun _ h => h.imp fun _ h => h.ag (f1.ag rfl), hFe.imp fun _ h => h.ag (f1.ag rfl), hSh.ag (f1.ag rfl), hMk.imp fun _ h => h.ag (f1.ag rfl), W, H, K, hLn.ag (f1.ag rfl), ?_, hPs.imp fun _ h => h.imp fun _ h => h.imp fun _ h => h.ag (f1.ag rfl), hPr.imp fun _ h => h.imp fun _ h => h.imp fun _ h => h.ag (f1.ag rfl), hKp.ag (f1.ag rfl)⟩
        refine ⟨wq q 2 (nI a), Ptyq ⟨?_, ?_, ⟨a, ha, wq_s⟩, fun k hk => ?_⟩ ?_ ?_ ?_ ?_ ?_ ?_ (fun k hk => ?_)⟩
        · simpa (disch := omega) only [wq_n] using b1
        · simpa (disch := omega) only [wq_n] using b2
        · simpa (disch := omega) only [wq_n] using b4 k hk
        · simpa (disch := omega) only [wq_n, wI_n] using c0
        · simpa (disch := omega) only [wq_n, wI_n] using c1
        · exact ⟨by simp (disch := omega) only [wq_s, wI_s, wI_n], by simp (disch := omega) only [wq_s, wI_s, wI_n]⟩
        · simpa (disch := omega) only [wq_n, wI_n] using c3
        · simpa (disch := omega) only [wq_n, wI_n] using c4
        · simpa (disch := omega) only [wq_n, wI_n] using c5
        · simpa (disch := omega) only [wq_n, wI_n] using c6 k hk
  rw [ifb_neg h0]
  by_cases h1 : x = 1
  · subst h1
    rw [ifb_pos rfl]
    rcases ix4 y 10 (by omega) with hy | ⟨a, ha, rfl⟩
    · refine ⟨-1, I, _, ?_, ?_, fin⟩
      · by_cases h : y < 0
        · rw [ifb_pos h]; rfl
        · rw [ifb_neg h, ifb_pos (show (10 : Int32) < y from hy.resolve_left h)]; rfl
      · unfold f_Mod_set
        rw [lt_c, ifb_neg h0, ifb_pos rfl, in_f (b := 10) (y := nI 10) rfl hy, bnd1_c, ifb_pos rfl]
    · obtain ⟨w, hd, w1, w2, w3, w4, w5⟩ := hWg
      have f1 : Fr [(0, some 6), (90, some 0), (90, some 11)] I (wI (wI (wI I 0 6 (nI a)) 90 0 0) 90 11 (nI a)) := Fr.w (Fr.w (Fr.w Fr.rf rfl) rfl) rfl
      refine ⟨nI hd, wI I 0 6 (nI a), wI (wI (wI I 0 6 (nI a)) 90 0 0) 90 11 (nI a), ?_, ?_, ?_⟩
      · rw [ifb_neg (zn (by omega)), show (10 : Int32) = nI 10 from rfl, ifb_neg (by rw [lt32 (by omega) (by omega)]; omega), lt_c, lt_c, bnd2_c, w4]
      · unfold f_Mod_set
        rw [lt_c, ifb_neg h0, ifb_pos rfl, in_t (b := 10) (n := 10) rfl (by omega) (by omega), bnd1_c, ifb_neg (by decide), lt_c, lt_c, wI_n (by omega), wI_n (by omega), w5]
      · refine ⟨⟨_, _, hR⟩, hTx.imp fun _ h => h.imp fun _ h => h.ag (f1.ag rfl), hRw.imp fun _ h => h.imp fun _ h => h.ag (f1.ag rfl) (fun _ _ _ => rfl), ?_, hFe.imp fun _ h => h.ag (f1.ag rfl), hSh.ag (f1.ag rfl), hMk.imp fun _ h => h.ag (f1.ag rfl), W, H, K, hLn.ag (f1.ag rfl), hPt.imp fun _ h => h.ag (f1.ag rfl), hPs.imp fun _ h => h.imp fun _ h => h.imp fun _ h => h.ag (f1.ag rfl), hPr.imp fun _ h => h.imp fun _ h => h.imp fun _ h => h.ag (f1.ag rfl), hKp.ag (f1.ag rfl)⟩
        exact ⟨w, a, w1, fun t ht => ⟨(f1 66 t rfl).trans (w2 t ht).1, (f1 93 t rfl).trans (w2 t ht).2⟩, ha, by simp (disch := omega) only [wI_s, wI_n], by simp (disch := omega) only [wI_s, wI_n]⟩
  refine ⟨-1, I, _, by rw [ifb_neg h1]; rfl, ?_, fin⟩
  unfold f_Mod_set
  rw [lt_c, ifb_neg h0, ifb_neg h1]
theorem op_go (hC : Cp B I L R) (x y : Int32) : ∃ v I1 I2, f_GWL_go S1 R I 0 x y = some (v, I1) ∧ f_Mod_go S1 R I1 90 x y = some (v, I2) ∧ Cp (B + 1) I2 L R := by
  obtain ⟨⟨p, fe, hR⟩, hTx, hRw, hWg, hFe, hSh, hMk, W, H, K, hLn, hPt, hPs, hPr, hKp⟩ := hC
  have f0 : Fr [(90, some 0)] I (wI I 90 0 0) := Fr.w Fr.rf rfl
  have fin : Cp (B + 1) (wI I 90 0 0) L R := by
    refine ⟨⟨_, _, hR⟩, hTx.imp fun _ h => h.imp fun _ h => h.ag (f0.ag rfl), hRw.imp fun _ h => h.imp fun _ h => h.ag (f0.ag rfl) (fun _ _ _ => rfl), hWg.imp fun _ h => h.imp fun _ h => h.ag (f0.ag rfl), hFe.imp fun _ h => h.ag (f0.ag rfl), hSh.ag (f0.ag rfl), hMk.imp fun _ h => h.ag (f0.ag rfl), W, H, K, hLn.ag (f0.ag rfl), hPt.imp fun _ h => h.ag (f0.ag rfl), hPs.imp fun _ h => h.imp fun _ h => h.imp fun _ h => h.ag (f0.ag rfl), hPr.imp fun _ h => h.imp fun _ h => h.imp fun _ h => h.ag (f0.ag rfl), hKp.ag (f0.ag rfl)⟩
  have hM : LM W H K (wI I 90 0 0) := hLn.2.1.ag (f0.ag rfl)
  have hN := hLn.1.N36
  unfold f_GWL_go
  rw [r_0_2 hR, bnd1_c, t_60, asrt_pos rfl]
  rcases ix3 x (W * H) (by omega) with hx | ⟨c, hc, rfl⟩
  · refine ⟨0, I, _, ?_, ?_, fin⟩
    · rw [kindOf_out hLn.1 hx, bnd1_c, ifb_neg (by decide)]
    · unfold f_Mod_go
      rw [lt_c, isCell_out hM hx, bnd1_c, ifb_pos rfl]
  rw [kindOf_in hLn.1 hR hc, bnd1_c]
  have hk4 := hLn.1.2.2.1 c
  by_cases hk : K c = 0
  rotate_left
  · refine ⟨0, I, _, ?_, ?_, fin⟩
    · rw [ifb_neg (by rw [nI0, eq32 (by omega) (by omega)]; exact hk)]
    · unfold f_Mod_go
      rw [lt_c, isCell_in hM hc, bnd1_c, ifb_neg (by decide), r_90_5 hR, bnd1_c, t_92, asrt_pos rfl, asrt_pos (vir (by omega) (by omega)), cl32 (by omega), hM.2.2.2.2.2 c hc, ifb_neg (by rw [nI0, eq32 (by omega) (by omega)]; exact hk)]
  rw [hk, ifb_pos (by decide)]
  rcases ix4 y 3 (by omega) with hy | ⟨d, hd, rfl⟩
  · refine ⟨0, I, _, ?_, ?_, fin⟩
    · by_cases h : y < 0
      · rw [ifb_pos h]
      · rw [ifb_neg h, ifb_neg (show ¬ y < (4 : Int32) from Int32.not_lt.mpr ((le_gt (n := 3) (by omega)).mpr (hy.resolve_left h)))]
    · unfold f_Mod_go
      rw [lt_c, isCell_in hM hc, bnd1_c, ifb_neg (by decide), r_90_5 hR, bnd1_c, t_92, asrt_pos rfl, asrt_pos (vir (by omega) (by omega)), cl32 (by omega), hM.2.2.2.2.2 c hc, hk, ifb_pos (by decide), in_f (b := 3) (y := nI 3) rfl hy, bnd1_c, ifb_pos rfl]
  obtain ⟨q, hq⟩ := hPt
  obtain ⟨pn, nx, u, p0, p1, p2, -⟩ := hPs
  obtain ⟨⟨b1, b2, b3, b4⟩, c0, c1, c2, c3, c4, c5, c6⟩ := hq.d
  have f2 : Fr [(90, none)] (wI (wI (wI (wI (wI I 64 0 (nI c)) 64 1 (nI d)) 64 4 0) 64 5 0) 5 2 0) (wI (wI (wI (wI (wI (wI (wI (wI (wI (wI (wI I 64 0 (nI c)) 64 1 (nI d)) 64 4 0) 64 5 0) 5 2 0) 90 0 0) 90 7 (nI c)) 90 8 (nI d)) 90 13 0) 90 14 0) 90 23 0) :=
    Fr.w (Fr.w (Fr.w (Fr.w (Fr.w (Fr.w Fr.rf rfl) rfl) rfl) rfl) rfl) rfl
  have f1 : Fr [(64, some 0), (64, some 1), (64, some 4), (64, some 5), (5, some 2), (90, some 0), (90, some 7), (90, some 8), (90, some 13), (90, some 14), (90, some 23)] I (wI (wI (wI (wI (wI (wI (wI (wI (wI (wI (wI I 64 0 (nI c)) 64 1 (nI d)) 64 4 0) 64 5 0) 5 2 0) 90 0 0) 90 7 (nI c)) 90 8 (nI d)) 90 13 0) 90 14 0) 90 23 0) :=
    Fr.w (Fr.w (Fr.w (Fr.w (Fr.w (Fr.w (Fr.w (Fr.w (Fr.w (Fr.w (Fr.w Fr.rf rfl) rfl) rfl) rfl) rfl) rfl) rfl) rfl) rfl) rfl) rfl
  refine ⟨1, wI (wI (wI (wI (wI I 64 0 (nI c)) 64 1 (nI d)) 64 4 0) 64 5 0) 5 2 0, wI (wI (wI (wI (wI (wI (wI (wI (wI (wI (wI I 64 0 (nI c)) 64 1 (nI d)) 64 4 0) 64 5 0) 5 2 0) 90 0 0) 90 7 (nI c)) 90 8 (nI d)) 90 13 0) 90 14 0) 90 23 0, ?_, ?_, ?_⟩
  rotate_left
  · unfold f_Mod_go f_Mod_begins_II
    have hM2 : LM W H K (wI (wI (wI (wI (wI (wI I 64 0 (nI c)) 64 1 (nI d)) 64 4 0) 64 5 0) 5 2 0) 90 0 0) := hLn.2.1.ag (Fr.ag (l := [(64, none), (5, none), (90, some 0)]) (Fr.w (Fr.w (Fr.w (Fr.w (Fr.w (Fr.w Fr.rf rfl) rfl) rfl) rfl) rfl) rfl) rfl)
    rw [lt_c, isCell_in hM2 hc, bnd1_c, ifb_neg (by decide), r_90_5 hR, bnd1_c, t_92, asrt_pos rfl, asrt_pos (vir (by omega) (by omega)), cl32 (by omega), hM2.2.2.2.2.2 c hc, hk, ifb_pos (by decide), in_t (b := 3) (n := 3) rfl (by omega) (by omega), bnd1_c, ifb_neg (by decide), lt_c, lt_c, lt_c, lt_c, lt_c, bnd1_c]
  · refine ⟨⟨_, _, hR⟩, hTx.imp fun _ h => h.imp fun _ h => h.ag (f1.ag rfl), hRw.imp fun _ h => h.imp fun _ h => h.ag (f1.ag rfl) (fun _ _ _ => rfl), hWg.imp fun _ h => h.imp fun _ h => h.ag (f1.ag rfl), hFe.imp fun _ h => h.ag (f1.ag rfl), hSh.ag (f1.ag rfl), hMk.imp fun _ h => h.ag (f1.ag rfl), W, H, K, hLn.ag (f1.ag rfl), ?_, ?_, hPr.imp fun _ h => h.imp fun _ h => h.imp fun _ h => h.ag (f1.ag rfl), hKp.ag (f1.ag rfl)⟩
    · refine ⟨wq (wq (wq (wq q 0 (nI c)) 1 (nI d)) 4 0) 5 0, Ptyq ⟨⟨c, hc, ?_⟩, ⟨d, by omega, ?_⟩, ?_, fun k hk => ?_⟩ ?_ ?_ ?_ ?_ ?_ ?_ (fun k hk => ?_)⟩
      · simp (disch := omega) only [wq_n, wq_s]
      · simp (disch := omega) only [wq_n, wq_s]
      · simpa (disch := omega) only [wq_n] using b3
      · simpa (disch := omega) only [wq_n] using b4 k hk
      · exact ⟨by simp (disch := omega) only [wq_n, wq_s, wI_s, wI_n], by simp (disch := omega) only [wq_n, wq_s, wI_s, wI_n]⟩
      · exact ⟨by simp (disch := omega) only [wq_n, wq_s, wI_s, wI_n], by simp (disch := omega) only [wq_n, wq_s, wI_s, wI_n]⟩
      · simpa (disch := omega) only [wq_n, wI_n] using c2
      · simpa (disch := omega) only [wq_n, wI_n] using c3
      · exact ⟨by simp (disch := omega) only [wq_n, wq_s, wI_s, wI_n], by simp (disch := omega) only [wq_n, wq_s, wI_s, wI_n]⟩
      · exact ⟨by simp (disch := omega) only [wq_n, wq_s, wI_s, wI_n], by simp (disch := omega) only [wq_n, wq_s, wI_s, wI_n]⟩
      · simpa (disch := omega) only [wq_n, wI_n] using c6 k hk
    · exact ⟨0, nx, u, Pst0 p1 (by simpa (disch := omega) only [wI_n] using p2) (by simp (disch := omega) only [wI_s, wI_n]) (by simp (disch := omega) only [wI_s, wI_n])⟩
  · unfold f_Party_begin f_Past_forget
    rw [ifb_neg (zn (by omega)), show (4 : Int32) = nI 4 from rfl, ifb_pos (by rw [lt32 (by omega) (by omega)]; omega), r_0_3 hR, bnd1_c, t_64, asrt_pos rfl, lt_c, lt_c, lt_c, lt_c, bnd1_c, r_0_4 hR, bnd1_c, t_5, asrt_pos rfl, lt_c, bnd1_c]
theorem op_put {g : Nat} (hg : 1000 ≤ g) (hC : Cp B I L R) (x y : Int32) : ∃ v I1 I2, f_GWL_put g S1 R I 0 x y = some (v, I1) ∧ f_Mod_put S1 R I1 90 x y = some (v, I2) ∧ Cp (B + 1) I2 L R := by
  obtain ⟨⟨p, fe, hR⟩, hTx, hRw, hWg, hFe, hSh, hMk, W, H, K, hLn, hPt, hPs, hPr, hKp⟩ := hC
  have f0 : Fr [(90, some 0)] I (wI I 90 0 0) := Fr.w Fr.rf rfl
  have fin : Cp (B + 1) (wI I 90 0 0) L R := by
    refine ⟨⟨_, _, hR⟩, hTx.imp fun _ h => h.imp fun _ h => h.ag (f0.ag rfl), hRw.imp fun _ h => h.imp fun _ h => h.ag (f0.ag rfl) (fun _ _ _ => rfl), hWg.imp fun _ h => h.imp fun _ h => h.ag (f0.ag rfl), hFe.imp fun _ h => h.ag (f0.ag rfl), hSh.ag (f0.ag rfl), hMk.imp fun _ h => h.ag (f0.ag rfl), W, H, K, hLn.ag (f0.ag rfl), hPt.imp fun _ h => h.ag (f0.ag rfl), hPs.imp fun _ h => h.imp fun _ h => h.imp fun _ h => h.ag (f0.ag rfl), hPr.imp fun _ h => h.imp fun _ h => h.imp fun _ h => h.ag (f0.ag rfl), hKp.ag (f0.ag rfl)⟩
  have hM : LM W H K (wI I 90 0 0) := hLn.2.1.ag (f0.ag rfl)
  have hN := hLn.1.N36
  obtain ⟨q, hq⟩ := hPt
  obtain ⟨-, c0, -⟩ := hq.d
  unfold f_GWL_put
  rw [r_0_2 hR, bnd1_c, t_60, asrt_pos rfl]
  rcases ix3 x (W * H) (by omega) with hx | ⟨c, hc, rfl⟩
  · refine ⟨-1, I, _, ?_, ?_, fin⟩
    · rw [has_out hLn.1 hx, bnd1_c, ifb_pos rfl]
    · unfold f_Mod_put
      rw [lt_c, isCell_out hM hx, bnd1_c, ifb_pos rfl]
  rw [has_in hLn.1 hc, bnd1_c, ifb_neg (by decide)]
  rcases ix4 y 3 (by omega) with hy | ⟨d, hd, rfl⟩
  · refine ⟨-1, I, _, ?_, ?_, fin⟩
    · by_cases h : y < 0
      · rw [ifb_pos h]
      · rw [ifb_neg h, ifb_pos (show (3 : Int32) < y from hy.resolve_left h)]
    · unfold f_Mod_put
      rw [lt_c, isCell_in hM hc, bnd1_c, ifb_neg (by decide), in_f (b := 3) (y := nI 3) rfl hy, bnd1_c, ifb_pos rfl]
  rw [ifb_neg (zn (by omega)), show (3 : Int32) = nI 3 from rfl, ifb_neg (by rw [lt32 (by omega) (by omega)]; omega), r_0_3 hR, bnd1_c, t_64, asrt_pos rfl, c0.1]
  by_cases he : nI c = q 0
  · refine ⟨-1, I, _, ?_, ?_, fin⟩
    · rw [ifb_pos he]
    · unfold f_Mod_put
      rw [lt_c, isCell_in hM hc, bnd1_c, ifb_neg (by decide), in_t (b := 3) (n := 3) rfl (by omega) (by omega), bnd1_c, ifb_neg (by decide), wI_n (by omega), c0.2, ifb_pos he]
  rw [ifb_neg he]
  have hLK : LKc W H (fun i => if i = c then d else K i) (wI I 61 c (nI d)) := by
    obtain ⟨k1, k2, k3, k4, k5, k6⟩ := hLn.1
    refine ⟨k1, k2, fun i => ?_, by rw [wI_n (by omega)]; exact k4, by rw [wI_n (by omega)]; exact k5, fun i hi => ?_⟩
    · have := k3 i
      simp only
      split <;> omega
    · by_cases e : i = c
      · subst e
        simp only [if_true, wI_s]
      · simp only [e, if_false]
        rw [wI_n (by omega)]
        exact k6 i hi
  obtain ⟨I1, e1, a1, la, lz⟩ := survey_c hg hR hLK
  have f1a : Fr [(61, none), (62, none), (60, some 5)] I I1 := (Fr.w Fr.rf (by simp [inF])).tr (a1.sub rfl)
  have f2 : Fr [(90, some 0), (92, none), (90, some 23)] (wI I1 5 2 0) (wI (wI (wI (wI I1 5 2 0) 90 0 0) 92 c (nI d)) 90 23 0) := Fr.w (Fr.w (Fr.w Fr.rf rfl) (by simp [inF])) rfl
  have f1 : Fr [(61, none), (62, none), (60, some 5), (5, some 2), (90, some 0), (92, none), (90, some 23)] I (wI (wI (wI (wI I1 5 2 0) 90 0 0) 92 c (nI d)) 90 23 0) :=
    ((f1a.sub rfl).tr (Fr.w Fr.rf rfl)).tr (f2.sub rfl)
  have hM1 : LM W H K (wI (wI I1 5 2 0) 90 0 0) := hLn.2.1.ag (Fr.ag (l := [(61, none), (62, none), (60, some 5), (5, some 2), (90, some 0)]) (((f1a.sub rfl).w rfl).w rfl) rfl)
  refine ⟨nI (K c), wI I1 5 2 0, wI (wI (wI (wI I1 5 2 0) 90 0 0) 92 c (nI d)) 90 23 0, ?_, ?_, ?_⟩
  · unfold f_Land_become f_Past_forget
    rw [kindOf_in hLn.1 hR hc, bnd1_c, ifb_neg (zn (by omega)), show (36 : Int32) = nI 36 from rfl, ifb_neg (by rw [le32 (by omega) (by omega)]; omega), r_60_2 hR, bnd1_c, t_61, asrt_pos rfl, asrt_pos (vir (by omega) (by omega)), lt_c, cl32 (by omega), e1, bnd1_c, bnd1_c, bnd1_c,
      r_0_4 hR, bnd1_c, t_5, asrt_pos rfl, lt_c, bnd1_c]
  · unfold f_Mod_put
    rw [lt_c, isCell_in hM1 hc, bnd1_c, ifb_neg (by decide), in_t (b := 3) (n := 3) rfl (by omega) (by omega), bnd1_c, ifb_neg (by decide), wI_n (by omega), wI_n (by omega), f1a 90 7 rfl, c0.2, ifb_neg he, r_90_5 hR, bnd1_c, t_92, asrt_pos rfl, asrt_pos (vir (by omega) (by omega)), lt_c,
      asrt_pos (vir (by omega) (by omega)), lt_c, lt_c, cl32 (by omega), hM1.2.2.2.2.2 c hc]
  · refine ⟨⟨_, _, hR⟩, hTx.imp fun _ h => h.imp fun _ h => h.ag (f1.ag rfl), hRw.imp fun _ h => h.imp fun _ h => h.ag (f1.ag rfl) (fun _ _ _ => rfl), hWg.imp fun _ h => h.imp fun _ h => h.ag (f1.ag rfl), hFe.imp fun _ h => h.ag (f1.ag rfl), hSh.ag (f1.ag rfl), hMk.imp fun _ h => h.ag (f1.ag rfl), ?_⟩
    obtain ⟨pn, nx, u, p0, p1, p2, -⟩ := hPs
    refine ⟨W, H, fun i => if i = c then d else K i, ⟨hLK.ag (Fr.ag (l := [(62, none), (60, some 5), (5, some 2), (90, some 0), (92, none), (90, some 23)]) (((a1.sub rfl).tr (Fr.w Fr.rf rfl)).tr (f2.sub rfl)) rfl), ?_,
      la.ag (Fr.ag (l := [(5, some 2), (90, some 0), (92, none), (90, some 23)]) ((Fr.w Fr.rf rfl).tr (f2.sub rfl)) rfl), Or.inl (by rw [f2 60 5 rfl, wI_n (by omega)]; exact lz)⟩, ⟨q, hq.ag (f1.ag rfl)⟩, ⟨0, nx, u, Pst0 p1 ?_ ?_ ?_⟩, hPr.imp fun _ h => h.imp fun _ h => h.imp fun _ h => h.ag (f1.ag rfl), hKp.ag (f1.ag rfl)⟩
    · obtain ⟨k1, k2, k3, k4, k5, k6⟩ := hM1
      refine ⟨k1, k2, hLK.2.2.1, by rw [wI_n (by omega), wI_n (by omega)]; exact k4, by rw [wI_n (by omega), wI_n (by omega)]; exact k5, fun i hi => ?_⟩
      by_cases e : i = c
      · subst e
        simp only [if_true]
        rw [wI_n (by omega), wI_s]
      · simp only [e, if_false]
        rw [wI_n (by omega), wI_n (by omega)]
        exact k6 i hi
    · rw [f1 5 1 rfl]; exact p2
    · rw [f2 5 2 rfl, wI_s]
    · rw [wI_s]
end OC
