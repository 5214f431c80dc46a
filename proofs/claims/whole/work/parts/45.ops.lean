section OI
variable {W H B n : Nat} {K τ : Nat → Nat} {I I' : MI} {L : ML} {R : MR} {p : Bool} {fe : Nat} {q : Nat → Int32}
theorem op_print (hC : Cp B I L R) (x y : Int32) : ∃ v I1 I2, f_GWL_print S1 R I 0 x y = some (v, I1) ∧ f_Mod_print S1 R I1 90 x y = some (v, I2) ∧ Cp (B + 1) I2 L R := by
  obtain ⟨⟨p, fe, hR⟩, hTx, hRw, hWg, hFe, hSh, hMk, W, H, K, hLn, hPt, hPs, hPr, hKp⟩ := hC
  have f0 : Fr [(90, some 0)] I (wI I 90 0 0) := Fr.w Fr.rf rfl
  have fin : Cp (B + 1) (wI I 90 0 0) L R := by
    refine ⟨⟨_, _, hR⟩, hTx.imp fun _ h => h.imp fun _ h => h.ag (f0.ag rfl), hRw.imp fun _ h => h.imp fun _ h => h.ag (f0.ag rfl) (fun _ _ _ => rfl), hWg.imp fun _ h => h.imp fun _ h => h.ag (f0.ag rfl), hFe.imp fun _ h => h.ag (f0.ag rfl), hSh.ag (f0.ag rfl), hMk.imp fun _ h => h.ag (f0.ag rfl), W, H, K, hLn.ag (f0.ag rfl), hPt.imp fun _ h => h.ag (f0.ag rfl), hPs.imp fun _ h => h.imp fun _ h => h.imp fun _ h => h.ag (f0.ag rfl), hPr.imp fun _ h => h.imp fun _ h => h.imp fun _ h => h.ag (f0.ag rfl), hKp.ag (f0.ag rfl)⟩
  have hN := hLn.1.N36
  have hL := hLn.1
  have hM0 : LM W H K (wI I 90 0 0) := hLn.2.1.ag (f0.ag rfl)
  obtain ⟨n, h, z, z1, z2, z3, z4, z5, z6⟩ := hPr
  -- whether it is a step on can be told in any case
  have hsome : ∃ w, bnd1 (ifb (nI n = 0) (ifb (y < 0) (some (0 : Int32)) (ifb (4 ≤ y) (some 0) (some 1))) (bnd1 (f_Prints_cellAt S1 R I 77 (nI n - 1)) fun x7 => bnd1 (f_Prints_isStepOn S1 R I 77 x7 x) fun x9 => some x9)) (fun (y2 : Int32) => some y2) = some w := by
    by_cases h0 : n = 0
    · rw [ifb_pos (by rw [h0]; rfl)]
      by_cases h1 : y < 0
      · exact ⟨0, by rw [ifb_pos h1]; rfl⟩
      · by_cases h2 : 4 ≤ y
        · exact ⟨0, by rw [ifb_neg h1, ifb_pos h2]; rfl⟩
        · exact ⟨1, by rw [ifb_neg h1, ifb_neg h2]; rfl⟩
    · obtain ⟨w, hw⟩ := isStepOn_e hL hR (nI (z (n - 1))) x
      exact ⟨w, by rw [ifb_neg (by rw [nI0, eq32 (by omega) (by omega)]; exact h0), sub1 (by omega), cellAt_c hR (k := n - 1) z3 z1 (by omega) (z6 _ (by omega)).2.1, bnd1_c, hw]; rfl⟩
  rcases ix3 x (W * H) (by omega) with hx | ⟨c, hc, rfl⟩
  · refine ⟨-1, I, _, ?_, ?_, fin⟩
    · unfold f_GWL_print f_Prints_tell
      obtain ⟨w, hw⟩ := hsome
      rw [r_0_17 hR, bnd1_c, t_77, asrt_pos rfl, z3]
      have e : ∀ {β : Type} (g : Int32 → Option β), bnd1 (ifb (nI n = 0) (ifb (y < 0) (some (0 : Int32)) (ifb (4 ≤ y) (some 0) (some 1))) (bnd1 (f_Prints_cellAt S1 R I 77 (nI n - 1)) fun x7 => bnd1 (f_Prints_isStepOn S1 R I 77 x7 x) fun x9 => some x9)) g = g w := fun g => by
        obtain ⟨a, ha, hb⟩ := bnd1_some hw
        cases hb
        rw [ha]; rfl
      rw [e, r_77_0 hR, bnd1_c, t_60, asrt_pos rfl, has_out hL hx, bnd1_c, ifb_pos rfl, bnd2_c, ifb_pos rfl]; rfl
    · unfold f_Mod_print
      rw [lt_c, isCell_out hM0 hx, bnd1_c, ifb_pos rfl]
  by_cases hn : n = 12
  · refine ⟨-1, I, _, ?_, ?_, fin⟩
    · unfold f_GWL_print f_Prints_tell
      obtain ⟨w, hw⟩ := isStepOn_e hL hR (nI (z (n - 1))) (nI c)
      rw [r_0_17 hR, bnd1_c, t_77, asrt_pos rfl, z3, ifb_neg (by rw [nI0, eq32 (by omega) (by omega)]; omega), sub1 (by omega), cellAt_c hR (k := n - 1) z3 z1 (by omega) (z6 _ (by omega)).2.1, bnd1_c, hw, bnd1_c, bnd1_c, r_77_0 hR, bnd1_c, t_60, asrt_pos rfl, has_in hL hc, bnd1_c, ifb_neg (by decide)]
      by_cases hw0 : w = 0
      · rw [ifb_pos hw0, bnd2_c, ifb_pos rfl]; rfl
      · rw [ifb_neg hw0, ifb_neg (by rw [show (12 : Int32) = nI 12 from rfl, lt32 (by omega) (by omega)]; omega), bnd2_c, ifb_pos rfl]; rfl
    · unfold f_Mod_print
      rw [lt_c, isCell_in hM0 hc, bnd1_c, ifb_neg (by decide), wI_n (by omega), z4, ifb_pos (by rw [hn]; rfl)]
  have hn12 : n < 12 := by omega
  by_cases h0 : n = 0
  · subst h0
    rcases ix4 y 3 (by omega) with hy | ⟨d, hd, rfl⟩
    · refine ⟨-1, I, _, ?_, ?_, fin⟩
      · unfold f_GWL_print f_Prints_tell
        rw [r_0_17 hR, bnd1_c, t_77, asrt_pos rfl, z3, ifb_pos (by decide)]
        by_cases h1 : y < 0
        · rw [ifb_pos h1, bnd1_c, r_77_0 hR, bnd1_c, t_60, asrt_pos rfl, has_in hL hc, bnd1_c, ifb_neg (by decide), ifb_pos rfl, bnd2_c, ifb_pos rfl]; rfl
        · rw [ifb_neg h1, ifb_pos (show (4 : Int32) ≤ y from (le_gt (n := 3) (by omega)).mpr (hy.resolve_left h1)), bnd1_c, r_77_0 hR, bnd1_c, t_60, asrt_pos rfl, has_in hL hc, bnd1_c, ifb_neg (by decide), ifb_pos rfl, bnd2_c, ifb_pos rfl]; rfl
      · unfold f_Mod_print
        rw [lt_c, isCell_in hM0 hc, bnd1_c, ifb_neg (by decide), wI_n (by omega), z4, ifb_neg (by decide), ifb_pos (by decide), in_f (b := 3) (y := nI 3) rfl hy, bnd1_c, ifb_pos rfl]
    · have f1 : Fr [(77, some 5), (78, none), (77, some 6), (90, some 0), (90, some 43), (114, none), (90, some 42)] I (wI (wI (wI (wI (wI (wI (wI I 77 5 (nI d)) 78 0 (nI c)) 77 6 (nI 1)) 90 0 0) 90 43 (nI d)) 114 0 (nI c)) 90 42 (nI 1)) :=
        Fr.w (Fr.w (Fr.w (Fr.w (Fr.w (Fr.w (Fr.w Fr.rf rfl) rfl) rfl) rfl) rfl) rfl) rfl
      refine ⟨nI 1, wI (wI (wI I 77 5 (nI d)) 78 0 (nI c)) 77 6 (nI 1), wI (wI (wI (wI (wI (wI (wI I 77 5 (nI d)) 78 0 (nI c)) 77 6 (nI 1)) 90 0 0) 90 43 (nI d)) 114 0 (nI c)) 90 42 (nI 1), ?_, ?_, ?_⟩
      · unfold f_GWL_print f_Prints_tell
        rw [r_0_17 hR, bnd1_c, t_77, asrt_pos rfl, z3, ifb_pos (by decide), ifb_neg (zn (by omega)), ifb_neg (by rw [show (4 : Int32) = nI 4 from rfl, le32 (by omega) (by omega)]; omega), bnd1_c, r_77_0 hR, bnd1_c, t_60, asrt_pos rfl, has_in hL hc, bnd1_c, ifb_neg (by decide), ifb_neg (by decide), ifb_pos (by decide), ifb_pos (by decide), bnd1_c, lt_c, r_77_2 hR, bnd1_c, t_78, asrt_pos rfl,
          wI_n (by omega), z3, asrt_pos (vir (by omega) (by omega)), cl32 (by omega), lt_c, wI_n (by omega), wI_n (by omega), z3, nI_1, lt_c, lt_c, bnd2_c, ifb_neg (by decide), wI_s]
        rfl
      · unfold f_Mod_print
        have hM1 : LM W H K (wI (wI (wI (wI I 77 5 (nI d)) 78 0 (nI c)) 77 6 (nI 1)) 90 0 0) := hLn.2.1.ag (Fr.ag (l := [(77, none), (78, none), (90, some 0)]) (Fr.w (Fr.w (Fr.w (Fr.w Fr.rf rfl) rfl) rfl) rfl) rfl)
        have e42 : wI (wI (wI (wI I 77 5 (nI d)) 78 0 (nI c)) 77 6 (nI 1)) 90 0 0 90 42 = nI 0 := by
          simp (disch := omega) only [wI_n]; exact z4
        rw [lt_c, isCell_in hM1 hc, bnd1_c, ifb_neg (by decide), e42, ifb_neg (by decide), ifb_pos (by decide), in_t (b := 3) (n := 3) rfl (by omega) (by omega), bnd1_c, ifb_neg (by decide), ifb_pos (by decide), ifb_pos (by decide), bnd1_c, lt_c, r_90_44 hR, bnd1_c, t_114, asrt_pos rfl, wI_n (by omega), e42, asrt_pos (vir (by omega) (by omega)), cl32 (by omega), lt_c,
          wI_n (by omega), wI_n (by omega), e42, nI_1, lt_c, lt_c, wI_s, lt_c]
      · refine ⟨⟨_, _, hR⟩, hTx.imp fun _ h => h.imp fun _ h => h.ag (f1.ag rfl), hRw.imp fun _ h => h.imp fun _ h => h.ag (f1.ag rfl) (fun _ _ _ => rfl), hWg.imp fun _ h => h.imp fun _ h => h.ag (f1.ag rfl), hFe.imp fun _ h => h.ag (f1.ag rfl), hSh.ag (f1.ag rfl), hMk.imp fun _ h => h.ag (f1.ag rfl), W, H, K, hLn.ag (f1.ag rfl), hPt.imp fun _ h => h.ag (f1.ag rfl), hPs.imp fun _ h => h.imp fun _ h => h.imp fun _ h => h.ag (f1.ag rfl), ?_, hKp.ag (f1.ag rfl)⟩
        refine ⟨1, d, fun _ => c, by omega, by omega, ?_, wI_s, fun _ => ⟨?_, ?_⟩, fun k hk => ?_⟩
        · simp (disch := omega) only [wI_n, wI_s]
        · simp (disch := omega) only [wI_n, wI_s]
        · simp (disch := omega) only [wI_n, wI_s]
        · have : k = 0 := by omega
          subst this
          exact ⟨hc, by simp (disch := omega) only [wI_n, wI_s], by simp (disch := omega) only [wI_n, wI_s]⟩
  have hlast := z6 (n - 1) (by omega)
  obtain ⟨h51, h52⟩ := z5 (by omega)
  obtain ⟨w, hw01, hw1, hw2⟩ := beside_c hL (I' := wI I 90 0 0) hM0 hR hlast.1 hc
  rcases hw01 with rfl | rfl
  · refine ⟨-1, I, _, ?_, ?_, fin⟩
    · unfold f_GWL_print f_Prints_tell
      rw [r_0_17 hR, bnd1_c, t_77, asrt_pos rfl, z3, ifb_neg (by rw [nI0, eq32 (by omega) (by omega)]; omega), sub1 (by omega), cellAt_c hR (k := n - 1) z3 z1 (by omega) hlast.2.1, bnd1_c, hw1, bnd1_c, bnd1_c, r_77_0 hR, bnd1_c, t_60, asrt_pos rfl, has_in hL hc, bnd1_c, ifb_neg (by decide), ifb_pos rfl, bnd2_c, ifb_pos rfl]; rfl
    · unfold f_Mod_print
      rw [lt_c, isCell_in hM0 hc, bnd1_c, ifb_neg (by decide), wI_n (by omega), z4, ifb_neg (by rw [show (12 : Int32) = nI 12 from rfl, eq32 (by omega) (by omega)]; omega), ifb_neg (by rw [nI0, eq32 (by omega) (by omega)]; omega), ifb_neg (by rw [nI0, le32 (by omega) (by omega)]; omega), r_90_44 hR, bnd1_c, sub1 (by omega), lt_c, t_114, asrt_pos rfl,
        asrt_pos (vir (by omega) (by omega)), cl32 (by omega), wI_n (by omega), hlast.2.2, hw2, bnd1_c, ifb_pos rfl]
  · have f1 : Fr [(77, some 5), (78, none), (77, some 6), (90, some 0), (90, some 43), (114, none), (90, some 42)] I (wI (wI (wI (wI (wI (wI (wI I 77 5 (nI h)) 78 n (nI c)) 77 6 (nI (n + 1))) 90 0 0) 90 43 (nI h)) 114 n (nI c)) 90 42 (nI (n + 1))) :=
      Fr.w (Fr.w (Fr.w (Fr.w (Fr.w (Fr.w (Fr.w Fr.rf rfl) (by simp [inF])) rfl) rfl) rfl) (by simp [inF])) rfl
    refine ⟨nI (n + 1), wI (wI (wI I 77 5 (nI h)) 78 n (nI c)) 77 6 (nI (n + 1)), wI (wI (wI (wI (wI (wI (wI I 77 5 (nI h)) 78 n (nI c)) 77 6 (nI (n + 1))) 90 0 0) 90 43 (nI h)) 114 n (nI c)) 90 42 (nI (n + 1)), ?_, ?_, ?_⟩
    · unfold f_GWL_print f_Prints_tell
      rw [r_0_17 hR, bnd1_c, t_77, asrt_pos rfl, z3, ifb_neg (by rw [nI0, eq32 (by omega) (by omega)]; omega), sub1 (by omega), cellAt_c hR (k := n - 1) z3 z1 (by omega) hlast.2.1, bnd1_c, hw1, bnd1_c, bnd1_c, r_77_0 hR, bnd1_c, t_60, asrt_pos rfl, has_in hL hc, bnd1_c, ifb_neg (by decide), ifb_neg (by decide),
        ifb_pos (by rw [show (12 : Int32) = nI 12 from rfl, lt32 (by omega) (by omega)]; omega), ifb_neg (by rw [nI0, eq32 (by omega) (by omega)]; omega), bnd1_c, h51, lt_c, r_77_2 hR, bnd1_c, t_78, asrt_pos rfl,
        wI_n (by omega), z3, asrt_pos (vir (by omega) (by omega)), cl32 (by omega), lt_c, wI_n (by omega), wI_n (by omega), z3, nI_1, lt_c, lt_c, bnd2_c, ifb_neg (by decide), wI_s]
      rfl
    · unfold f_Mod_print
      have fM1 : Fr [(77, none), (78, none), (90, some 0)] I (wI (wI (wI (wI I 77 5 (nI h)) 78 n (nI c)) 77 6 (nI (n + 1))) 90 0 0) := Fr.w (Fr.w (Fr.w (Fr.w Fr.rf rfl) (by simp [inF])) rfl) rfl
      obtain ⟨w', -, hw1', hw2'⟩ := beside_c hL (I' := wI (wI (wI (wI I 77 5 (nI h)) 78 n (nI c)) 77 6 (nI (n + 1))) 90 0 0) (hLn.2.1.ag (fM1.ag rfl)) hR hlast.1 hc
      rw [hw1] at hw1'
      cases hw1'
      have e42 : wI (wI (wI (wI I 77 5 (nI h)) 78 n (nI c)) 77 6 (nI (n + 1))) 90 0 0 90 42 = nI n := by
        simp (disch := omega) only [wI_n]; exact z4
      rw [lt_c, isCell_in (hLn.2.1.ag (fM1.ag rfl)) hc, bnd1_c, ifb_neg (by decide), e42, ifb_neg (by rw [show (12 : Int32) = nI 12 from rfl, eq32 (by omega) (by omega)]; omega), ifb_neg (by rw [nI0, eq32 (by omega) (by omega)]; omega), ifb_neg (by rw [nI0, le32 (by omega) (by omega)]; omega), r_90_44 hR, bnd1_c, sub1 (by omega), lt_c, t_114, asrt_pos rfl,
        asrt_pos (vir (by omega) (by omega)), cl32 (by omega), fM1 114 _ rfl, hlast.2.2, hw2', bnd1_c, ifb_neg (by decide), ifb_neg (by rw [nI0, eq32 (by omega) (by omega)]; omega), bnd1_c, fM1 90 43 rfl, h52, lt_c, wI_n (by omega), e42, asrt_pos (vir (by omega) (by omega)), cl32 (by omega), lt_c, wI_n (by omega), wI_n (by omega), e42, nI_1, lt_c, lt_c, wI_s, lt_c]
    · refine ⟨⟨_, _, hR⟩, hTx.imp fun _ h => h.imp fun _ h => h.ag (f1.ag rfl), hRw.imp fun _ h => h.imp fun _ h => h.ag (f1.ag rfl) (fun _ _ _ => rfl), hWg.imp fun _ h => h.imp fun _ h => h.ag (f1.ag rfl), hFe.imp fun _ h => h.ag (f1.ag rfl), hSh.ag (f1.ag rfl), hMk.imp fun _ h => h.ag (f1.ag rfl), W, H, K, hLn.ag (f1.ag rfl), hPt.imp fun _ h => h.ag (f1.ag rfl), hPs.imp fun _ h => h.imp fun _ h => h.imp fun _ h => h.ag (f1.ag rfl), ?_, hKp.ag (f1.ag rfl)⟩
      refine ⟨n + 1, h, fun k => if k = n then c else z k, by omega, z2, ?_, wI_s, fun _ => ⟨?_, ?_⟩, fun k hk => ?_⟩
      · simp (disch := omega) only [wI_n, wI_s]
      · simp (disch := omega) only [wI_n, wI_s]
      · simp (disch := omega) only [wI_n, wI_s]
      · by_cases e : k = n
        · subst e
          simp only [if_true]
          exact ⟨hc, by simp (disch := omega) only [wI_n, wI_s], by simp (disch := omega) only [wI_n, wI_s]⟩
        · simp only [e, if_false]
          obtain ⟨y1, y2, y3⟩ := z6 k (by omega)
          exact ⟨y1, by simp (disch := omega) only [wI_n]; exact y2, by simp (disch := omega) only [wI_n]; exact y3⟩
end OI
