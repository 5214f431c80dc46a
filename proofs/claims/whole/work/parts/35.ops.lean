section OA
variable {W H B n : Nat} {K τ : Nat → Nat} {I : MI} {L : ML} {R : MR} {p : Bool} {fe : Nat}
def wq (q : Nat → Int32) (i : Nat) (v : Int32) : Nat → Int32 := fun j => if j = i then v else q j
theorem wq_s {q : Nat → Int32} {i : Nat} {v : Int32} : wq q i v i = v := by simp [wq]
theorem wq_n {q : Nat → Int32} {i j : Nat} {v : Int32} (h : j ≠ i) : wq q i v j = q j := by simp [wq, h]
theorem ix3 (x : Int32) (n : Nat) (hn : n < 2147483648) : (x < 0 ∨ nI n ≤ x) ∨ ∃ j, j < n ∧ x = nI j := by
  rcases pk_ix x (n := n) (by omega) with z | z | z
  · exact Or.inl (Or.inl z)
  · exact Or.inl (Or.inr z)
  · exact Or.inr z
theorem le_gt {x : Int32} {n : Nat} (hn : n + 1 < 2147483648) : nI (n + 1) ≤ x ↔ nI n < x := by
  rw [Int32.lt_iff_toInt_lt, Int32.le_iff_toInt_le, tI_n (by omega), tI_n (by omega)]
  omega
/-- where an int lies: from 0 to n, or not -/
theorem ix4 (x : Int32) (n : Nat) (hn : n + 1 < 2147483648) : (x < 0 ∨ nI n < x) ∨ ∃ j, j ≤ n ∧ x = nI j := by
  rcases ix3 x (n + 1) hn with z | ⟨j, h, e⟩
  · rw [le_gt hn] at z
    exact Or.inl z
  · exact Or.inr ⟨j, by omega, e⟩
theorem Pst0 {nx : Nat} {u : Nat → Nat → Int32} (h : nx < 20) (h1 : I 5 1 = nI nx) (h2 : I 5 2 = 0) (h3 : I 90 23 = 0) : Pst W H 0 nx u I :=
  ⟨by omega, h, h1, h2, h3, fun j hj => by omega⟩
theorem vL0 {N : Nat} (h : 0 < N) : vp_in 0 N := (vi32 (n := 0) (by omega)).mpr h
theorem vL1 {N : Nat} (h : 1 < N) : vp_in 1 N := (vi32 (n := 1) (by omega)).mpr h
theorem vL2 {N : Nat} (h : 2 < N) : vp_in 2 N := (vi32 (n := 2) (by omega)).mpr h
theorem vL3 {N : Nat} (h : 3 < N) : vp_in 3 N := (vi32 (n := 3) (by omega)).mpr h
theorem vL4 {N : Nat} (h : 4 < N) : vp_in 4 N := (vi32 (n := 4) (by omega)).mpr h
theorem op_cell (hC : Cp B I L R) (x : Int32) : ∃ v I2, f_GWL_cell S1 R I 0 x = some v ∧ f_Mod_cell S1 R I 90 x = some (v, I2) ∧ Cp (B + 1) I2 L R := by
  obtain ⟨⟨p, fe, hR⟩, hTx, hRw, hWg, hFe, hSh, hMk, W, H, K, hLn, hPt, hPs, hPr, hKp⟩ := hC
  have f1 : Fr [(90, some 0)] I (wI I 90 0 0) := Fr.w Fr.rf rfl
  have hM := hLn.2.1.ag (f1.ag rfl)
  have hN := hLn.1.N36
  rcases ix3 x (W * H) (by omega) with hx | ⟨c, hc, rfl⟩
  · refine ⟨-1, wI I 90 0 0, ?_, ?_, ?_⟩
    · unfold f_GWL_cell
      rw [r_0_2 hR, bnd1_c, t_60, asrt_pos rfl, kindOf_out hLn.1 hx]; rfl
    · unfold f_Mod_cell
      rw [lt_c, isCell_out hM hx, bnd1_c, ifb_pos rfl]; rfl
    · refine ⟨⟨_, _, hR⟩, hTx.imp fun _ h => h.imp fun _ h => h.ag (f1.ag rfl), hRw.imp fun _ h => h.imp fun _ h => h.ag (f1.ag rfl) (fun _ _ _ => rfl), hWg.imp fun _ h => h.imp fun _ h => h.ag (f1.ag rfl), hFe.imp fun _ h => h.ag (f1.ag rfl), hSh.ag (f1.ag rfl), hMk.imp fun _ h => h.ag (f1.ag rfl), W, H, K, hLn.ag (f1.ag rfl), hPt.imp fun _ h => h.ag (f1.ag rfl), hPs.imp fun _ h => h.imp fun _ h => h.imp fun _ h => h.ag (f1.ag rfl), hPr.imp fun _ h => h.imp fun _ h => h.imp fun _ h => h.ag (f1.ag rfl), hKp.ag (f1.ag rfl)⟩
  · refine ⟨nI (K c), wI I 90 0 0, ?_, ?_, ?_⟩
    · unfold f_GWL_cell
      rw [r_0_2 hR, bnd1_c, t_60, asrt_pos rfl, kindOf_in hLn.1 hR hc]; rfl
    · unfold f_Mod_cell
      rw [lt_c, isCell_in hM hc, bnd1_c, ifb_neg (by decide), r_90_5 hR, bnd1_c, t_92, asrt_pos rfl, asrt_pos ((vi32 (by omega)).mpr (by omega)), cl32 (by omega), hM.2.2.2.2.2 c hc]; rfl
    · refine ⟨⟨_, _, hR⟩, hTx.imp fun _ h => h.imp fun _ h => h.ag (f1.ag rfl), hRw.imp fun _ h => h.imp fun _ h => h.ag (f1.ag rfl) (fun _ _ _ => rfl), hWg.imp fun _ h => h.imp fun _ h => h.ag (f1.ag rfl), hFe.imp fun _ h => h.ag (f1.ag rfl), hSh.ag (f1.ag rfl), hMk.imp fun _ h => h.ag (f1.ag rfl), W, H, K, hLn.ag (f1.ag rfl), hPt.imp fun _ h => h.ag (f1.ag rfl), hPs.imp fun _ h => h.imp fun _ h => h.imp fun _ h => h.ag (f1.ag rfl), hPr.imp fun _ h => h.imp fun _ h => h.imp fun _ h => h.ag (f1.ag rfl), hKp.ag (f1.ag rfl)⟩
theorem op_seed (hC : Cp B I L R) (x : Int32) : ∃ v I1 I2, f_GWL_seed S1 R I 0 x = some (v, I1) ∧ f_Mod_seed S1 I1 90 x = some (v, I2) ∧ Cp (B + 1) I2 L R := by
  obtain ⟨⟨p, fe, hR⟩, hTx, hRw, hWg, hFe, hSh, hMk, W, H, K, hLn, hPt, hPs, hPr, hKp⟩ := hC
  obtain ⟨q, hq⟩ := hPt
  have f1 : Fr [(64, some 3), (90, some 0), (90, some 12)] I (wI (wI (wI I 64 3 x) 90 0 0) 90 12 x) := Fr.w (Fr.w (Fr.w Fr.rf rfl) rfl) rfl
  refine ⟨q 3, wI I 64 3 x, wI (wI (wI I 64 3 x) 90 0 0) 90 12 x, ?_, ?_, ?_⟩
  · unfold f_GWL_seed
    rw [r_0_3 hR, bnd1_c, t_64, asrt_pos rfl, lt_c, lt_c, hq.2.1.1.2.2.2.1]
  · unfold f_Mod_seed
    rw [lt_c, lt_c, lt_c, wI_n (by omega), wI_n (by omega), hq.2.2.1.2.2.2.1]
  · refine ⟨⟨_, _, hR⟩, hTx.imp fun _ h => h.imp fun _ h => h.ag (f1.ag rfl), hRw.imp fun _ h => h.imp fun _ h => h.ag (f1.ag rfl) (fun _ _ _ => rfl), hWg.imp fun _ h => h.imp fun _ h => h.ag (f1.ag rfl), hFe.imp fun _ h => h.ag (f1.ag rfl), hSh.ag (f1.ag rfl), hMk.imp fun _ h => h.ag (f1.ag rfl), W, H, K, hLn.ag (f1.ag rfl), ?_, hPs.imp fun _ h => h.imp fun _ h => h.imp fun _ h => h.ag (f1.ag rfl), hPr.imp fun _ h => h.imp fun _ h => h.imp fun _ h => h.ag (f1.ag rfl), hKp.ag (f1.ag rfl)⟩
    obtain ⟨⟨b1, b2, b3, b4⟩, ⟨⟨c0, c1, c2, c3, c4, c5⟩, c6⟩, ⟨d0, d1, d2, d3, d4, d5⟩, d6⟩ := hq
    refine ⟨wq q 3 x, ⟨?_, ?_, ?_, ?_⟩, ⟨⟨?_, ?_, ?_, ?_, ?_, ?_⟩, ?_⟩, ⟨?_, ?_, ?_, ?_, ?_, ?_⟩, ?_⟩
    · simpa (disch := omega) only [wq_n] using b1
    · simpa (disch := omega) only [wq_n] using b2
    · simpa (disch := omega) only [wq_n] using b3
    · intro k hk
      simpa (disch := omega) only [wq_n] using b4 k hk
    · simpa (disch := omega) only [wq_n, wI_n] using c0
    · simpa (disch := omega) only [wq_n, wI_n] using c1
    · simpa (disch := omega) only [wq_n, wI_n] using c2
    · simp (disch := omega) only [wq_s, wI_s, wI_n]
    · simpa (disch := omega) only [wq_n, wI_n] using c4
    · simpa (disch := omega) only [wq_n, wI_n] using c5
    · intro k hk
      simpa (disch := omega) only [wq_n, wI_n] using c6 k hk
    · simpa (disch := omega) only [wq_n, wI_n] using d0
    · simpa (disch := omega) only [wq_n, wI_n] using d1
    · simpa (disch := omega) only [wq_n, wI_n] using d2
    · simp (disch := omega) only [wq_s, wI_s, wI_n]
    · simpa (disch := omega) only [wq_n, wI_n] using d4
    · simpa (disch := omega) only [wq_n, wI_n] using d5
    · intro k hk
      simpa (disch := omega) only [wq_n, wI_n] using d6 k hk
theorem op_weights (hC : Cp B I L R) (x y : Int32) : ∃ v I1 I2, f_GWL_weights S1 R I 0 x y = some (v, I1) ∧ f_Mod_weights S1 R I1 90 x y = some (v, I2) ∧ Cp (B + 1) I2 L R := by
  obtain ⟨⟨p, fe, hR⟩, hTx, hRw, hWg, hFe, hSh, hMk, W, H, K, hLn, hPt, hPs, hPr, hKp⟩ := hC
  have f0 : Fr [(90, some 0)] I (wI I 90 0 0) := Fr.w Fr.rf rfl
  rcases ix4 x 10 (by omega) with hx | ⟨a, ha, rfl⟩
  · refine ⟨0, I, wI I 90 0 0, ?_, ?_, ?_⟩
    · unfold f_GWL_weights
      by_cases h : x < 0
      · rw [ifb_pos h]
      · rw [ifb_neg h, ifb_pos (show (10 : Int32) < x from hx.resolve_left h)]
    · unfold f_Mod_weights
      rw [lt_c, in_f (b := 10) (y := nI 10) rfl hx, bnd1_c, ifb_pos rfl]
    · refine ⟨⟨_, _, hR⟩, hTx.imp fun _ h => h.imp fun _ h => h.ag (f0.ag rfl), hRw.imp fun _ h => h.imp fun _ h => h.ag (f0.ag rfl) (fun _ _ _ => rfl), hWg.imp fun _ h => h.imp fun _ h => h.ag (f0.ag rfl), hFe.imp fun _ h => h.ag (f0.ag rfl), hSh.ag (f0.ag rfl), hMk.imp fun _ h => h.ag (f0.ag rfl), W, H, K, hLn.ag (f0.ag rfl), hPt.imp fun _ h => h.ag (f0.ag rfl), hPs.imp fun _ h => h.imp fun _ h => h.imp fun _ h => h.ag (f0.ag rfl), hPr.imp fun _ h => h.imp fun _ h => h.imp fun _ h => h.ag (f0.ag rfl), hKp.ag (f0.ag rfl)⟩
  · have e10 : (10 : Int32) - nI a = nI (10 - a) := pk_sub (a := 10) ha
    rcases ix4 y (10 - a) (by omega) with hy | ⟨b, hb, rfl⟩
    · refine ⟨0, I, wI I 90 0 0, ?_, ?_, ?_⟩
      · unfold f_GWL_weights
        rw [ifb_neg (zn (by omega)), show (10 : Int32) = nI 10 from rfl, ifb_neg (by rw [lt32 (by omega) (by omega)]; omega)]
        by_cases h : y < 0
        · rw [ifb_pos h]
        · rw [ifb_neg h, show nI 10 - nI a = nI (10 - a) from e10, ifb_neg (Int32.not_le.mpr (hy.resolve_left h))]
      · unfold f_Mod_weights
        rw [lt_c, in_t (b := 10) (n := 10) rfl (by omega) (by omega), bnd1_c, ifb_neg (by decide)]
        rcases ix4 y 10 (by omega) with hy2 | ⟨b, hb, rfl⟩
        · rw [in_f (b := 10) (y := nI 10) rfl hy2, bnd1_c, ifb_pos rfl]
        · rw [in_t (b := 10) (n := 10) rfl (by omega) (by omega), bnd1_c, ifb_neg (by decide), nI_add, show (10 : Int32) = nI 10 from rfl, ifb_neg]
          rw [le32 (by omega) (by omega)]
          rcases hy with hy | hy
          · exact absurd hy (zn (by omega))
          · rw [lt32 (by omega) (by omega)] at hy
            omega
      · refine ⟨⟨_, _, hR⟩, hTx.imp fun _ h => h.imp fun _ h => h.ag (f0.ag rfl), hRw.imp fun _ h => h.imp fun _ h => h.ag (f0.ag rfl) (fun _ _ _ => rfl), hWg.imp fun _ h => h.imp fun _ h => h.ag (f0.ag rfl), hFe.imp fun _ h => h.ag (f0.ag rfl), hSh.ag (f0.ag rfl), hMk.imp fun _ h => h.ag (f0.ag rfl), W, H, K, hLn.ag (f0.ag rfl), hPt.imp fun _ h => h.ag (f0.ag rfl), hPs.imp fun _ h => h.imp fun _ h => h.imp fun _ h => h.ag (f0.ag rfl), hPr.imp fun _ h => h.imp fun _ h => h.imp fun _ h => h.ag (f0.ag rfl), hKp.ag (f0.ag rfl)⟩
    · have f1 : Fr [(66, none), (90, some 0), (93, none)] I (wI (wI (wI (wI (wI (wI (wI I 66 0 (nI a)) 66 1 (nI b)) 66 2 (nI (10 - a - b))) 90 0 0) 93 0 (nI a)) 93 1 (nI b)) 93 2 (nI (10 - a - b))) :=
        Fr.w (Fr.w (Fr.w (Fr.w (Fr.w (Fr.w (Fr.w Fr.rf rfl) rfl) rfl) rfl) rfl) rfl) rfl
      have e11 : (10 : Int32) - nI a - nI b = nI (10 - a - b) := by rw [e10, pk_sub hb]
      refine ⟨1, wI (wI (wI I 66 0 (nI a)) 66 1 (nI b)) 66 2 (nI (10 - a - b)), wI (wI (wI (wI (wI (wI (wI I 66 0 (nI a)) 66 1 (nI b)) 66 2 (nI (10 - a - b))) 90 0 0) 93 0 (nI a)) 93 1 (nI b)) 93 2 (nI (10 - a - b)), ?_, ?_, ?_⟩
      · unfold f_GWL_weights
        rw [ifb_neg (zn (by omega)), show (10 : Int32) = nI 10 from rfl, ifb_neg (by rw [lt32 (by omega) (by omega)]; omega), ifb_neg (zn (by omega)), show nI 10 - nI a = nI (10 - a) from e10, ifb_pos (by rw [le32 (by omega) (by omega)]; omega),
          r_0_5 hR, bnd1_c, t_66, asrt_pos rfl, asrt_pos (vL0 (by decide)), lt_c, asrt_pos (vL1 (by decide)), lt_c, lt_c, pk_sub hb, asrt_pos (vL2 (by decide)), lt_c]
        rfl
      · unfold f_Mod_weights
        rw [lt_c, in_t (b := 10) (n := 10) rfl (by omega) (by omega), bnd1_c, ifb_neg (by decide), in_t (b := 10) (n := 10) rfl (by omega) (by omega), bnd1_c, ifb_neg (by decide), ifb_pos (by rw [nI_add, show (10 : Int32) = nI 10 from rfl, le32 (by omega) (by omega)]; omega),
          r_90_9 hR, bnd1_c, t_93, asrt_pos rfl, asrt_pos (vL0 (by decide)), lt_c, asrt_pos (vL1 (by decide)), lt_c, e11, lt_c, asrt_pos (vL2 (by decide)), lt_c]
        rfl
      · refine ⟨⟨_, _, hR⟩, hTx.imp fun _ h => h.imp fun _ h => h.ag (f1.ag rfl), hRw.imp fun _ h => h.imp fun _ h => h.ag (f1.ag rfl) (fun _ _ _ => rfl), ?_, hFe.imp fun _ h => h.ag (f1.ag rfl), hSh.ag (f1.ag rfl), hMk.imp fun _ h => h.ag (f1.ag rfl), W, H, K, hLn.ag (f1.ag rfl), hPt.imp fun _ h => h.ag (f1.ag rfl), hPs.imp fun _ h => h.imp fun _ h => h.imp fun _ h => h.ag (f1.ag rfl), hPr.imp fun _ h => h.imp fun _ h => h.imp fun _ h => h.ag (f1.ag rfl), hKp.ag (f1.ag rfl)⟩
        obtain ⟨w, hd, -, -, h3, h4, h5⟩ := hWg
        refine ⟨fun t => if t = 0 then a else if t = 1 then b else 10 - a - b, hd, by simp; omega, fun t ht => ?_, h3, (f1 0 6 rfl).trans h4, (f1 90 11 rfl).trans h5⟩
        have : t = 0 ∨ t = 1 ∨ t = 2 := by omega
        rcases this with rfl | rfl | rfl
        · exact ⟨by simp (disch := omega) only [wI_s, wI_n]; rfl, by simp (disch := omega) only [wI_s, wI_n]; rfl⟩
        · exact ⟨by simp (disch := omega) only [wI_s, wI_n]; rfl, by simp (disch := omega) only [wI_s, wI_n]; rfl⟩
        · exact ⟨by simp (disch := omega) only [wI_s, wI_n]; rfl, by simp (disch := omega) only [wI_s, wI_n]; rfl⟩
end OA
