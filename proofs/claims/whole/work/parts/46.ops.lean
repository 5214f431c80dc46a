section OJ
variable {W H B n : Nat} {K τ : Nat → Nat} {I I' : MI} {L : ML} {R : MR} {p : Bool} {fe : Nat} {q : Nat → Int32}
theorem m0' (x : Int32) : x * nI 0 = 0 := by
  rw [show nI 0 = 0 from rfl]
  exact Int32.mul_zero
theorem m1' (x : Int32) : x * nI 1 = x := by
  rw [show nI 1 = 1 from rfl]
  exact Int32.mul_one x
theorem a0' (x : Int32) : x + 0 = x := Int32.add_zero x
theorem op_owed (hC : Cp B I L R) : ∃ v I2, f_GWL_owed S1 R I 0 = some v ∧ f_Mod_owed S1 R I 90 = some (v, I2) ∧ Cp (B + 1) I2 L R := by
  obtain ⟨⟨p, fe, hR⟩, hTx, hRw, hWg, hFe, hSh, hMk, W, H, K, hLn, hPt, hPs, hPr, hKp⟩ := hC
  have f0 : Fr [(90, some 0)] I (wI I 90 0 0) := Fr.w Fr.rf rfl
  have fin : Cp (B + 1) (wI I 90 0 0) L R := by
    refine ⟨⟨_, _, hR⟩, hTx.imp fun _ h => h.imp fun _ h => h.ag (f0.ag rfl), hRw.imp fun _ h => h.imp fun _ h => h.ag (f0.ag rfl) (fun _ _ _ => rfl), hWg.imp fun _ h => h.imp fun _ h => h.ag (f0.ag rfl), hFe.imp fun _ h => h.ag (f0.ag rfl), hSh.ag (f0.ag rfl), hMk.imp fun _ h => h.ag (f0.ag rfl), W, H, K, hLn.ag (f0.ag rfl), hPt.imp fun _ h => h.ag (f0.ag rfl), hPs.imp fun _ h => h.imp fun _ h => h.imp fun _ h => h.ag (f0.ag rfl), hPr.imp fun _ h => h.imp fun _ h => h.imp fun _ h => h.ag (f0.ag rfl), hKp.ag (f0.ag rfl)⟩
  obtain ⟨q, hq⟩ := hPt
  obtain ⟨f, fk, ⟨f1, f2⟩, f3⟩ := hFe
  obtain ⟨⟨⟨c, hc, k0⟩, -⟩, c0, c1, c2, c3, c4, c5, c6⟩ := hq.d
  have hN := hLn.1.N36
  have hM0 : LM W H K (wI I 90 0 0) := hLn.2.1.ag (f0.ag rfl)
  have hk := hLn.1.2.2.1 c
  have g0 : I 47 0 = I 97 0 := (f1 0 (by omega)).trans (f3 0 (by omega)).symm
  have g1 : I 47 1 = I 97 1 := (f1 1 (by omega)).trans (f3 1 (by omega)).symm
  have g2 : I 47 2 = I 97 2 := (f1 2 (by omega)).trans (f3 2 (by omega)).symm
  have g3 : I 47 3 = I 97 3 := (f1 3 (by omega)).trans (f3 3 (by omega)).symm
  have g4 : I 47 4 = I 97 4 := (f1 4 (by omega)).trans (f3 4 (by omega)).symm
  have ne : ∀ k, wI I 90 0 0 97 k = I 97 k := fun k => wI_n (by omega)
  have cl1 : (1 : Int32).toNatClampNeg = 1 := by decide
  have cl2 : (2 : Int32).toNatClampNeg = 2 := by decide
  have cl3 : (3 : Int32).toNatClampNeg = 3 := by decide
  have cl4 : (4 : Int32).toNatClampNeg = 4 := by decide
  refine ⟨I 97 0 + I 97 1 * nI (if K c = 3 then 1 else 0) + I 97 2 * nI (if K c = 1 then 1 else 0) + I 97 3 * q 4 + I 97 4 * q 5, _, ?_, ?_, fin⟩
  · unfold f_GWL_owed f_Fee_endsWith
    rw [r_0_7 hR, bnd1_c, r_0_2 hR, bnd1_c, r_0_3 hR, bnd1_c, t_64, asrt_pos rfl, t_60, asrt_pos rfl, c0.1, k0, kindOf_in hLn.1 hR hc, bnd1_c, t_47, asrt_pos rfl, c4.1, c5.1, f2, g0, g1, g2, g3, g4]
    rcases k4 hk with e | e | e | e <;> rw [e]
    · rw [ifb_neg (by decide), bnd1_c, ifb_neg (by decide), bnd1_c, ifb_neg (nIm1 (by omega)), bnd1_c, lt_c, bnd1_c, lt_c, if_neg (by omega), if_neg (by omega), m0', m0', a0']
    · rw [ifb_neg (by decide), bnd1_c, ifb_pos (by decide), bnd1_c, ifb_neg (nIm1 (by omega)), bnd1_c, lt_c, bnd1_c, lt_c, if_neg (by omega), if_pos rfl, m0', m1', a0', a0']
    · rw [ifb_neg (by decide), bnd1_c, ifb_neg (by decide), bnd1_c, ifb_neg (nIm1 (by omega)), bnd1_c, lt_c, bnd1_c, lt_c, if_neg (by omega), if_neg (by omega), m0', m0', a0']
    · rw [ifb_pos (by decide), bnd1_c, ifb_neg (by decide), bnd1_c, ifb_neg (nIm1 (by omega)), bnd1_c, lt_c, bnd1_c, lt_c, if_pos rfl, if_neg (by omega), m0', m1', a0', a0']
  · unfold f_Mod_owed
    rw [lt_c, r_90_21 hR, bnd1_c, t_97, asrt_pos rfl, asrt_pos (vL0 (by decide)), asrt_pos (vL1 (by decide)), r_90_5 hR, bnd1_c, wI_n (by omega), c0.2, k0, lt_c, t_92, asrt_pos rfl, asrt_pos (vir (by omega) (by omega)), cl32 (by omega), hM0.2.2.2.2.2 c hc, clamp0, cl1, cl2, cl3, cl4, ne, ne, ne, ne, ne, wI_n (by omega), wI_n (by omega), c4.2, c5.2]
    have e3 : ∀ {β : Type} (g : Int32 → Option β), bnd1 (ifb (nI (K c) = 3) (some (1 : Int32)) (some 0)) (fun y => bnd1 (f_Mod_flag y) g) = g (nI (if K c = 3 then 1 else 0)) := fun g => by
      rcases k4 hk with e | e | e | e <;> rw [e]
      · rw [ifb_neg (by decide), bnd1_c, flag_0]; rfl
      · rw [ifb_neg (by decide), bnd1_c, flag_0]; rfl
      · rw [ifb_neg (by decide), bnd1_c, flag_0]; rfl
      · rw [ifb_pos (by decide), bnd1_c, flag_1]; rfl
    have e1 : ∀ {β : Type} (g : Int32 → Option β), bnd1 (ifb (nI (K c) = 1) (some (1 : Int32)) (some 0)) (fun y => bnd1 (f_Mod_flag y) g) = g (nI (if K c = 1 then 1 else 0)) := fun g => by
      rcases k4 hk with e | e | e | e <;> rw [e]
      · rw [ifb_neg (by decide), bnd1_c, flag_0]; rfl
      · rw [ifb_pos (by decide), bnd1_c, flag_1]; rfl
      · rw [ifb_neg (by decide), bnd1_c, flag_0]; rfl
      · rw [ifb_neg (by decide), bnd1_c, flag_0]; rfl
    rw [e3, asrt_pos (vL2 (by decide)), lt_c, asrt_pos (vir (by omega) (by omega)), cl32 (by omega), hM0.2.2.2.2.2 c hc, e1, asrt_pos (vL3 (by decide)), asrt_pos (vL4 (by decide)), lt_c]
theorem laidT : ∀ i, i < 3 → (50, i, 81 + 3 * i) ∈ tabR ∧ S1 (81 + 3 * i) = (0, 0) := by decide +kernel
theorem feeTake_c {a b : Nat} (ha : S1 a = (0, 0)) (hb : S1 b = (0, 0)) (hd : a ≠ b) {f : Nat → Int} (h : FeR b f I) : wpo (f_Fee_takeFrom S1 I a b) (fun I' => Fr [(a, none)] I I' ∧ FeR a f I') := by
  obtain ⟨h1, h2⟩ := h
  have ne : ∀ {J : MI} {k j : Nat} {v : Int32}, wI J a k v b j = J b j := wI_n (by omega)
  unfold f_Fee_takeFrom
  rw [hb, asrt_pos rfl, lt_c, lt_c, lt_c, lt_c, lt_c, lt_c, lt_c, lt_c, lt_c, lt_c, lt_c, lt_c]
  have w : ∀ (k : Nat), inF [(a, none)] a k = true := fun k => by simp [inF]
  refine wpo_some.mpr ⟨Fr.w (Fr.w (Fr.w (Fr.w (Fr.w (Fr.w Fr.rf (w 0)) (w _)) (w _)) (w _)) (w _)) (w _), fun i hi => ?_, ?_⟩
  · have : i = 0 ∨ i = 1 ∨ i = 2 ∨ i = 3 ∨ i = 4 := by omega
    rcases this with rfl | rfl | rfl | rfl | rfl <;> simp (disch := omega) only [wI_s, wI_n] <;> exact h1 _ (by omega)
  · simp (disch := omega) only [wI_s, wI_n]
    exact h2
theorem shelf_l (hR : RG p fe R) {i : Nat} (hi : i < 3) : ∀ (f k : Nat) (I : MI), k ≤ 5 → 5 < k + f → wpo (l_Mod_shelf_28 S1 R 90 (nI i) f I (nI k)) (fun I' => Fr [(110, none)] I I' ∧ (∀ j, j < 5 * i + k ∨ 5 * i + 5 ≤ j → I' 110 j = I 110 j) ∧ ∀ j, k ≤ j → j < 5 → I' 110 (5 * i + j) = I 97 j) := by
  intro f
  induction f with
  | zero => intro k I h1 h2; omega
  | succ f ih =>
    intro k I h1 h2
    rw [l_Mod_shelf_28, show (5 : Int32) = nI 5 from rfl]
    by_cases hk : k = 5
    · subst hk
      rw [ifb_pos (by rw [le32 (by omega) (by omega)]; omega)]
      exact ⟨I, rfl, Fr.rf, fun _ _ => rfl, fun j a b => by omega⟩
    · rw [ifb_neg (by rw [le32 (by omega) (by omega)]; omega), r_90_35 hR, bnd1_c, r_90_21 hR, bnd1_c, t_97, asrt_pos rfl, asrt_pos (vir (by omega) (by omega)), lt_c, t_110, asrt_pos rfl, pk_mul, nI_add, asrt_pos (vir (by omega) (by omega)), lt_c, cl32 (by omega), cl32 (by omega), nI_1]
      refine wpo_mono (ih (k + 1) _ (by omega) (by omega)) ?_
      rintro I' ⟨a', b, c⟩
      refine ⟨(Fr.w Fr.rf (by simp [inF])).tr a', fun j hj => ?_, fun j h3 h4 => ?_⟩
      · rw [b j (by omega), wI_n (by omega)]
      · by_cases e : j = k
        · subst e
          rw [b _ (by omega), wI_s]
        · rw [c j (by omega) h4, wI_n (by omega)]
def fLd : FT := [(81, none), (84, none), (87, none)]
theorem fLd_in {i k : Nat} (hi : i < 3) : inF fLd (81 + 3 * i) k = true := by
  have : i = 0 ∨ i = 1 ∨ i = 2 := by omega
  rcases this with rfl | rfl | rfl <;> rfl
theorem op_shelf {g : Nat} (hg : 1000 ≤ g) (hC : Cp B I L R) (x : Int32) : ∃ v I1 I2, f_GWL_shelf S1 R I 0 x = some (v, I1) ∧ f_Mod_shelf g S1 R I1 90 x = some (v, I2) ∧ Cp (B + 1) I2 L R := by
  obtain ⟨⟨p, fe, hR⟩, hTx, hRw, hWg, hFe, hSh, hMk, W, H, K, hLn, hPt, hPs, hPr, hKp⟩ := hC
  have f0 : Fr [(90, some 0)] I (wI I 90 0 0) := Fr.w Fr.rf rfl
  have fin : Cp (B + 1) (wI I 90 0 0) L R := by
    refine ⟨⟨_, _, hR⟩, hTx.imp fun _ h => h.imp fun _ h => h.ag (f0.ag rfl), hRw.imp fun _ h => h.imp fun _ h => h.ag (f0.ag rfl) (fun _ _ _ => rfl), hWg.imp fun _ h => h.imp fun _ h => h.ag (f0.ag rfl), hFe.imp fun _ h => h.ag (f0.ag rfl), hSh.ag (f0.ag rfl), hMk.imp fun _ h => h.ag (f0.ag rfl), W, H, K, hLn.ag (f0.ag rfl), hPt.imp fun _ h => h.ag (f0.ag rfl), hPs.imp fun _ h => h.imp fun _ h => h.imp fun _ h => h.ag (f0.ag rfl), hPr.imp fun _ h => h.imp fun _ h => h.imp fun _ h => h.ag (f0.ag rfl), hKp.ag (f0.ag rfl)⟩
  rcases isPlace_c x with ⟨-, e1, e2⟩ | ⟨i, hi, rfl, e1, e2⟩
  · refine ⟨0, I, _, ?_, ?_, fin⟩
    · unfold f_GWL_shelf
      rw [e1, bnd1_c, ifb_pos rfl]
    · unfold f_Mod_shelf
      rw [lt_c, e2, bnd1_c, ifb_pos rfl]
  obtain ⟨f, fk, fr47, f97⟩ := hFe
  obtain ⟨lt1, lt2⟩ := laidT i hi
  obtain ⟨I1, r1, a1, b1⟩ := feeTake_c (a := 81 + 3 * i) (b := 47) lt2 t_47 (by omega) fr47
  have fL : Fr fLd I I1 := fun a k hk => a1 a k (by
    simp only [inF, List.any_cons, List.any_nil, Bool.or_false, Bool.and_eq_false_iff, beq_eq_false_iff_ne]
    exact Or.inl fun e => by rw [← e, fLd_in hi] at hk; cases hk)
  have f1 : Fr (fLd ++ [(51, none), (90, some 0), (109, none)]) I (wI (wI (wI I1 51 i (1 &&& 1)) 90 0 0) 109 i (1 &&& 1)) := (((fL.sub rfl).w (by simp [inF, fLd])).w rfl).w (by simp [inF, fLd])
  obtain ⟨I2, r2, a2, b2, d2⟩ := shelf_l hR hi g 0 (wI (wI (wI I1 51 i (1 &&& 1)) 90 0 0) 109 i (1 &&& 1)) (by omega) (by omega)
  have r2' : l_Mod_shelf_28 S1 R 90 (nI i) g (wI (wI (wI I1 51 i (1 &&& 1)) 90 0 0) 109 i (1 &&& 1)) 0 = some I2 := r2
  have f2 : Fr (fLd ++ [(51, none), (90, some 0), (109, none), (110, none)]) I I2 := (f1.sub rfl).tr (a2.sub rfl)
  refine ⟨1, wI I1 51 i (1 &&& 1), I2, ?_, ?_, ?_⟩
  · unfold f_GWL_shelf
    rw [e1, bnd1_c, ifb_neg (by decide), r_0_10 hR, bnd1_c, t_50, asrt_pos rfl, asrt_pos (vir (by omega) (by omega)), cl32 (by omega), hR.1 _ lt1, bnd1_c, r_0_7 hR, bnd1_c, lt2, asrt_pos rfl, r1, bnd1_c, r_0_11 hR, bnd1_c, t_51, asrt_pos rfl, asrt_pos (vir (by omega) (by omega)), lt_c]
  · unfold f_Mod_shelf
    rw [lt_c, e2, bnd1_c, ifb_neg (by decide), r_90_34 hR, bnd1_c, t_109, asrt_pos rfl, asrt_pos (vir (by omega) (by omega)), cl32 (by omega), lt_c, r2', bnd1_c]
  · refine ⟨⟨_, _, hR⟩, hTx.imp fun _ h => h.imp fun _ h => h.ag (f2.ag rfl), hRw.imp fun _ h => h.imp fun _ h => h.ag (f2.ag rfl) (fun _ _ _ => rfl), hWg.imp fun _ h => h.imp fun _ h => h.ag (f2.ag rfl), ?_, ?_, hMk.imp fun _ h => h.ag (f2.ag rfl), W, H, K, hLn.ag (f2.ag rfl), hPt.imp fun _ h => h.ag (f2.ag rfl), hPs.imp fun _ h => h.imp fun _ h => h.imp fun _ h => h.ag (f2.ag rfl), hPr.imp fun _ h => h.imp fun _ h => h.imp fun _ h => h.ag (f2.ag rfl), hKp.ag (f2.ag rfl)⟩
    · exact ⟨f, fk, ⟨fun j hj => (f2 47 j rfl).trans (fr47.1 j hj), (f2 47 5 rfl).trans fr47.2⟩, fun j hj => (f2 97 j rfl).trans (f97 j hj)⟩
    · intro j hj
      by_cases e : j = i
      · subst e
        refine Or.inr ⟨?_, ?_, f, fk, ⟨fun k hk => ?_, ?_⟩, fun k hk => ?_⟩
        · rw [a2 51 _ rfl, wI_n (by omega), wI_n (by omega), wI_s]; rfl
        · rw [a2 109 _ rfl, wI_s]; rfl
        · rw [a2 _ k (by simp [inF]; omega), wI_n (by omega), wI_n (by omega), wI_n (by omega)]
          exact b1.1 k hk
        · rw [a2 _ 5 (by simp [inF]; omega), wI_n (by omega), wI_n (by omega), wI_n (by omega)]
          exact b1.2
        · rw [d2 k (by omega) hk, f1 97 k rfl]
          exact f97 k hk
      · have q51 : I2 51 j = I 51 j := by rw [a2 51 j rfl, wI_n (by omega), wI_n (by omega), wI_n (by omega), fL 51 j rfl]
        have q109 : I2 109 j = I 109 j := by rw [a2 109 j rfl, wI_n (by omega), wI_n (by omega), wI_n (by omega), fL 109 j rfl]
        have q81 : ∀ k, I2 (81 + 3 * j) k = I (81 + 3 * j) k := fun k => by
          rw [a2 _ k (by simp [inF]; omega), wI_n (by omega), wI_n (by omega), wI_n (by omega)]
          exact a1 _ k (by simp [inF]; omega)
        rcases hSh j hj with ⟨y1, y2⟩ | ⟨y1, y2, f', y3, ⟨y4, y5⟩, y6⟩
        · exact Or.inl ⟨q51.trans y1, q109.trans y2⟩
        · exact Or.inr ⟨q51.trans y1, q109.trans y2, f', y3, ⟨fun k hk => (q81 k).trans (y4 k hk), (q81 5).trans y5⟩, fun k hk => by
            rw [b2 _ (by omega), f1 110 _ rfl]
            exact y6 k hk⟩
end OJ
