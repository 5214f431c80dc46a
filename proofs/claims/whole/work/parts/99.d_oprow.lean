section OPR
variable {B : Nat} {I : MI} {L : ML} {R : MR}
theorem Cp.up (h : Cp B I L R) : Cp (B + 1) I L R := by
  obtain ⟨a1, a2, a3, a4, a5, a6, a7, W, H, K, b1, b2, b3, b4, mo, hmo, hk⟩ := h
  exact ⟨a1, a2, a3, a4, a5, a6, a7, W, H, K, b1, b2, b3, b4, mo, by omega, hk⟩
theorem op_row (hC : Cp B I L R) (x : Int32) : ∃ k L1 b I2, f_Law_row S1 R I L 0 x 123 = some (k, L1) ∧ f_Mod_row S1 R I L1 90 x = some (b, I2) ∧ f_Mod_thrown S1 I2 90 = some k ∧ (k = 0 → L1 123 0 = b) ∧ Cp (B + 1) I2 L1 R := by
  obtain ⟨⟨p, fe, hR⟩, hTx, hRw, hWg, hFe, hSh, hMk, W, H, K, hLn, hPt, hPs, hPr, hKp⟩ := hC
  obtain ⟨n, ρ, hn, w1, w2, w3⟩ := id hRw
  have hh : ∀ m, m < 4294967295 → nI (m + 1) - 1 = nI m := fun m hm => by
    rw [show (1 : Int32) = nI 1 from rfl]
    apply Int32.toInt_inj.mp
    simp [nI, Int32.toInt_sub]
    try omega
  unfold f_Law_row
  rw [r_0_1 hR, bnd1_c, asrt_pos ⟨by rw [t_0], by rw [t_3], by rw [t_123], by rw [t_123]; decide⟩, w1]
  by_cases hx : x < 0 ∨ nI n ≤ x
  · have f1 : Fr [(90, some 0)] I (wI (wI I 90 0 0) 90 0 1) := Fr.w (Fr.w Fr.rf rfl) rfl
    refine ⟨1, L, 0, wI (wI I 90 0 0) 90 0 1, by rw [ifb_pos hx], ?_, ?_, fun z => absurd z (by decide), ?_⟩
    · have hin : ¬ (0 ≤ x ∧ x ≤ nI n - 1) := by
        rintro ⟨z1, z2⟩
        rcases hx with hx | hx
        · exact Int32.not_lt.mpr z1 hx
        · cases n with
          | zero =>
            have : nI 0 - 1 = (-1 : Int32) := by decide
            rw [this] at z2
            rw [Int32.le_iff_toInt_le] at z1 z2
            have h0 : (0 : Int32).toInt = 0 := by decide
            have h1 : (-1 : Int32).toInt = -1 := by decide
            omega
          | succ n =>
            rw [hh n (by omega)] at z2
            rw [Int32.le_iff_toInt_le] at hx z2
            rw [tI_n (by omega)] at hx z2
            omega
      unfold f_Mod_row
      rw [lt_c, wI_n (by omega), w2, in_i rfl, if_neg hin, bnd1_c, ifb_pos rfl]
      rfl
    · unfold f_Mod_thrown
      rw [lt_c, wI_s]
    · refine ⟨⟨_, _, hR⟩, hTx.imp fun _ h => h.imp fun _ h => h.ag (f1.ag rfl), hRw.imp fun _ h => h.imp fun _ h => h.ag (f1.ag rfl) (fun _ _ _ => rfl), hWg.imp fun _ h => h.imp fun _ h => h.ag (f1.ag rfl), hFe.imp fun _ h => h.ag (f1.ag rfl), hSh.ag (f1.ag rfl), hMk.imp fun _ h => h.ag (f1.ag rfl), W, H, K, hLn.ag (f1.ag rfl), hPt.imp fun _ h => h.ag (f1.ag rfl), hPs.imp fun _ h => h.imp fun _ h => h.imp fun _ h => h.ag (f1.ag rfl), hPr.imp fun _ h => h.imp fun _ h => h.imp fun _ h => h.ag (f1.ag rfl), hKp.ag (f1.ag rfl)⟩
  · have hx0 : ¬ x < 0 := fun z => hx (Or.inl z)
    have hxn : ¬ nI n ≤ x := fun z => hx (Or.inr z)
    obtain ⟨m, hm, rfl⟩ : ∃ m, m < n ∧ x = nI m := by
      rcases ix4 x 100 (by omega) with (z | z) | ⟨j, hj1, rfl⟩
      · exact absurd z hx0
      · exfalso
        rw [Int32.lt_iff_toInt_lt, tI_n (by omega)] at z
        rw [Int32.le_iff_toInt_le, tI_n (by omega)] at hxn
        omega
      · refine ⟨j, ?_, rfl⟩
        rw [Int32.le_iff_toInt_le] at hxn
        by_cases hj : j < n
        · exact hj
        · exact absurd (nI_le (by omega) (by omega)) (fun z => hx (Or.inr z))
    have f1 : Fr [(90, some 0)] I (wI I 90 0 0) := Fr.w Fr.rf rfl
    obtain ⟨e1, e2⟩ := w3 m hm
    refine ⟨0, wL L 123 0 (L 4 m), L 4 m, wI I 90 0 0, ?_, ?_, ?_, fun _ => wL_s, ?_⟩
    · have h16 : ¬ (16 : Int32) ≤ nI m := fun z => absurd (show nI 16 ≤ nI m from z) (nI_ge (by omega) (by omega))
      rw [ifb_neg hx]
      unfold f_Numbers_at
      rw [ifb_neg hx0, w1, ifb_neg hxn, ifb_neg h16, r_3_0 hR, bnd1_c, asrt_pos (by rw [t_4]), asrt_pos (by rw [t_4]; exact vp_in_nI (by omega) (by omega)), nI_clamp (by omega)]
      rfl
    · have hin : 0 ≤ nI m ∧ nI m ≤ nI n - 1 := by
        refine ⟨Int32.not_lt.mp hx0, ?_⟩
        obtain ⟨n, rfl⟩ : ∃ n', n = n' + 1 := ⟨n - 1, by omega⟩
        rw [hh n (by omega)]
        exact nI_le (by omega) (by omega)
      unfold f_Mod_row
      rw [lt_c, wI_n (by omega), w2, in_i rfl, if_pos hin, bnd1_c, ifb_neg (by decide), r_90_2 hR, bnd1_c, asrt_pos (by rw [t_91]), asrt_pos (by rw [t_91]; exact vp_in_nI (by omega) (by omega)), lt_c, nI_clamp (by omega), wL_n (by omega), e1, e2]
    · unfold f_Mod_thrown
      rw [lt_c, wI_s]
    · have f1L : FrL [(123, some 0)] L (wL L 123 0 (L 4 m)) := FrL.w FrL.rf rfl
      refine ⟨⟨_, _, hR⟩, hTx.imp fun _ h => h.imp fun _ h => h.ag (f1.ag rfl), hRw.imp fun _ h => h.imp fun _ h => h.ag (f1.ag rfl) (f1L.ag rfl), hWg.imp fun _ h => h.imp fun _ h => h.ag (f1.ag rfl), hFe.imp fun _ h => h.ag (f1.ag rfl), hSh.ag (f1.ag rfl), hMk.imp fun _ h => h.ag (f1.ag rfl), W, H, K, hLn.ag (f1.ag rfl), hPt.imp fun _ h => h.ag (f1.ag rfl), hPs.imp fun _ h => h.imp fun _ h => h.imp fun _ h => h.ag (f1.ag rfl), hPr.imp fun _ h => h.imp fun _ h => h.imp fun _ h => h.ag (f1.ag rfl), hKp.ag (f1.ag rfl)⟩
end OPR
