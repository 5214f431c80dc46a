section TX
variable {W H B n : Nat} {K τ : Nat → Nat} {I : MI} {L : ML} {R : MR} {p : Bool} {fe : Nat}
/-- byte k of an int, the highest first -/
def bt (x : Int32) (k : Nat) : Nat := x.toBitVec.toNat / 2 ^ (24 - 8 * k) % 2 ^ 8
theorem bt_lt (x : Int32) (k : Nat) : bt x k < 256 := Nat.mod_lt _ (by decide)
theorem bt_u (x : Int32) {k : Nat} (hk : k < 4) : (ius x (nI 24 - nI (8 * k))) &&& 255 = nI (bt x k) := by
  rw [pk_and _ 8 (by decide)]
  unfold bt ius
  congr 2
  rcases k4 hk with rfl | rfl | rfl | rfl
  · exact pk_ushr x _ 24 (by decide)
  · exact pk_ushr x _ 16 (by decide)
  · exact pk_ushr x _ 8 (by decide)
  · exact pk_ushr x _ 0 (by decide)
theorem sar_and (x : BitVec 32) (s : Nat) (hs : s ≤ 24) : x.sshiftRight s &&& 255#32 = x >>> s &&& 255#32 := by
  apply BitVec.eq_of_getLsbD_eq
  intro i hi
  simp only [BitVec.getLsbD_and, BitVec.getLsbD_sshiftRight, BitVec.getLsbD_ushiftRight]
  by_cases h : i < 8
  · rw [show decide (32 ≤ i) = false by simp; omega, if_pos (by omega)]
    simp
  · have : (255#32).getLsbD i = false := by
      have : (255#32) = BitVec.ofNat 32 (2 ^ 8 - 1) := rfl
      rw [this, BitVec.getLsbD_ofNat, Nat.testBit_two_pow_sub_one]
      simp; omega
    rw [this]
    simp
theorem bt_s (x : Int32) {k : Nat} (hk : k < 4) : (isr x (nI 24 - nI (8 * k))) &&& 255 = nI (bt x k) := by
  rw [← bt_u x hk]
  apply Int32.toBitVec_inj.mp
  rw [Int32.toBitVec_and, Int32.toBitVec_and]
  rcases k4 hk with rfl | rfl | rfl | rfl
  · exact sar_and x.toBitVec 24 (by decide)
  · exact sar_and x.toBitVec 16 (by decide)
  · exact sar_and x.toBitVec 8 (by decide)
  · exact sar_and x.toBitVec 0 (by decide)
theorem sh_n : ∀ k, k < 4 → ¬ (nI 24 - nI (8 * k) < 0) := by decide +kernel
theorem sh_s : ∀ k, k < 4 → (nI 24 - nI (8 * k)) + (-8) = nI 24 - nI (8 * (k + 1)) := by decide +kernel
theorem addFour_l (hR : RG p fe R) (x : Int32) (hn : n + 4 ≤ 80) : ∀ (f k : Nat) (I : MI), k ≤ 4 → 4 < k + f → I 1 1 = nI (n + k) → wpo (l_Signs_addFour_16 S1 R 1 x f I (nI 24 - nI (8 * k)))
    (fun I' => Fr [(1, some 1), (2, none)] I I' ∧ I' 1 1 = nI (n + 4) ∧ (∀ j, j < n + k → I' 2 j = I 2 j) ∧ ∀ j, k ≤ j → j < 4 → I' 2 (n + j) = nI (bt x j)) := by
  intro f
  induction f with
  | zero => intro k I h1 h2; omega
  | succ f ih =>
    intro k I h1 h2 hI
    rw [l_Signs_addFour_16]
    by_cases hk : k = 4
    · subst hk
      rw [ifb_pos (by decide)]
      exact ⟨I, rfl, Fr.rf, hI, fun _ _ => rfl, fun j a b => by omega⟩
    · have hk4 : k < 4 := by omega
      rw [ifb_neg (sh_n k hk4), r_1_0 hR, bnd1_c, lt_c, bt_u x hk4, t_2, asrt_pos rfl, hI, asrt_pos ((vi32 (by omega)).mpr (by omega)), cl32 (by omega), lt_c, wI_n (by omega), hI, nI_1, lt_c, lt_c, sh_s k hk4]
      refine wpo_mono (ih (k + 1) _ (by omega) (by omega) (by rw [wI_s]; rfl)) ?_
      rintro I' ⟨a, b, c, d⟩
      refine ⟨(Fr.w (Fr.w Fr.rf (by simp [inF])) rfl).tr a, b, fun j hj => ?_, fun j h3 h4 => ?_⟩
      · rw [c j (by omega), wI_n (by omega), wI_n (by omega)]
      · by_cases e : j = k
        · subst e
          rw [c _ (by omega), wI_n (by omega), wI_s]
        · exact d j (by omega) h4
theorem modsign_l (hR : RG p fe R) (x : Int32) (hn : n + 4 ≤ 80) : ∀ (f k : Nat) (I : MI), k ≤ 4 → 4 < k + f → I 90 17 = nI n → wpo (l_Mod_sign_18 S1 R 90 x f I (nI k))
    (fun I' => Fr [(95, none)] I I' ∧ (∀ j, j < n + k → I' 95 j = I 95 j) ∧ ∀ j, k ≤ j → j < 4 → I' 95 (n + j) = nI (bt x j)) := by
  intro f
  induction f with
  | zero => intro k I h1 h2; omega
  | succ f ih =>
    intro k I h1 h2 hI
    rw [l_Mod_sign_18]
    by_cases hk : k = 4
    · subst hk
      rw [ifb_pos (by decide)]
      exact ⟨I, rfl, Fr.rf, fun _ _ => rfl, fun j a b => by omega⟩
    · have hk4 : k < 4 := by omega
      rw [ifb_neg (by rw [show (4 : Int32) = nI 4 from rfl, le32 (by omega) (by omega)]; omega), r_90_16 hR, bnd1_c, show (24 : Int32) - 8 * nI k = nI 24 - nI (8 * k) from congrArg (nI 24 - ·) (pk_mul 8 k), bt_s x hk4, lt_c, t_95, asrt_pos rfl, hI, nI_add, asrt_pos ((vi32 (by omega)).mpr (by omega)), cl32 (by omega), lt_c, nI_1]
      refine wpo_mono (ih (k + 1) _ (by omega) (by omega) (by rw [wI_n (by omega), hI])) ?_
      rintro I' ⟨a, c, d⟩
      refine ⟨(Fr.w Fr.rf (by simp [inF])).tr a, fun j hj => ?_, fun j h3 h4 => ?_⟩
      · rw [c j (by omega), wI_n (by omega)]
      · by_cases e : j = k
        · subst e
          rw [c _ (by omega), wI_s]
        · exact d j (by omega) h4
theorem op_sign {g : Nat} (hg : 1000 ≤ g) (hC : Cp B I L R) (x : Int32) : ∃ v I1 I2, f_GWL_sign g S1 R I 0 x = some (v, I1) ∧ f_Mod_sign g S1 R I1 90 x = some (v, I2) ∧ Cp (B + 1) I2 L R := by
  obtain ⟨⟨p, fe, hR⟩, hTx, hRw, hWg, hFe, hSh, hMk, W, H, K, hLn, hPt, hPs, hPr, hKp⟩ := hC
  have hT := hTx
  obtain ⟨n, τ, h1, h2, h3, h4⟩ := hT
  by_cases hn : n + 4 ≤ 80
  · obtain ⟨I1, e1, a1, b1, c1, d1⟩ := addFour_l hR x hn g 0 I (by omega) (by omega) h2
    obtain ⟨I2, e2, a2, c2, d2⟩ := modsign_l (n := n) hR x hn g 0 (wI I1 90 0 0) (by omega) (by omega) (by rw [wI_n (by omega), a1 90 17 rfl, h3])
    have e1' : l_Signs_addFour_16 S1 R 1 x g I 24 = some I1 := e1
    have e2' : l_Mod_sign_18 S1 R 90 x g (wI I1 90 0 0) 0 = some I2 := e2
    have f2 : Fr [(90, some 0), (90, some 17), (95, none)] I1 (wI I2 90 17 (nI (n + 4))) := Fr.w ((Fr.w Fr.rf rfl).tr (a2.sub rfl)) rfl
    have f1 := (a1.sub (m := [(1, some 1), (2, none), (90, some 0), (90, some 17), (95, none)]) rfl).tr (f2.sub rfl)
    have h17 : I2 90 17 = nI n := by rw [a2 90 17 rfl, wI_n (by omega), a1 90 17 rfl, h3]
    refine ⟨nI (n + 4), I1, wI I2 90 17 (nI (n + 4)), ?_, ?_, ?_⟩
    · unfold f_GWL_sign f_Signs_addFour f_Signs_length
      rw [r_0_0 hR, bnd1_c, t_1, asrt_pos rfl, h2, show (4 : Int32) = nI 4 from rfl, nI_add, show (80 : Int32) = nI 80 from rfl, ifb_pos (by rw [le32 (by omega) (by omega)]; exact hn), e1', bnd1_c, bnd2_c, ifb_neg (by decide), lt_c, bnd1_c, bnd1_c, b1]
    · unfold f_Mod_sign
      rw [lt_c, wI_n (by omega), a1 90 17 rfl, h3, show (76 : Int32) = nI 76 from rfl, ifb_pos (by rw [le32 (by omega) (by omega)]; omega), e2', bnd1_c, h17, show (4 : Int32) = nI 4 from rfl, nI_add, lt_c, lt_c, lt_c, wI_s]
    · refine ⟨⟨_, _, hR⟩, ?_, hRw.imp fun _ h => h.imp fun _ h => h.ag (f1.ag rfl) (fun _ _ _ => rfl), hWg.imp fun _ h => h.imp fun _ h => h.ag (f1.ag rfl), hFe.imp fun _ h => h.ag (f1.ag rfl), hSh.ag (f1.ag rfl), hMk.imp fun _ h => h.ag (f1.ag rfl), W, H, K, hLn.ag (f1.ag rfl), hPt.imp fun _ h => h.ag (f1.ag rfl), hPs.imp fun _ h => h.imp fun _ h => h.imp fun _ h => h.ag (f1.ag rfl), hPr.imp fun _ h => h.imp fun _ h => h.imp fun _ h => h.ag (f1.ag rfl), hKp.ag (f1.ag rfl)⟩
      refine ⟨n + 4, fun j => if j < n then τ j else bt x (j - n), hn, ?_, wI_s, fun k hk => ?_⟩
      · rw [f2 1 1 rfl, b1]
      · by_cases hkn : k < n
        · simp only [hkn, if_true]
          obtain ⟨q1, q2, q3⟩ := h4 k hkn
          refine ⟨q1, ?_, ?_⟩
          · rw [f2 2 k rfl, c1 k (by omega), q2]
          · rw [wI_n (by omega), c2 k (by omega), wI_n (by omega), a1 95 k rfl, q3]
        · simp only [hkn, if_false]
          refine ⟨bt_lt _ _, ?_, ?_⟩
          · have := d1 (k - n) (by omega) (by omega)
            rw [show n + (k - n) = k by omega] at this
            rw [f2 2 k rfl, this]
          · have := d2 (k - n) (by omega) (by omega)
            rw [show n + (k - n) = k by omega] at this
            rw [wI_n (by omega), this]
  · have f1 : Fr [(90, some 0)] I (wI I 90 0 0) := Fr.w Fr.rf rfl
    refine ⟨-1, I, wI I 90 0 0, ?_, ?_, ?_⟩
    · unfold f_GWL_sign f_Signs_addFour
      rw [r_0_0 hR, bnd1_c, t_1, asrt_pos rfl, h2, show (4 : Int32) = nI 4 from rfl, nI_add, show (80 : Int32) = nI 80 from rfl, ifb_neg (by rw [le32 (by omega) (by omega)]; exact hn), bnd2_c, ifb_pos rfl, bnd1_c]
    · unfold f_Mod_sign
      rw [lt_c, wI_n (by omega), h3, show (76 : Int32) = nI 76 from rfl, ifb_neg (by rw [le32 (by omega) (by omega)]; omega)]
    · refine ⟨⟨_, _, hR⟩, hTx.imp fun _ h => h.imp fun _ h => h.ag (f1.ag rfl), hRw.imp fun _ h => h.imp fun _ h => h.ag (f1.ag rfl) (fun _ _ _ => rfl), hWg.imp fun _ h => h.imp fun _ h => h.ag (f1.ag rfl), hFe.imp fun _ h => h.ag (f1.ag rfl), hSh.ag (f1.ag rfl), hMk.imp fun _ h => h.ag (f1.ag rfl), W, H, K, hLn.ag (f1.ag rfl), hPt.imp fun _ h => h.ag (f1.ag rfl), hPs.imp fun _ h => h.imp fun _ h => h.imp fun _ h => h.ag (f1.ag rfl), hPr.imp fun _ h => h.imp fun _ h => h.imp fun _ h => h.ag (f1.ag rfl), hKp.ag (f1.ag rfl)⟩
theorem op_end (hC : Cp B I L R) (x : Int32) : ∃ v I1 I2, f_GWL_end S1 R I 0 x = some (v, I1) ∧ f_Mod_end S1 I1 90 x = some (v, I2) ∧ Cp (B + 1) I2 L R := by
  obtain ⟨⟨p, fe, hR⟩, hTx, hRw, hWg, hFe, hSh, hMk, W, H, K, hLn, hPt, hPs, hPr, hKp⟩ := hC
  have hT := hTx
  obtain ⟨n, τ, h1, h2, h3, h4⟩ := hT
  by_cases hx : ∃ j, j < n + 1 ∧ x = nI j
  · obtain ⟨j, hj, rfl⟩ := hx
    have f2 : Fr [(90, some 0), (90, some 17)] (wI I 1 1 (nI j)) (wI (wI (wI I 1 1 (nI j)) 90 0 0) 90 17 (nI j)) := Fr.w (Fr.w Fr.rf rfl) rfl
    have f1 : Fr [(1, some 1), (90, some 0), (90, some 17)] I (wI (wI (wI I 1 1 (nI j)) 90 0 0) 90 17 (nI j)) := Fr.w (Fr.w (Fr.w Fr.rf rfl) rfl) rfl
    refine ⟨1, wI I 1 1 (nI j), wI (wI (wI I 1 1 (nI j)) 90 0 0) 90 17 (nI j), ?_, ?_, ?_⟩
    · unfold f_GWL_end f_Signs_cut
      rw [r_0_0 hR, bnd1_c, t_1, asrt_pos rfl, ifb_neg (zn (by omega)), h2, ifb_pos (by rw [le32 (by omega) (by omega)]; omega), lt_c, bnd2_c, asrt_pos (Or.inr rfl)]
    · unfold f_Mod_end
      rw [lt_c, wI_n (by omega), wI_n (by omega), h3, in_t rfl (by omega) (by omega), bnd1_c, ifb_neg (by decide), lt_c]
    · refine ⟨⟨_, _, hR⟩, ?_, hRw.imp fun _ h => h.imp fun _ h => h.ag (f1.ag rfl) (fun _ _ _ => rfl), hWg.imp fun _ h => h.imp fun _ h => h.ag (f1.ag rfl), hFe.imp fun _ h => h.ag (f1.ag rfl), hSh.ag (f1.ag rfl), hMk.imp fun _ h => h.ag (f1.ag rfl), W, H, K, hLn.ag (f1.ag rfl), hPt.imp fun _ h => h.ag (f1.ag rfl), hPs.imp fun _ h => h.imp fun _ h => h.imp fun _ h => h.ag (f1.ag rfl), hPr.imp fun _ h => h.imp fun _ h => h.imp fun _ h => h.ag (f1.ag rfl), hKp.ag (f1.ag rfl)⟩
      exact ⟨j, τ, by omega, by rw [f2 1 1 rfl, wI_s], wI_s, fun k hk => by
        obtain ⟨q1, q2, q3⟩ := h4 k (by omega)
        exact ⟨q1, by rw [f1 2 k rfl, q2], by rw [f1 95 k rfl, q3]⟩⟩
  · have hx' : x < 0 ∨ nI n < x := by
      rcases pk_ix x (n := n + 1) (by omega) with z | z | z
      · exact Or.inl z
      · right
        rw [Int32.lt_iff_toInt_lt, tI_n (by omega)]
        rw [Int32.le_iff_toInt_le, tI_n (by omega)] at z
        omega
      · exact absurd z hx
    have f1 : Fr [(90, some 0)] I (wI I 90 0 0) := Fr.w Fr.rf rfl
    refine ⟨0, I, wI I 90 0 0, ?_, ?_, ?_⟩
    · unfold f_GWL_end f_Signs_cut
      rw [r_0_0 hR, bnd1_c, t_1, asrt_pos rfl]
      by_cases h0 : x < 0
      · rw [ifb_pos h0, bnd2_c, asrt_pos (Or.inl rfl)]
      · rw [ifb_neg h0, h2, ifb_neg (Int32.not_le.mpr (hx'.resolve_left h0)), bnd2_c, asrt_pos (Or.inl rfl)]
    · unfold f_Mod_end
      rw [lt_c, wI_n (by omega), h3, in_f rfl hx', bnd1_c, ifb_pos rfl]
    · refine ⟨⟨_, _, hR⟩, hTx.imp fun _ h => h.imp fun _ h => h.ag (f1.ag rfl), hRw.imp fun _ h => h.imp fun _ h => h.ag (f1.ag rfl) (fun _ _ _ => rfl), hWg.imp fun _ h => h.imp fun _ h => h.ag (f1.ag rfl), hFe.imp fun _ h => h.ag (f1.ag rfl), hSh.ag (f1.ag rfl), hMk.imp fun _ h => h.ag (f1.ag rfl), W, H, K, hLn.ag (f1.ag rfl), hPt.imp fun _ h => h.ag (f1.ag rfl), hPs.imp fun _ h => h.imp fun _ h => h.imp fun _ h => h.ag (f1.ag rfl), hPr.imp fun _ h => h.imp fun _ h => h.imp fun _ h => h.ag (f1.ag rfl), hKp.ag (f1.ag rfl)⟩
end TX
