section OI
variable {W H m s0 n k hd h0 N b q c h vv vo B : Nat} {K w : Nat → Nat} {l e : Nat → Int} {fs fa : Int} {I I' J : MI} {L L' L0 M : ML} {R : MR} {p : Bool} {fe : Nat}
theorem len100 (x : Int32) : ((x < 0 ∨ nI 100 < x) ∧ f_Mod_in x.toInt64 0 100 = some 0) ∨ ∃ m, m ≤ 100 ∧ x = nI m ∧ f_Mod_in x.toInt64 0 100 = some 1 := by
  rcases ix4 x 100 (by omega) with z | ⟨j, hj, rfl⟩
  · exact Or.inl ⟨z, in_f (b := 100) (y := nI 100) rfl z⟩
  · exact Or.inr ⟨j, hj, rfl, in_t (b := 100) (n := 100) rfl hj (by omega)⟩
/-- is a chance below so many hundredths -/
theorem lt100 {z : Int} {m n : Nat} (hz : -(100 ^ n) ≤ z ∧ z ≤ 100 ^ n) (hm : m ≤ 100) (hn : n ≤ 8) : (lg_cmp (iL z * 100) ((nI m).toInt64 * iL (100 ^ n)) < 0 ↔ z * 100 < (m : Int) * 100 ^ n) ∧ (lg_cmp (100 * iL z) ((nI m).toInt64 * iL (100 ^ n)) < 0 ↔ z * 100 < (m : Int) * 100 ^ n) := by
  have h1 := h16 n hn
  have h2 := p100 n
  have h3 := Int.mul_le_mul_of_nonneg_right (show (m : Int) ≤ 100 by omega) (Int.le_of_lt h2)
  have h4 := Int.mul_nonneg (show (0 : Int) ≤ m by omega) (Int.le_of_lt h2)
  have ha : B63 (z * 100) := by unfold B63; omega
  have hb : B63 ((m : Int) * 100 ^ n) := by unfold B63; omega
  have e1 : (nI m).toInt64 * iL (100 ^ n) = iL ((m : Int) * 100 ^ n) := by
    rw [show (nI m).toInt64 = lN m from nI_l (by omega), iL_N, iL_mul]
  have e2 : iL z * 100 = iL (z * 100) := by rw [show (100 : Int64) = iL 100 from rfl, iL_mul]
  have e3 : 100 * iL z = iL (z * 100) := by
    rw [show (100 : Int64) = iL 100 from rfl, iL_mul, Int.mul_comm]
  rw [e1, e2, e3, lg_cmp_lt, iL_lt ha hb]
  exact ⟨Iff.rfl, Iff.rfl⟩
theorem op_fewest {g : Nat} (hg : 1000000000 ≤ g) (hC : Cp B I L R) (x y : Int32) : ∃ v I1 L1 R1 I2 L2, f_GWL_fewest g S1 R I L 0 x y = some (v, I1, L1, R1) ∧ f_Mod_fewest g S1 R1 I1 L1 90 x y = some (v, I2, L2) ∧ Cp (B + 1) I2 L2 R1 := by
  obtain ⟨⟨p, fe, hR⟩, hTx, hRw, hWg, hFe, hSh, hMk, W, H, K, hLn, hPt, hPs, hPr, hKp⟩ := hC
  obtain ⟨q, hq⟩ := id hPt
  obtain ⟨⟨⟨c, hc, k0⟩, ⟨h, hh, k1⟩, ⟨vv, hv, k2⟩, -⟩, c0, c1, c2, -⟩ := hq.d
  obtain ⟨w, hd, hw⟩ := id hWg
  have hN := hLn.1.N36
  have f0 : Fr [(90, some 0)] I (wI I 90 0 0) := Fr.w Fr.rf rfl
  have fin : Cp (B + 1) (wI I 90 0 0) L R := by
    refine ⟨⟨_, _, hR⟩, hTx.imp fun _ h => h.imp fun _ h => h.ag (f0.ag rfl), hRw.imp fun _ h => h.imp fun _ h => h.ag (f0.ag rfl) (fun _ _ _ => rfl), hWg.imp fun _ h => h.imp fun _ h => h.ag (f0.ag rfl), hFe.imp fun _ h => h.ag (f0.ag rfl), hSh.ag (f0.ag rfl), hMk.imp fun _ h => h.ag (f0.ag rfl), W, H, K, hLn.ag (f0.ag rfl), hPt.imp fun _ h => h.ag (f0.ag rfl), hPs.imp fun _ h => h.imp fun _ h => h.imp fun _ h => h.ag (f0.ag rfl), hPr.imp fun _ h => h.imp fun _ h => h.imp fun _ h => h.ag (f0.ag rfl), hKp.ag (f0.ag rfl)⟩
  rcases len_c x (N := 8) (by omega) with ⟨hx, e0⟩ | ⟨n, hn, rfl, e0⟩
  · refine ⟨-1, I, L, R, wI I 90 0 0, L, ?_, ?_, fin⟩
    · unfold f_GWL_fewest
      rw [show (8 : Int32) = nI 8 from rfl, e0, bnd1_c, ifb_pos rfl]
    · unfold f_Mod_fewest
      rw [lt_c, areS_f hx, bnd1_c, ifb_pos rfl]
  rcases len100 y with ⟨hy, e2⟩ | ⟨m, hm, rfl, e2⟩
  · refine ⟨-1, I, L, R, wI I 90 0 0, L, ?_, ?_, fin⟩
    · unfold f_GWL_fewest
      rw [show (8 : Int32) = nI 8 from rfl, e0, bnd1_c, ifb_neg (by decide)]
      by_cases hy0 : y < 0
      · rw [ifb_pos hy0]
      · have hgt := hy.resolve_left hy0
        rw [ifb_neg hy0, ifb_neg (by rw [show (100 : Int32) = nI 100 from rfl]; rw [Int32.le_iff_toInt_le]; rw [Int32.lt_iff_toInt_lt] at hgt; omega)]
    · unfold f_Mod_fewest
      rw [lt_c, areS_t hn, bnd1_c, ifb_neg (by decide), e2, bnd1_c, ifb_pos rfl]
  have he : V W H K w hd (eF (fw 0 1 0 0) (-1) K) 0 0 = V W H K w hd (lay K 0) 0 0 := by rw [show eF (fw 0 1 0 0) (-1) K = lay K 0 from funext e_home]
  obtain ⟨I0, I1, L1, R1, p1, ew, fw0, est, e1, hR1, f1, l1, py⟩ := wlead_c (L := L) (n := n) (g := g) (vo := 9) 0 1 0 0 ⟨by omega, fun c => by rw [e_home c]; have := @lay_b K 0 c; omega, (by decide), (by decide)⟩ (by omega) hR hLn.1 hLn.2.2.1 hw hw.2.2.1 hn hc hh (c0.1.trans k0) (c1.1.trans k1) (by omega)
  have hz := fun v => mW_in (W := W) (H := H) (K := K) (q := 1) (l := lay K 0) hw.1 hw.2.2.1 (fun c => by have := @lay_b K 0 c; omega) n (4 * c + h) v
  have f2 : Fr fBD I (wI I1 90 0 0) := (f1.sub rfl).w rfl
  obtain ⟨L3, e3, l3, c3⟩ := works_c (L := L1) (I := wI I1 90 0 0) (w := w) (hd := hd) (K := K) (W := W) (H := H) (n := n) (c := 0) (q := 1) (g := g) (by omega) hR1 ⟨hLn.2.1.ag (f2.ag rfl), ⟨hw.1, fun t ht => ((hw.ag (f2.ag rfl)).2.1 t ht).2⟩, hw.2.2.1, (hw.ag (f2.ag rfl)).2.2.2.2⟩ (by omega) (by omega) hn
  have loop : ∀ F G v, v ≤ 10 → 10 < v + F → 10 < v + G → ∃ r, l_GWL_fewest_59 S1 R1 I1 L1 0 (nI n) (nI m) F (nI v) = some (r, I1, L1, R1) ∧ l_Mod_fewest_35 g S1 R1 (wI I1 90 0 0) L3 90 (nI n) (nI m) G (nI v) = some (r, wI I1 90 0 0, L3) := by
    intro F
    induction F with
    | zero => intro G v h1 h2; omega
    | succ F ih =>
      intro G v h1 h2 h3
      obtain ⟨G, rfl⟩ : ∃ G', G = G' + 1 := ⟨G - 1, by omega⟩
      rw [l_GWL_fewest_59, l_Mod_fewest_35]
      by_cases hv10 : v = 10
      · subst hv10
        exact ⟨-2, by rw [ifb_pos (by decide)], by rw [ifb_pos (by decide)]⟩
      have hpy := (py v (by omega) (by omega) I1 rfl rfl).1
      rw [he, V_mW hw.2.2.1 (fun _ => rfl)] at hpy
      have hlt := lt100 (m := m) (hz v) hm hn
      rw [ifb_neg (by rw [show (9 : Int32) = nI 9 from rfl, lt32 (by omega) (by omega)]; omega), r_0_14 hR1, bnd1_c, t_67, asrt_pos rfl, hpy, bnd1_c, hund_c (by omega), bnd1_c, ifb_neg (show ¬ (10 : Int32) ≤ nI v by rw [show (10 : Int32) = nI 10 from rfl, le32 (by omega) (by omega)]; omega), chance_c hR1 ((f2 90 7 rfl).trans (c0.2.trans k0)) ((f2 90 8 rfl).trans (c1.2.trans k1)) (by omega) hh (by omega), bnd1_c, whole_c (by omega) hn, bnd1_c, c3 _ _ (by omega) (by omega)]
      by_cases hb : mW W H K w hd (lay K 0) 1 n (4 * c + h) v * 100 < (m : Int) * 100 ^ n
      · rw [ifb_pos (hlt.1.mpr hb), ifb_pos (hlt.2.mpr hb), nI_1]
        exact ih G (v + 1) (by omega) (by omega) (by omega)
      · rw [ifb_neg (fun z => hb (hlt.1.mp z)), ifb_neg (fun z => hb (hlt.2.mp z))]
        exact ⟨_, rfl, rfl⟩
  obtain ⟨r, r1, r2⟩ := loop g g 0 (by omega) (by omega) (by omega)
  refine ⟨r, I1, L1, R1, wI I1 90 0 0, L3, ?_, ?_, ?_⟩
  · unfold f_GWL_fewest
    rw [show (8 : Int32) = nI 8 from rfl, e0, bnd1_c, ifb_neg (by decide), ifb_neg (zn (by omega)), show (100 : Int32) = nI 100 from rfl, ifb_pos (by rw [le32 (by omega) (by omega)]; exact hm), r_0_9 hR, bnd1_c, t_49, asrt_pos rfl, show f_Fee_want S1 I 49 0 1 0 0 = some I0 from ew, bnd1_c, r_0_14 hR, bnd1_c, r_0_3 hR, bnd1_c, t_64, asrt_pos rfl, est, bnd1_c, t_67, asrt_pos rfl, fw0 0 6 rfl, hw.2.2.2.1, show f_Guide_lead g S1 R I0 L 67 49 (nI n) 9 (nI hd) (nI (4 * c + h)) = some (I1, L1, R1) from e1, bnd3_c]
    exact r1
  · unfold f_Mod_fewest
    rw [lt_c, areS_t hn, bnd1_c, ifb_neg (by decide), e2, bnd1_c, ifb_neg (by decide), show f_Mod_works g S1 R1 (wI I1 90 0 0) L1 90 (nI n) 0 1 = some L3 from e3, bnd1_c]
    exact r2
  · have flL : FrL [(71, none), (72, none), (73, none), (74, none), (103, none), (104, none)] L L3 := (l1.sub rfl).tr (l3.sub rfl)
    have f2' : Fr [(49, none), (67, some 8), (67, some 9), (67, some 10), (67, some 11), (68, some 2), (69, none), (70, none), (90, some 0)] I (wI I1 90 0 0) := (f1.sub rfl).w rfl
    refine ⟨⟨_, _, hR1⟩, hTx.imp fun _ h => h.imp fun _ h => h.ag (f2'.ag rfl), hRw.imp fun _ h => h.imp fun _ h => h.ag (f2'.ag rfl) (flL.ag rfl), hWg.imp fun _ h => h.imp fun _ h => h.ag (f2'.ag rfl), hFe.imp fun _ h => h.ag (f2'.ag rfl), hSh.ag (f2'.ag rfl), hMk.imp fun _ h => h.ag (f2'.ag rfl), W, H, K, hLn.ag (f2'.ag rfl), hPt.imp fun _ h => h.ag (f2'.ag rfl), hPs.imp fun _ h => h.imp fun _ h => h.imp fun _ h => h.ag (f2'.ag rfl), hPr.imp fun _ h => h.imp fun _ h => h.imp fun _ h => h.ag (f2'.ag rfl), hKp.ag (f2'.ag rfl)⟩
end OI
