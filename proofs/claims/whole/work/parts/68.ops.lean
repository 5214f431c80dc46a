section OG
variable {W H m s0 n k hd h0 N b q c h vv B : Nat} {K w : Nat → Nat} {l e : Nat → Int} {fs fa : Int} {I I' : MI} {L L' L0 : ML} {R : MR} {p : Bool} {fe : Nat}
theorem len_c (x : Int32) {N : Nat} (hN : N < 1000) : ((x < 0 ∨ nI N < x) ∧ f_GWL_isLength x (nI N) = some 0) ∨ ∃ n, n ≤ N ∧ x = nI n ∧ f_GWL_isLength x (nI N) = some 1 := by
  rcases ix4 x N (by omega) with z | ⟨j, hj, rfl⟩
  · refine Or.inl ⟨z, ?_⟩
    unfold f_GWL_isLength
    by_cases z0 : x < 0
    · rw [ifb_pos z0, bnd1_c, asrt_pos (Or.inl rfl)]
    · rw [ifb_neg z0, ifb_pos (z.resolve_left z0), bnd1_c, asrt_pos (Or.inl rfl)]
  · refine Or.inr ⟨j, hj, rfl, ?_⟩
    unfold f_GWL_isLength
    rw [ifb_neg (zn (by omega)), ifb_neg (by rw [lt32 (by omega) (by omega)]; omega), bnd1_c, asrt_pos (Or.inr rfl)]
theorem areS_f {x : Int32} (h : x < 0 ∨ nI 8 < x) : f_Mod_areSteps x = some 0 := by
  unfold f_Mod_areSteps
  rw [in_f (b := 8) (y := nI 8) rfl h, bnd1_c, asrt_pos (Or.inl rfl)]
theorem areS_t {n : Nat} (h : n ≤ 8) : f_Mod_areSteps (nI n) = some 1 := by
  unfold f_Mod_areSteps
  rw [in_t (b := 8) (n := 8) rfl h (by omega), bnd1_c, asrt_pos (Or.inr rfl)]
theorem stance_c (hc : I 64 0 = nI c) (hh : I 64 1 = nI h) : f_Party_stance S1 I 64 = some (nI (4 * c + h)) := by
  unfold f_Party_stance
  rw [hc, hh, show (4 : Int32) = nI 4 from rfl, pk_mul, nI_add, lt_c, Nat.mul_comm]
theorem whole_c {g : Nat} (hg : 10 ≤ g) (hn : n ≤ 8) : f_Mod_whole g (nI n) = some (iL (100 ^ n)) := by
  have loop : ∀ F i, i ≤ n → n < i + F → l_Mod_whole_4 (nI n) F (iL (100 ^ i)) (nI i) = some (iL (100 ^ n)) := by
    intro F
    induction F with
    | zero => intro i h1 h2; omega
    | succ F ih =>
      intro i h1 h2
      rw [l_Mod_whole_4]
      by_cases hi : i = n
      · subst hi; rw [ifb_pos (by rw [le32 (by omega) (by omega)]; omega)]
      · rw [ifb_neg (by rw [le32 (by omega) (by omega)]; omega), show (100 : Int64) = iL 100 from rfl, iL_mul, lt_c, nI_1, ← Int.pow_succ]
        exact ih (i + 1) (by omega) (by omega)
  unfold f_Mod_whole
  rw [show l_Mod_whole_4 (nI n) g 1 0 = some (iL (100 ^ n)) from loop g 0 (by omega) (by omega), bnd1_c]
theorem chance_c (hR : RG p fe R) (hc : I 90 7 = nI c) (hh : I 90 8 = nI h) (hc' : c < 36) (hh' : h < 4) {v : Nat} (hv : v < 10) : f_Mod_chanceNow S1 R I L 90 (nI v) = some (L 103 (10 * (4 * c + h) + v)) := by
  unfold f_Mod_chanceNow
  have := @stateOf_c (4 * c + h) v (by omega) hv
  rw [show (4 * c + h) / 4 = c by omega, show (4 * c + h) % 4 = h by omega] at this
  rw [r_90_28 hR, bnd1_c, hc, hh, this, bnd1_c, t_103, asrt_pos rfl, asrt_pos (vir (by omega) (by omega)), cl32 (by omega), lt_c]
def fw (a b c d : Int) : Nat → Int
  | 0 => a
  | 1 => b
  | 2 => c
  | 3 => d
  | _ => 0
theorem want_c (a b c d : Int) : ∃ I', f_Fee_want S1 I 49 (iI a) (iI b) (iI c) (iI d) = some I' ∧ Fr [(49, none)] I I' ∧ FG 49 (fw a b c d) (-1) I' := by
  refine ⟨wI (wI (wI (wI (wI (wI I 49 0 (iI a)) 49 1 (iI b)) 49 2 (iI c)) 49 3 (iI d)) 49 4 0) 49 5 (-1), ?_, Fr.w (Fr.w (Fr.w (Fr.w (Fr.w (Fr.w Fr.rf rfl) rfl) rfl) rfl) rfl) rfl, fun i hi => ?_, wI_s⟩
  · unfold f_Fee_want
    rw [lt_c, lt_c, lt_c, lt_c, lt_c, lt_c]
  · have : i = 0 ∨ i = 1 ∨ i = 2 ∨ i = 3 ∨ i = 4 := by omega
    rcases this with rfl | rfl | rfl | rfl | rfl
    · rw [wI_n (by omega), wI_n (by omega), wI_n (by omega), wI_n (by omega), wI_n (by omega), wI_s]; rfl
    · rw [wI_n (by omega), wI_n (by omega), wI_n (by omega), wI_n (by omega), wI_s]; rfl
    · rw [wI_n (by omega), wI_n (by omega), wI_n (by omega), wI_s]; rfl
    · rw [wI_n (by omega), wI_n (by omega), wI_s]; rfl
    · rw [wI_n (by omega), wI_s]; rfl
theorem eF_m1 (f : Nat → Int) (c : Nat) : eF f (-1) K c = f 0 + (if K c = 3 then f 1 else 0) + (if K c = 1 then f 2 else 0) := by
  unfold eF
  rw [if_neg (show ¬ (c < 36 ∧ nI c = -1) from fun z => nIm1 (by have := z.1; omega) z.2), Int.add_zero]
theorem e_home (c : Nat) : eF (fw 0 1 0 0) (-1) K c = lay K 0 c := by
  rw [eF_m1]
  unfold lay fw
  simp
theorem e_sunk (c : Nat) : eF (fw 0 0 1 0) (-1) K c = 1 - lay K 1 c := by
  rw [eF_m1]
  unfold lay fw
  by_cases h3 : K c = 3
  · simp [h3]
  · by_cases h1 : K c = 1 <;> simp [h3, h1]
theorem e_safe (hK : K c < 4) : eF (fw 1 0 (-1) 0) (-1) K c = lay K 1 c := by
  rw [eF_m1]
  unfold lay fw
  by_cases h3 : K c = 3
  · simp [h3]
  · by_cases h1 : K c = 1 <;> simp [h3, h1]
theorem lay_b (q c : Nat) : 0 ≤ lay K q c ∧ lay K q c ≤ 1 := by
  unfold lay
  repeat' split
  all_goals omega
def fBC : FT := [(49, none), (67, some 8), (67, some 9), (67, some 10), (67, some 11), (68, some 2), (69, none), (70, none)]
theorem bestC_c {g : Nat} (hg : 145 ≤ g) (hR : RG p fe R) (hL : LKc W H K I) (hA : LA W H K I) (hw : Wgt w h0 I) (hh : hd ≤ 10) (hn : n ≤ 8) (hc : c < W * H) (hh4 : h < 4) (h640 : I 64 0 = nI c) (h641 : I 64 1 = nI h) (h642 : I 64 2 = nI vv) (hv : vv ≤ 9) :
    ∃ I' L' R' p', f_GWL_bestChance g S1 R I L 0 (nI n) (nI hd) = some (iL (mW W H K w hd (lay K 0) 1 n (4 * c + h) vv), I', L', R') ∧ RG p' 49 R' ∧ Fr fBC I I' ∧ FrL fG4 L L' ∧ (0 < n → isE (K c) = false → I' 67 11 = nI (V W H K w hd (lay K 0) 0 0 n (4 * c + h) vv).2.2) := by
  have hN := hL.N36
  obtain ⟨I1, e1, f1, g1⟩ := want_c (I := I) 0 1 0 0
  have he : eF (fw 0 1 0 0) (-1) K = lay K 0 := funext e_home
  have hE : EB 1 (eF (fw 0 1 0 0) (-1) K) (fw 0 1 0 0 3) (fw 0 1 0 0 4) := ⟨by omega, fun c => by rw [he]; have := @lay_b K 0 c; omega, (by decide : (-1 : Int) ≤ 0 ∧ (0 : Int) ≤ 1), (by decide : (-1 : Int) ≤ 0 ∧ (0 : Int) ≤ 1)⟩
  obtain ⟨I2, L2, R2, p2, e2, r2, f2, l2, c9, c10, en, dr⟩ := lead_c (L := L) hg hR hL.1 hN.2 (hL.ag (f1.ag rfl)) (hA.ag (f1.ag rfl)) (hw.ag (f1.ag rfl)) hh g1 hE (by omega) (fun j hj => pB1 j (by omega)) hn rfl hv (show 4 * c + h < 4 * (W * H) by omega)
  have f12 : Fr fBC I I2 := (f1.sub rfl).tr (f2.sub rfl)
  rw [he] at en dr
  refine ⟨I2, L2, R2, p2, ?_, r2, f12, l2, fun a b => ?_⟩
  · unfold f_GWL_bestChance
    rw [r_0_9 hR, bnd1_c, t_49, asrt_pos rfl, show f_Fee_want S1 I 49 0 1 0 0 = some I1 from e1, bnd1_c, r_0_14 hR, bnd1_c, r_0_3 hR, bnd1_c, t_64, asrt_pos rfl, stance_c ((f1 64 0 rfl).trans h640) ((f1 64 1 rfl).trans h641), bnd1_c, t_67, asrt_pos rfl, f1 64 2 rfl, h642, e2, bnd3_c, r_0_14 r2, bnd1_c, r_0_3 r2, bnd1_c, t_64, asrt_pos rfl, t_67, asrt_pos rfl, f12 64 2 rfl, h642, (payOf_c r2 c9 c10 hn (by omega) (by omega) (en _ (Nat.le_refl _))).1, bnd1_c, ← V_min]
    rw [show fw 0 1 0 0 3 = 0 from rfl, show fw 0 1 0 0 4 = 0 from rfl, V_mW hh (fun _ => rfl)]
  · have := dr a (by rw [show (4 * c + h) / 4 = c by omega]; exact b)
    rw [← V_min] at this
    exact this
theorem op_best {g : Nat} (hg : 1000000000 ≤ g) (hC : Cp B I L R) (x : Int32) : ∃ v I1 L1 R1 I2 L2, f_GWL_best g S1 R I L 0 x = some (v, I1, L1, R1) ∧ f_Mod_best g S1 R1 I1 L1 90 x = some (v, I2, L2) ∧ Cp (B + 1) I2 L2 R1 := by
  obtain ⟨⟨p, fe, hR⟩, hTx, hRw, hWg, hFe, hSh, hMk, W, H, K, hLn, hPt, hPs, hPr, hKp⟩ := hC
  obtain ⟨q, hq⟩ := id hPt
  obtain ⟨⟨⟨c, hc, k0⟩, ⟨h, hh, k1⟩, ⟨vv, hv, k2⟩, -⟩, c0, c1, c2, -⟩ := hq.d
  obtain ⟨w, hd, hw⟩ := id hWg
  have hN := hLn.1.N36
  rcases len_c x (N := 8) (by omega) with ⟨hx, e0⟩ | ⟨n, hn, rfl, e0⟩
  · have f0 : Fr [(90, some 0)] I (wI I 90 0 0) := Fr.w Fr.rf rfl
    refine ⟨-1, I, L, R, wI I 90 0 0, L, ?_, ?_, ?_⟩
    · unfold f_GWL_best
      rw [show (8 : Int32) = nI 8 from rfl, e0, bnd1_c, ifb_pos rfl]
    · unfold f_Mod_best
      rw [lt_c, areS_f hx, bnd1_c, ifb_pos rfl]
    · refine ⟨⟨_, _, hR⟩, hTx.imp fun _ h => h.imp fun _ h => h.ag (f0.ag rfl), hRw.imp fun _ h => h.imp fun _ h => h.ag (f0.ag rfl) (fun _ _ _ => rfl), hWg.imp fun _ h => h.imp fun _ h => h.ag (f0.ag rfl), hFe.imp fun _ h => h.ag (f0.ag rfl), hSh.ag (f0.ag rfl), hMk.imp fun _ h => h.ag (f0.ag rfl), W, H, K, hLn.ag (f0.ag rfl), hPt.imp fun _ h => h.ag (f0.ag rfl), hPs.imp fun _ h => h.imp fun _ h => h.imp fun _ h => h.ag (f0.ag rfl), hPr.imp fun _ h => h.imp fun _ h => h.imp fun _ h => h.ag (f0.ag rfl), hKp.ag (f0.ag rfl)⟩
  have f0 : Fr [(3, some 1)] I (wI I 3 1 0) := Fr.w Fr.rf rfl
  obtain ⟨I1, L1, R1, p1, e1, hR1, f1, l1, -⟩ := bestC_c (L := L) (n := n) (g := g) (by omega) hR (hLn.1.ag (f0.ag rfl)) (hLn.2.2.1.ag (f0.ag rfl)) (hw.ag (f0.ag rfl)) hw.2.2.1 hn hc hh ((f0 64 0 rfl).trans (c0.1.trans k0)) ((f0 64 1 rfl).trans (c1.1.trans k1)) ((f0 64 2 rfl).trans (c2.1.trans k2)) hv
  have hz := mW_in (W := W) (H := H) (K := K) (q := 1) (l := lay K 0) hw.1 hw.2.2.1 (fun c => by have := @lay_b K 0 c; omega) n (4 * c + h) vv
  have h16n := h16 n hn
  have hp := p100 n
  obtain ⟨x, y, F1, F2⟩ := frac_c (g := g) (by omega) (u := mW W H K w hd (lay K 0) 1 n (4 * c + h) vv) (d := 100 ^ n) (by unfold B63; omega) (by unfold B63; omega) hp
  have G1 := F1 p1 49 R1 I1 L1 0 hR1 ((f1 3 1 rfl).trans wI_s) (by omega)
  have f2 : Fr [(3, some 1), (49, none), (67, some 8), (67, some 9), (67, some 10), (67, some 11), (68, some 2), (69, none), (70, none), (90, some 0), (90, some 1)] I (wI (wI I1 3 1 (nI (0 + 2))) 90 0 0) := (((f0.sub rfl).tr (f1.sub rfl)).w rfl).w rfl
  obtain ⟨L3, e3, l3, c3⟩ := works_c (L := wL (wL L1 4 0 x) 4 (0 + 1) y) (I := wI (wI I1 3 1 (nI (0 + 2))) 90 0 0) (w := w) (hd := hd) (K := K) (W := W) (H := H) (n := n) (c := 0) (q := 1) (g := g) (by omega) hR1 ⟨hLn.2.1.ag (f2.ag rfl), ⟨hw.1, fun t ht => ((hw.ag (f2.ag rfl)).2.1 t ht).2⟩, hw.2.2.1, (hw.ag (f2.ag rfl)).2.2.2.2⟩ (by omega) (by omega) hn
  have G2 := F2 p1 49 R1 (wI (wI (wI I1 3 1 (nI (0 + 2))) 90 0 0) 90 1 0) L3 0 hR1 wI_s (by omega)
  have f3 : Fr [(3, some 1), (49, none), (67, some 8), (67, some 9), (67, some 10), (67, some 11), (68, some 2), (69, none), (70, none), (90, some 0), (90, some 1)] I (wI (wI (wI I1 3 1 (nI (0 + 2))) 90 0 0) 90 1 0) := f2.w rfl
  have f4 : Fr [(3, some 1), (49, none), (67, some 8), (67, some 9), (67, some 10), (67, some 11), (68, some 2), (69, none), (70, none), (90, some 0), (90, some 1)] I (wI (wI (wI (wI I1 3 1 (nI (0 + 2))) 90 0 0) 90 1 0) 90 1 (nI (0 + 2))) := f3.w rfl
  refine ⟨0, wI I1 3 1 (nI (0 + 2)), wL (wL L1 4 0 x) 4 (0 + 1) y, R1, wI (wI (wI (wI I1 3 1 (nI (0 + 2))) 90 0 0) 90 1 0) 90 1 (nI (0 + 2)), wL (wL L3 91 0 x) 91 (0 + 1) y, ?_, ?_, ?_⟩
  · unfold f_GWL_best f_Numbers_begin
    rw [show (8 : Int32) = nI 8 from rfl, e0, bnd1_c, ifb_neg (by decide), r_0_1 hR, bnd1_c, t_3, asrt_pos rfl, lt_c, bnd1_c, show wI I 3 1 0 0 6 = nI hd by rw [wI_n (by omega)]; exact hw.2.2.2.1, e1, bnd4_c, hund_c (by omega), bnd1_c, G1, bnd2_c]
  · unfold f_Mod_best
    rw [lt_c, areS_t hn, bnd1_c, ifb_neg (by decide), show (0 : Int32) = nI 0 from rfl, show (1 : Int32) = nI 1 from rfl]
    rw [show wI (wI I1 3 1 (nI (0 + 2))) 90 0 (nI 0) = wI (wI I1 3 1 (nI (0 + 2))) 90 0 0 from rfl, e3, bnd1_c, lt_c, show wI (wI (wI I1 3 1 (nI (0 + 2))) 90 0 0) 90 1 (nI 0) = wI (wI (wI I1 3 1 (nI (0 + 2))) 90 0 0) 90 1 0 from rfl, f3 90 10 rfl, c2.2, k2, chance_c hR1 ((f3 90 7 rfl).trans (c0.2.trans k0)) ((f3 90 8 rfl).trans (c1.2.trans k1)) (by omega) hh (by omega), bnd1_c, whole_c (by omega) hn, bnd1_c, c3 _ _ (by omega) (by omega), G2, bnd2_c]
  · refine ⟨⟨_, _, hR1⟩, hTx.imp fun _ h => h.imp fun _ h => h.ag (f4.ag rfl), ?_, hWg.imp fun _ h => h.imp fun _ h => h.ag (f4.ag rfl), hFe.imp fun _ h => h.ag (f4.ag rfl), hSh.ag (f4.ag rfl), hMk.imp fun _ h => h.ag (f4.ag rfl), W, H, K, hLn.ag (f4.ag rfl), hPt.imp fun _ h => h.ag (f4.ag rfl), hPs.imp fun _ h => h.imp fun _ h => h.imp fun _ h => h.ag (f4.ag rfl), hPr.imp fun _ h => h.imp fun _ h => h.imp fun _ h => h.ag (f4.ag rfl), hKp.ag (f4.ag rfl)⟩
    refine ⟨2, fun k => if k = 0 then x else y, by omega, ?_, wI_s, fun k hk => ?_⟩
    · rw [wI_n (by omega), wI_n (by omega), wI_n (by omega), wI_s]
    · have : k = 0 ∨ k = 1 := by omega
      rcases this with rfl | rfl
      · rw [wL_n (by omega), wL_n (by omega), wL_n (by omega), wL_s, l3 4 0 rfl, wL_n (by omega), wL_s]
        exact ⟨rfl, rfl⟩
      · rw [wL_n (by omega), wL_n (by omega), wL_s, l3 4 1 rfl, wL_s]
        exact ⟨rfl, rfl⟩
end OG
