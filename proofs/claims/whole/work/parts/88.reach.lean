section RF
variable {W H m s0 n k hd h0 N b c h s B lim M q a : Nat} {K w : Nat → Nat} {I I' : MI} {L L' L0 : ML} {R : MR} {p : Bool} {fe : Nat} {S T T' Z : Nat → Bool} {o d : Nat → Nat}
theorem w10 (h : w 0 + w 1 + w 2 = 10) {t : Nat} (ht : t < 3) : w t ≤ 10 := by
  have : t = 0 ∨ t = 1 ∨ t = 2 := by omega
  rcases this with rfl | rfl | rfl <;> omega
theorem Zs_iff (hN : W * H ≤ 36) (hT : ∀ s, s < 144 → (T s = true ↔ RQ W H K s0 M k s)) (hc : c < W * H) : (T (4 * c) || T (4 * c + 1) || T (4 * c + 2) || T (4 * c + 3)) = true ↔ ∃ s, s / 4 = c ∧ RQ W H K s0 M k s := by
  rw [Bool.or_eq_true, Bool.or_eq_true, Bool.or_eq_true, hT _ (by omega), hT _ (by omega), hT _ (by omega), hT _ (by omega)]
  constructor
  · rintro (((z | z) | z) | z)
    · exact ⟨_, by omega, z⟩
    · exact ⟨_, by omega, z⟩
    · exact ⟨_, by omega, z⟩
    · exact ⟨_, by omega, z⟩
  · rintro ⟨s, e, z⟩
    have : s = 4 * c ∨ s = 4 * c + 1 ∨ s = 4 * c + 2 ∨ s = 4 * c + 3 := by omega
    rcases this with rfl | rfl | rfl | rfl
    · exact Or.inl (Or.inl (Or.inl z))
    · exact Or.inl (Or.inl (Or.inr z))
    · exact Or.inl (Or.inr z)
    · exact Or.inr z
def fRe : FT := [(3, some 1), (54, some 2), (55, none), (56, none), (101, none), (102, none), (90, some 0), (90, some 1)]
theorem op_reach {g : Nat} (hg : 1000 ≤ g) (hC : Cp B I L R) : ∃ v I1 L1 I2 L2, f_GWL_reach g S1 R I L 0 = some (v, I1, L1) ∧ f_Mod_reach g S1 R I1 L1 90 = some (v, I2, L2) ∧ Cp (B + 1) I2 L2 R := by
  obtain ⟨⟨p, fe, hR⟩, hTx, hRw, hWg, hFe, hSh, hMk, W, H, K, hLn, hPt, hPs, hPr, hKp⟩ := hC
  obtain ⟨q, hq⟩ := id hPt
  obtain ⟨⟨⟨c, hc, k0⟩, ⟨h, hh, k1⟩, -, -⟩, c0, c1, -⟩ := hq.d
  obtain ⟨w, hd, hw⟩ := id hWg
  have hN := hLn.1.N36
  have hs : 4 * c + h < 4 * (W * H) := by omega
  obtain ⟨m, o, d, I8, e1, f1, hQ⟩ := spread_c (a := 54) (g := g) (M := 7) (lim := 144) (by omega) (SB54 hR) hR hLn.1.1 hN.2 (by omega) (by omega) (by omega) (by omega) hLn.1 hLn.2.2.1 hs
  obtain ⟨x, e2, hx⟩ := cellsS_c (g := g) hg hR hN.2 hQ.1
  have f2 : Fr fRe I (wI (wI (wI I8 3 1 0) 3 1 (nI 1)) 3 1 (nI 2)) := (((f1.sub rfl).w rfl).w rfl).w rfl
  have f3 : Fr fRe I (wI (wI (wI (wI I8 3 1 0) 3 1 (nI 1)) 3 1 (nI 2)) 90 0 0) := f2.w rfl
  have hLM := hLn.2.1.ag (f3.ag rfl)
  obtain ⟨I2, e3, g1, hS⟩ := sees_c (g := g) hg hR (show c < 36 by omega) hh ((f3 90 7 rfl).trans (c0.2.trans k0)) ((f3 90 8 rfl).trans (c1.2.trans k1))
  have hw10 : ∀ t, t < 3 → w t ≤ 10 ∧ I 93 t = nI (w t) := fun t ht => ⟨w10 hw.1 ht, (hw.2.1 t ht).2⟩
  have b7 : ∀ t, t < 3 → Nat.testBit 7 t = true := by decide
  have hSH : SH W H K w 7 0 (fun s => decide (s = 4 * c + h)) I2 := ⟨hLM.ag (g1.ag rfl), fun t ht => ⟨(hw10 t ht).1, (g1 93 t rfl).trans ((f3 93 t rfl).trans (hw10 t ht).2)⟩, fun t ht => ⟨fun _ => Or.inl rfl, fun _ => b7 t ht⟩, hS⟩
  have hS0 : ∀ s, s < 144 → (decide (s = 4 * c + h) = true ↔ RQ W H K (4 * c + h) 7 0 s) := by
    intro s _
    rw [decide_eq_true_eq]
    constructor
    · intro e; exact ⟨0, Nat.le_refl _, e⟩
    · rintro ⟨j, hj, hp⟩
      obtain rfl : j = 0 := by omega
      exact hp
  have hc1 : 0 + 1 ≤ cnt (fun s => decide (s = 4 * c + h)) 144 := by
    have := @cnt_more (fun _ => false) (fun s => decide (s = 4 * c + h)) 144 (fun _ _ z => by cases z) ⟨4 * c + h, by omega, by rw [decide_eq_true rfl]; decide⟩
    omega
  obtain ⟨I3, T, e4, g2, hT, hTQ⟩ := reach_l (g := g) hg hR hs g 0 _ I2 (by omega) hSH hS0 hc1
  have f4 : Fr fRe I I3 := (f3.tr (g1.sub rfl)).tr (g2.sub rfl)
  obtain ⟨lo, hi, e5, h1, h2⟩ := tellsSeen_c (q := 0) (L := wL (wL L 4 0 (x &&& 262143)) 4 1 (lus x 18)) (g := g) hg hR (hLn.2.1.ag (f4.ag rfl)) hT (by omega)
  have key : ∀ c, c < 64 → b64 x c = (decide (c < W * H) && Zs T K 0 c) := by
    intro c' hc'
    rw [Bool.eq_iff_iff, hx c' hc', Bool.and_eq_true, decide_eq_true_eq]
    unfold Zs
    rw [decide_eq_true rfl, Bool.true_or, Bool.and_true]
    constructor
    · rintro ⟨i, hi, e⟩
      have ho := (hQ.1.2.1 i hi).1
      exact ⟨by omega, (Zs_iff hN.2 hTQ (by omega)).mpr ⟨o i, e, (SPR_iff hQ).mp ⟨i, hi, rfl⟩⟩⟩
    · rintro ⟨hcn, z⟩
      obtain ⟨s, e, z⟩ := (Zs_iff hN.2 hTQ hcn).mp z
      obtain ⟨i, hi, e'⟩ := (SPR_iff hQ).mpr z
      exact ⟨i, hi, by rw [e']; exact e⟩
  obtain ⟨t1, t2, t3⟩ := tell_eq hN.2 key h1 h2
  have f5 : Fr fRe I (wI (wI (wI I3 90 1 0) 90 1 (nI 1)) 90 1 (nI 2)) := ((f4.w rfl).w rfl).w rfl
  refine ⟨nI (cnt (b64 x) 64), wI (wI (wI I8 3 1 0) 3 1 (nI 1)) 3 1 (nI 2), wL (wL L 4 0 (x &&& 262143)) 4 1 (lus x 18), wI (wI (wI I3 90 1 0) 90 1 (nI 1)) 90 1 (nI 2), wL (wL (wL (wL L 4 0 (x &&& 262143)) 4 1 (lus x 18)) 91 0 lo) 91 1 hi, ?_, ?_, ?_⟩
  · unfold f_GWL_reach
    rw [r_0_15 hR, bnd1_c, r_0_2 hR, bnd1_c, r_0_3 hR, bnd1_c, t_64, asrt_pos rfl, stance_c (c0.1.trans k0) (c1.1.trans k1), bnd1_c, t_54, asrt_pos rfl, show f_Spread_from g S1 R I 54 60 (nI (4 * c + h)) 144 7 = some I8 from e1, bnd1_c, e2, bnd1_c, tellCells_c hR, bnd3_c]
  · unfold f_Mod_reach
    rw [lt_c, e3, bnd1_c, show l_Mod_reach_11 g S1 R 90 g I2 1 = some I3 from e4, bnd1_c, show f_Mod_tellsSeen g S1 R I3 (wL (wL L 4 0 (x &&& 262143)) 4 1 (lus x 18)) 90 0 = _ from e5, bnd3_c, t3]
  · refine ⟨⟨_, _, hR⟩, hTx.imp fun _ h => h.imp fun _ h => h.ag (f5.ag rfl), ?_, hWg.imp fun _ h => h.imp fun _ h => h.ag (f5.ag rfl), hFe.imp fun _ h => h.ag (f5.ag rfl), hSh.ag (f5.ag rfl), hMk.imp fun _ h => h.ag (f5.ag rfl), W, H, K, hLn.ag (f5.ag rfl), hPt.imp fun _ h => h.ag (f5.ag rfl), hPs.imp fun _ h => h.imp fun _ h => h.imp fun _ h => h.ag (f5.ag rfl), hPr.imp fun _ h => h.imp fun _ h => h.imp fun _ h => h.ag (f5.ag rfl), hKp.ag (f5.ag rfl)⟩
    refine ⟨2, fun k => if k = 0 then lo else hi, by omega, ?_, wI_s, fun k hk => ?_⟩
    · rw [wI_n (by omega), wI_n (by omega), wI_n (by omega), g2 3 1 rfl, g1 3 1 rfl, wI_n (by omega), wI_s]
    · have : k = 0 ∨ k = 1 := by omega
      rcases this with rfl | rfl
      · rw [wL_n (by omega), wL_n (by omega), wL_n (by omega), wL_s, wL_n (by omega), wL_s, t1]
        exact ⟨rfl, rfl⟩
      · rw [wL_n (by omega), wL_n (by omega), wL_s, wL_s, t2]
        exact ⟨rfl, rfl⟩
theorem op_perils {g : Nat} (hg : 1000 ≤ g) (hC : Cp B I L R) (x : Int32) : ∃ v I1 L1 I2 L2, f_GWL_perils g S1 R I L 0 x = some (v, I1, L1) ∧ f_Mod_perils g S1 R I1 L1 90 x = some (v, I2, L2) ∧ Cp (B + 1) I2 L2 R := by
  obtain ⟨⟨p, fe, hR⟩, hTx, hRw, hWg, hFe, hSh, hMk, W, H, K, hLn, hPt, hPs, hPr, hKp⟩ := hC
  obtain ⟨q, hq⟩ := id hPt
  obtain ⟨⟨⟨c, hc, k0⟩, ⟨h, hh, k1⟩, -, -⟩, c0, c1, -⟩ := hq.d
  obtain ⟨w, hd, hw⟩ := id hWg
  have hN := hLn.1.N36
  have hs : 4 * c + h < 4 * (W * H) := by omega
  rcases len_c x (N := 8) (by omega) with ⟨hx, e0⟩ | ⟨n, hn, rfl, e0⟩
  · have f0 : Fr [(90, some 0)] I (wI I 90 0 0) := Fr.w Fr.rf rfl
    refine ⟨-1, I, L, wI I 90 0 0, L, ?_, ?_, ?_⟩
    · unfold f_GWL_perils
      rw [show (8 : Int32) = nI 8 from rfl, e0, bnd1_c, ifb_pos rfl]
    · unfold f_Mod_perils
      rw [lt_c, areS_f hx, bnd1_c, ifb_pos rfl]
    · refine ⟨⟨_, _, hR⟩, hTx.imp fun _ h => h.imp fun _ h => h.ag (f0.ag rfl), hRw.imp fun _ h => h.imp fun _ h => h.ag (f0.ag rfl) (fun _ _ _ => rfl), hWg.imp fun _ h => h.imp fun _ h => h.ag (f0.ag rfl), hFe.imp fun _ h => h.ag (f0.ag rfl), hSh.ag (f0.ag rfl), hMk.imp fun _ h => h.ag (f0.ag rfl), W, H, K, hLn.ag (f0.ag rfl), hPt.imp fun _ h => h.ag (f0.ag rfl), hPs.imp fun _ h => h.imp fun _ h => h.imp fun _ h => h.ag (f0.ag rfl), hPr.imp fun _ h => h.imp fun _ h => h.imp fun _ h => h.ag (f0.ag rfl), hKp.ag (f0.ag rfl)⟩
  have hw10 : ∀ t, t < 3 → w t ≤ 10 ∧ I 66 t = nI (w t) ∧ I 93 t = nI (w t) := fun t ht => ⟨w10 hw.1 ht, hw.2.1 t ht⟩
  have hS0 : ∀ s, s < 144 → (decide (s = 4 * c + h) = true ↔ RQ W H K (4 * c + h) (Mw w) 0 s) := by
    intro s _
    rw [decide_eq_true_eq]
    constructor
    · intro e; exact ⟨0, Nat.le_refl _, e⟩
    · rintro ⟨j, hj, hp⟩
      obtain rfl : j = 0 := by omega
      exact hp
  -- the model's walk, from any memory that is as ahead of it
  have model : ∀ (J : MI) (LL : ML), Fr fRe I J → ∃ (I3 : MI) (T : Nat → Bool), Fr fRe I I3 ∧ I3 3 1 = J 3 1 ∧ Sn 101 T I3 ∧ (∀ s, s < 144 → (T s = true ↔ RQ W H K (4 * c + h) (Mw w) n s)) ∧ ∀ X : MI → Option (Int32 × MI × ML), bnd1 (f_Mod_seesHere g S1 R J 90) (fun I5 => bnd1 (l_Mod_perils_20 g S1 R 90 (nI n) g I5 0) X) = X I3 := by
    intro J LL fJ
    obtain ⟨I2, e3, g1, hS⟩ := sees_c (g := g) hg hR (show c < 36 by omega) hh ((fJ 90 7 rfl).trans (c0.2.trans k0)) ((fJ 90 8 rfl).trans (c1.2.trans k1))
    have hSH : SH W H K w (Mw w) 1 (fun s => decide (s = 4 * c + h)) I2 := ⟨(hLn.2.1.ag (fJ.ag rfl)).ag (g1.ag rfl), fun t ht => ⟨(hw10 t ht).1, (g1 93 t rfl).trans ((fJ 93 t rfl).trans (hw10 t ht).2.2)⟩, fun t ht => by rw [Mw_t ht]; exact ⟨Or.inr, fun z => z.resolve_left (by omega)⟩, hS⟩
    obtain ⟨I3, T, e4, g2, hT, hTQ⟩ := perils_l (g := g) hg hR hs hn g 0 _ I2 (by omega) (by omega) hSH hS0
    refine ⟨I3, T, (fJ.tr (g1.sub rfl)).tr (g2.sub rfl), (g2 3 1 rfl).trans (g1 3 1 rfl), hT, hTQ, fun X => ?_⟩
    rw [e3, bnd1_c, show l_Mod_perils_20 g S1 R 90 (nI n) g I2 0 = some I3 from e4, bnd1_c]
  cases hE : isE (K c)
  · obtain ⟨m, o, d, I8, e1, f1, hQ⟩ := spread_c (a := 54) (g := g) (M := Mw w) (lim := n) (by omega) (SB54 hR) hR hLn.1.1 hN.2 (by omega) Mw_lt (by omega) (by omega) hLn.1 hLn.2.2.1 hs
    obtain ⟨x1, e2, hx1⟩ := cellsS_c (g := g) hg hR hN.2 hQ.1
    obtain ⟨x2, e2', hx2⟩ := thatAre_c (g := g) hg hR (hLn.1.ag (f1.ag rfl) : LKc W H K I8)
    have f2 : Fr fRe I (wI (wI (wI I8 3 1 0) 3 1 (nI 1)) 3 1 (nI 2)) := (((f1.sub rfl).w rfl).w rfl).w rfl
    have f3 : Fr fRe I (wI (wI (wI (wI I8 3 1 0) 3 1 (nI 1)) 3 1 (nI 2)) 90 0 0) := f2.w rfl
    obtain ⟨I3, T, f4, h31, hT, hTQ, em⟩ := model _ L f3
    obtain ⟨lo, hi, e5, h1, h2⟩ := tellsSeen_c (q := 1) (L := wL (wL L 4 0 ((x1 &&& x2) &&& 262143)) 4 1 (lus (x1 &&& x2) 18)) (g := g) hg hR (hLn.2.1.ag (f4.ag rfl)) hT (by omega)
    have key : ∀ c, c < 64 → b64 (x1 &&& x2) c = (decide (c < W * H) && Zs T K 1 c) := by
      intro c' hc'
      rw [b64_and, Bool.eq_iff_iff, Bool.and_eq_true, hx1 c' hc', hx2 c' hc', Bool.and_eq_true, decide_eq_true_eq]
      unfold Zs
      rw [Bool.and_eq_true, decide_eq_false (show ¬ 1 = 0 by decide), Bool.false_or, decide_eq_true_eq]
      constructor
      · rintro ⟨⟨i, hi, e⟩, hcn, hK⟩
        exact ⟨hcn, (Zs_iff hN.2 hTQ hcn).mpr ⟨o i, e, (SPR_iff hQ).mp ⟨i, hi, rfl⟩⟩, hK⟩
      · rintro ⟨hcn, z, hK⟩
        obtain ⟨s, e, z⟩ := (Zs_iff hN.2 hTQ hcn).mp z
        obtain ⟨i, hi, e'⟩ := (SPR_iff hQ).mpr z
        exact ⟨⟨i, hi, by rw [e']; exact e⟩, hcn, hK⟩
    obtain ⟨t1, t2, t3⟩ := tell_eq hN.2 key h1 h2
    have f5 : Fr fRe I (wI (wI (wI I3 90 1 0) 90 1 (nI 1)) 90 1 (nI 2)) := ((f4.w rfl).w rfl).w rfl
    refine ⟨nI (cnt (b64 (x1 &&& x2)) 64), wI (wI (wI I8 3 1 0) 3 1 (nI 1)) 3 1 (nI 2), wL (wL L 4 0 ((x1 &&& x2) &&& 262143)) 4 1 (lus (x1 &&& x2) 18), wI (wI (wI I3 90 1 0) 90 1 (nI 1)) 90 1 (nI 2), wL (wL (wL (wL L 4 0 ((x1 &&& x2) &&& 262143)) 4 1 (lus (x1 &&& x2) 18)) 91 0 lo) 91 1 hi, ?_, ?_, ?_⟩
    · unfold f_GWL_perils
      rw [show (8 : Int32) = nI 8 from rfl, e0, bnd1_c, ifb_neg (by decide), isOver_c hLn.1 hR hc (c0.1.trans k0), bnd1_c, show eb (K c) = 0 by unfold eb; rw [hE]; rfl, ifb_pos rfl, r_0_15 hR, bnd1_c, r_0_2 hR, bnd1_c, r_0_3 hR, bnd1_c, t_64, asrt_pos rfl, stance_c (c0.1.trans k0) (c1.1.trans k1), bnd1_c, turnsW_c (by omega) hR (fun t ht => ⟨(hw10 t ht).1, (hw10 t ht).2.1⟩), bnd1_c, t_54, asrt_pos rfl, e1, bnd1_c, e2, bnd1_c, t_60, asrt_pos rfl, e2', bnd1_c, tellCells_c hR, bnd3_c]
    · unfold f_Mod_perils
      rw [lt_c, areS_t hn, bnd1_c, ifb_neg (by decide), em, f4 90 7 rfl, c0.2, k0, isEnd_in (hLn.2.1.ag (f4.ag rfl)) hR hc, bnd1_c, show eb (K c) = 0 by unfold eb; rw [hE]; rfl, ifb_pos rfl, show f_Mod_tellsSeen g S1 R I3 (wL (wL L 4 0 ((x1 &&& x2) &&& 262143)) 4 1 (lus (x1 &&& x2) 18)) 90 1 = _ from e5, bnd3_c, t3]
    · refine ⟨⟨_, _, hR⟩, hTx.imp fun _ h => h.imp fun _ h => h.ag (f5.ag rfl), ?_, hWg.imp fun _ h => h.imp fun _ h => h.ag (f5.ag rfl), hFe.imp fun _ h => h.ag (f5.ag rfl), hSh.ag (f5.ag rfl), hMk.imp fun _ h => h.ag (f5.ag rfl), W, H, K, hLn.ag (f5.ag rfl), hPt.imp fun _ h => h.ag (f5.ag rfl), hPs.imp fun _ h => h.imp fun _ h => h.imp fun _ h => h.ag (f5.ag rfl), hPr.imp fun _ h => h.imp fun _ h => h.imp fun _ h => h.ag (f5.ag rfl), hKp.ag (f5.ag rfl)⟩
      refine ⟨2, fun k => if k = 0 then lo else hi, by omega, ?_, wI_s, fun k hk => ?_⟩
      · rw [wI_n (by omega), wI_n (by omega), wI_n (by omega), h31, wI_n (by omega), wI_s]
      · have : k = 0 ∨ k = 1 := by omega
        rcases this with rfl | rfl
        · rw [wL_n (by omega), wL_n (by omega), wL_n (by omega), wL_s, wL_n (by omega), wL_s, t1]
          exact ⟨rfl, rfl⟩
        · rw [wL_n (by omega), wL_n (by omega), wL_s, wL_s, t2]
          exact ⟨rfl, rfl⟩
  · have f2 : Fr fRe I (wI (wI (wI I 3 1 0) 3 1 (nI 1)) 3 1 (nI 2)) := ((Fr.w Fr.rf rfl).w rfl).w rfl
    have f3 : Fr fRe I (wI (wI (wI (wI I 3 1 0) 3 1 (nI 1)) 3 1 (nI 2)) 90 0 0) := f2.w rfl
    obtain ⟨I3, T, f4, h31, hT, hTQ, em⟩ := model _ L f3
    have f5 : Fr fRe I (wI (wI (wI I3 90 1 0) 90 1 (nI 1)) 90 1 (nI 2)) := ((f4.w rfl).w rfl).w rfl
    have z0 : cnt (b64 0) 64 = 0 := by rw [cnt_0 64 0 (by omega) (fun i _ _ => b64_0 i)]; rfl
    have z1 : (0 : Int64) &&& 262143 = 0 := by decide
    have z2 : lus (0 : Int64) 18 = 0 := by decide
    refine ⟨0, wI (wI (wI I 3 1 0) 3 1 (nI 1)) 3 1 (nI 2), wL (wL L 4 0 0) 4 1 0, wI (wI (wI I3 90 1 0) 90 1 (nI 1)) 90 1 (nI 2), wL (wL (wL (wL L 4 0 0) 4 1 0) 91 0 0) 91 1 0, ?_, ?_, ?_⟩
    · unfold f_GWL_perils
      rw [show (8 : Int32) = nI 8 from rfl, e0, bnd1_c, ifb_neg (by decide), isOver_c hLn.1 hR hc (c0.1.trans k0), bnd1_c, show eb (K c) = 1 by unfold eb; rw [hE]; rfl, ifb_neg (by decide), tellCells_c hR, z0, z1, z2, bnd3_c]
      rfl
    · unfold f_Mod_perils
      rw [lt_c, areS_t hn, bnd1_c, ifb_neg (by decide), em, f4 90 7 rfl, c0.2, k0, isEnd_in (hLn.2.1.ag (f4.ag rfl)) hR hc, bnd1_c, show eb (K c) = 1 by unfold eb; rw [hE]; rfl, ifb_neg (by decide), lt_c, enters_0 hR, bnd2_c, enters_c (k := 1) hR wI_s (by omega), bnd2_c]
    · refine ⟨⟨_, _, hR⟩, hTx.imp fun _ h => h.imp fun _ h => h.ag (f5.ag rfl), ?_, hWg.imp fun _ h => h.imp fun _ h => h.ag (f5.ag rfl), hFe.imp fun _ h => h.ag (f5.ag rfl), hSh.ag (f5.ag rfl), hMk.imp fun _ h => h.ag (f5.ag rfl), W, H, K, hLn.ag (f5.ag rfl), hPt.imp fun _ h => h.ag (f5.ag rfl), hPs.imp fun _ h => h.imp fun _ h => h.imp fun _ h => h.ag (f5.ag rfl), hPr.imp fun _ h => h.imp fun _ h => h.imp fun _ h => h.ag (f5.ag rfl), hKp.ag (f5.ag rfl)⟩
      refine ⟨2, fun k => 0, by omega, ?_, wI_s, fun k hk => ?_⟩
      · rw [wI_n (by omega), wI_n (by omega), wI_n (by omega), h31, wI_n (by omega), wI_s]
      · have : k = 0 ∨ k = 1 := by omega
        rcases this with rfl | rfl
        · rw [wL_n (by omega), wL_n (by omega), wL_n (by omega), wL_s, wL_n (by omega), wL_s]
          exact ⟨rfl, rfl⟩
        · rw [wL_n (by omega), wL_n (by omega), wL_s, wL_s]
          exact ⟨rfl, rfl⟩
end RF
