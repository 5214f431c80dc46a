section OQ
variable {W H m s0 n k hd h0 N b q c h vv vo B fb : Nat} {K w : Nat → Nat} {fs fa M : Int} {fz : Nat → Nat → Int} {I I' J : MI} {L L' L0 L1 : ML} {R : MR} {p : Bool} {fe : Nat} {lb' : Nat → Bool} {zl : Nat → Int} {xx yy : Nat → Int64}
theorem Lai_of (h : Shf I) : ∃ lb' fz, Lai lb' fz I := by
  have key : ∀ i, ∃ q : Bool × (Nat → Int), i < 3 → (q.1 = false → I 51 i = 0 ∧ I 109 i = 0) ∧ (q.1 = true → I 51 i = 1 ∧ I 109 i = 1 ∧ fok q.2 ∧ FeR (81 + 3 * i) q.2 I ∧ ∀ k, k < 5 → I 110 (5 * i + k) = iI (q.2 k)) := by
    intro i
    by_cases hi : i < 3
    · rcases h i hi with ⟨a, b⟩ | ⟨a, b, f, c, d, e⟩
      · exact ⟨(false, fun _ => 0), fun _ => ⟨fun _ => ⟨a, b⟩, (fun z => by simp at z)⟩⟩
      · exact ⟨(true, f), fun _ => ⟨(fun z => by simp at z), fun _ => ⟨a, b, c, d, e⟩⟩⟩
    · exact ⟨(false, fun _ => 0), fun z => absurd z hi⟩
  exact ⟨fun i => (Classical.choose (key i)).1, fun i => (Classical.choose (key i)).2, fun i hi => Classical.choose_spec (key i) hi⟩
def fFt : FT := [(3, some 1), (67, some 8), (67, some 9), (67, some 10), (67, some 11), (68, some 2), (69, none), (70, none), (111, none), (90, some 0), (90, some 1)]
theorem op_fairest {g : Nat} (hg : 1000000000 ≤ g) (hC : Cp B I L R) (x : Int32) : ∃ v I1 L1 R1 I2 L2, f_GWL_fairest g S1 R I L 0 x = some (v, I1, L1, R1) ∧ f_Mod_fairest g S1 R1 I1 L1 90 x = some (v, I2, L2) ∧ Cp (B + 1) I2 L2 R1 := by
  obtain ⟨⟨p, fe, hR⟩, hTx, hRw, hWg, hFe, hSh, hMk, W, H, K, hLn, hPt, hPs, hPr, hKp⟩ := hC
  obtain ⟨q, hq⟩ := id hPt
  obtain ⟨⟨⟨c, hc, k0⟩, ⟨h, hh, k1⟩, ⟨vv, hv, k2⟩, -⟩, c0, c1, c2, -⟩ := hq.d
  obtain ⟨w, hd, hw⟩ := id hWg
  obtain ⟨lb', fz, hS⟩ := Lai_of hSh
  have hN := hLn.1.N36
  rcases len_c x (N := 5) (by omega) with ⟨hx, e0⟩ | ⟨n, hn, rfl, e0⟩
  · have f0 : Fr [(90, some 0)] I (wI I 90 0 0) := Fr.w Fr.rf rfl
    refine ⟨-1, I, L, R, wI I 90 0 0, L, ?_, ?_, ?_⟩
    · unfold f_GWL_fairest
      rw [show (5 : Int32) = nI 5 from rfl, e0, bnd1_c, ifb_pos rfl]
    · unfold f_Mod_fairest
      rw [lt_c, few_f hx, bnd1_c, ifb_pos rfl]
    · refine ⟨⟨_, _, hR⟩, hTx.imp fun _ h => h.imp fun _ h => h.ag (f0.ag rfl), hRw.imp fun _ h => h.imp fun _ h => h.ag (f0.ag rfl) (fun _ _ _ => rfl), hWg.imp fun _ h => h.imp fun _ h => h.ag (f0.ag rfl), hFe.imp fun _ h => h.ag (f0.ag rfl), hSh.ag (f0.ag rfl), hMk.imp fun _ h => h.ag (f0.ag rfl), W, H, K, hLn.ag (f0.ag rfl), hPt.imp fun _ h => h.ag (f0.ag rfl), hPs.imp fun _ h => h.imp fun _ h => h.imp fun _ h => h.ag (f0.ag rfl), hPr.imp fun _ h => h.imp fun _ h => h.imp fun _ h => h.ag (f0.ag rfl), hKp.ag (f0.ag rfl)⟩
  have cl0 : Int32.toNatClampNeg 0 = 0 := by decide
  have cl1 : Int32.toNatClampNeg 1 = 1 := by decide
  have cl2 : Int32.toNatClampNeg 2 = 2 := by decide
  have f0 : Fr [(90, some 0)] I (wI I 90 0 0) := Fr.w Fr.rf rfl
  by_cases hno : lb' 0 = false ∧ lb' 1 = false ∧ lb' 2 = false
  · obtain ⟨n0, n1, n2⟩ := hno
    have a0 := (hS 0 (by omega)).1 n0
    have a1 := (hS 1 (by omega)).1 n1
    have a2 := (hS 2 (by omega)).1 n2
    refine ⟨-2, I, L, R, wI I 90 0 0, L, ?_, ?_, ?_⟩
    · unfold f_GWL_fairest
      rw [show (5 : Int32) = nI 5 from rfl, e0, bnd1_c, ifb_neg (by decide), r_0_11 hR, bnd1_c, t_51, asrt_pos rfl, asrt_pos (pk_in 0 3 (by omega)), cl0, ifb_pos a0.1, asrt_pos (pk_in 1 3 (by omega)), cl1, ifb_pos a1.1, asrt_pos (pk_in 2 3 (by omega)), cl2, ifb_pos a2.1]
    · unfold f_Mod_fairest
      rw [lt_c, few_t hn, bnd1_c, ifb_neg (by decide), r_90_34 hR, bnd1_c, t_109, asrt_pos rfl, asrt_pos (pk_in 0 3 (by omega)), cl0, ifb_pos ((f0 109 0 rfl).trans a0.2), asrt_pos (pk_in 1 3 (by omega)), cl1, ifb_pos ((f0 109 1 rfl).trans a1.2), asrt_pos (pk_in 2 3 (by omega)), cl2, ifb_pos ((f0 109 2 rfl).trans a2.2)]
    · refine ⟨⟨_, _, hR⟩, hTx.imp fun _ h => h.imp fun _ h => h.ag (f0.ag rfl), hRw.imp fun _ h => h.imp fun _ h => h.ag (f0.ag rfl) (fun _ _ _ => rfl), hWg.imp fun _ h => h.imp fun _ h => h.ag (f0.ag rfl), hFe.imp fun _ h => h.ag (f0.ag rfl), hSh.ag (f0.ag rfl), hMk.imp fun _ h => h.ag (f0.ag rfl), W, H, K, hLn.ag (f0.ag rfl), hPt.imp fun _ h => h.ag (f0.ag rfl), hPs.imp fun _ h => h.imp fun _ h => h.imp fun _ h => h.ag (f0.ag rfl), hPr.imp fun _ h => h.imp fun _ h => h.imp fun _ h => h.ag (f0.ag rfl), hKp.ag (f0.ag rfl)⟩
  have h16n := h16 n (by omega)
  have hp := p100 n
  obtain ⟨zl, hzl⟩ : ∃ zl : Nat → Int, zl = fun j => if lb' j = true then (V W H K w hd (eW (fz j) K) (fz j 3) (fz j 4) n (4 * c + h) vv).2.1 else 0 := ⟨_, rfl⟩
  have z1 : ∀ j, j < 3 → lb' j = true → zl j = (V W H K w hd (eW (fz j) K) (fz j 3) (fz j 4) n (4 * c + h) vv).2.1 := fun j _ hb => by rw [hzl]; simp only; rw [if_pos hb]
  have z2 : ∀ j, j < 3 → 0 ≤ zl j ∧ zl j ≤ 10000000000000000 := by
    intro j hj
    cases hb : lb' j
    · rw [hzl]; simp only; rw [hb, if_neg (by decide)]; omega
    · rw [z1 j hj hb]
      have hz := V_in (W := W) (H := H) (K := K) (w := w) (hd := hd) (EB_W (K := K) ((hS j hj).2 hb).2.2.1) hw.1 hw.2.2.1 n (4 * c + h) vv
      have := hz.2.1
      omega
  have key : ∀ j, ∃ q : Int64 × Int64, j < 3 → (∀ p fe R I L i, RG p fe R → I 3 1 = nI i → i < 15 → f_Numbers_addFraction g S1 R I L 3 (iL (zl j)) (iL (100 ^ n)) = some (wI I 3 1 (nI (i + 2)), wL (wL L 4 i q.1) 4 (i + 1) q.2)) ∧ ∀ p fe R J M i, RG p fe R → J 90 1 = nI i → i < 19 → f_Mod_entersFraction S1 R J M 90 (iL (zl j)) (iL (100 ^ n)) = some (wI J 90 1 (nI (i + 2)), wL (wL M 91 i q.1) 91 (i + 1) q.2) := by
    intro j
    by_cases hj : j < 3
    · have := z2 j hj
      obtain ⟨x, y, F1, F2⟩ := frac_c (g := g) (by omega) (u := zl j) (d := 100 ^ n) (by unfold B63; omega) (by unfold B63; omega) hp
      exact ⟨(x, y), fun _ => ⟨F1, F2⟩⟩
    · exact ⟨(0, 0), fun z => absurd z hj⟩
  have hq' := fun j => Classical.choose_spec (key j)
  obtain ⟨xx, hxx⟩ : ∃ xx : Nat → Int64, xx = fun j => (Classical.choose (key j)).1 := ⟨_, rfl⟩
  obtain ⟨yy, hyy⟩ : ∃ yy : Nat → Int64, yy = fun j => (Classical.choose (key j)).2 := ⟨_, rfl⟩
  have G1 : ∀ j, j < 3 → lb' j = true → ∀ p fe R I L i, RG p fe R → I 3 1 = nI i → i < 15 → f_Numbers_addFraction g S1 R I L 3 (iL (zl j)) (iL (100 ^ n)) = some (wI I 3 1 (nI (i + 2)), wL (wL L 4 i (xx j)) 4 (i + 1) (yy j)) := fun j hj _ => by rw [hxx, hyy]; exact (hq' j hj).1
  have G2 : ∀ j, j < 3 → lb' j = true → ∀ p fe R J M i, RG p fe R → J 90 1 = nI i → i < 19 → f_Mod_entersFraction S1 R J M 90 (iL (zl j)) (iL (100 ^ n)) = some (wI J 90 1 (nI (i + 2)), wL (wL M 91 i (xx j)) 91 (i + 1) (yy j)) := fun j hj _ => by rw [hxx, hyy]; exact (hq' j hj).2
  have fa : Fr fFt I (wI I 3 1 0) := Fr.w Fr.rf rfl
  obtain ⟨I1, L1, R1, p1, fe1, e1, hR1, f1, l1, h31, hρ1⟩ := fairC (g := g) (by omega) hn hc hh hv z1 z2 G1 g 0 (wI I 3 1 0) L R p fe (by omega) (by omega) hR (hLn.1.ag (fa.ag rfl)) (hLn.2.2.1.ag (fa.ag rfl)) (hw.ag (fa.ag rfl)) ((fa 64 0 rfl).trans (c0.1.trans k0)) ((fa 64 1 rfl).trans (c1.1.trans k1)) ((fa 64 2 rfl).trans (c2.1.trans k2)) (hS.ag (fa.ag rfl)) wI_s (fun k hk => absurd (show k < 0 from hk) (Nat.not_lt_zero k))
  have f2 : Fr fFt I I1 := fa.tr (f1.sub rfl)
  have f3 : Fr fFt I (wI (wI I1 90 0 0) 90 1 0) := (f2.w rfl).w rfl
  obtain ⟨I2, L2, e2, m1, m2, h91, hρ2⟩ := fairM (g := g) (by omega) hR1 hn hc hh hv z1 z2 G2 g 0 (wI (wI I1 90 0 0) 90 1 0) L1 (by omega) (by omega) ⟨hLn.2.1.ag (f3.ag rfl), ⟨hw.1, fun t ht => ((hw.ag (f3.ag rfl)).2.1 t ht).2⟩, hw.2.2.1, (hw.ag (f3.ag rfl)).2.2.2.2⟩ ((f3 90 7 rfl).trans (c0.2.trans k0)) ((f3 90 8 rfl).trans (c1.2.trans k1)) ((f3 90 10 rfl).trans (c2.2.trans k2)) (hS.ag (f3.ag rfl)) wI_s (fun k hk => absurd (show k < 0 from hk) (Nat.not_lt_zero k))
  have f4 : Fr fFt I I2 := f3.tr (m1.sub rfl)
  have hst := faS_in (lb' := lb') (xx := xx) (yy := yy) z2 3 (by omega)
  have e1' : l_GWL_fairest_56 g S1 0 (nI n) g (wI I 3 1 0) L R (-1) (-1) 0 = some ((faS lb' zl xx yy 3).1, I1, L1, R1) := e1
  have e2' : l_Mod_fairest_56 g S1 R1 90 (nI n) g (wI (wI I1 90 0 0) 90 1 0) L1 (-1) 0 0 = some ((faS lb' zl xx yy 3).1, I2, L2) := e2
  have a51 : ∀ i, i < 3 → lb' i = true → ¬ I 51 i = 0 := fun i hi hb z => by rw [((hS i hi).2 hb).1] at z; exact absurd z (by decide)
  have a109 : ∀ i, i < 3 → lb' i = true → ¬ wI I1 90 0 0 109 i = 0 := fun i hi hb z => by rw [(f2.w rfl : Fr fFt I (wI I1 90 0 0)) 109 i rfl, ((hS i hi).2 hb).2.1] at z; exact absurd z (by decide)
  have b51 : ∀ i, i < 3 → lb' i = false → I 51 i = 0 := fun i hi hb => ((hS i hi).1 hb).1
  have b109 : ∀ i, i < 3 → lb' i = false → wI I1 90 0 0 109 i = 0 := fun i hi hb => by rw [(f2.w rfl : Fr fFt I (wI I1 90 0 0)) 109 i rfl]; exact ((hS i hi).1 hb).2
  refine ⟨(faS lb' zl xx yy 3).1, I1, L1, R1, I2, L2, ?_, ?_, ?_⟩
  · unfold f_GWL_fairest f_Numbers_begin
    rw [show (5 : Int32) = nI 5 from rfl, e0, bnd1_c, ifb_neg (by decide), r_0_11 hR, bnd1_c, t_51, asrt_pos rfl, asrt_pos (pk_in 0 3 (by omega)), cl0]
    cases b0 : lb' 0
    · rw [ifb_pos (b51 0 (by omega) b0), asrt_pos (pk_in 1 3 (by omega)), cl1]
      cases b1 : lb' 1
      · have b2 : lb' 2 = true := by
          cases b2 : lb' 2
          · exact absurd ⟨b0, b1, b2⟩ hno
          · rfl
        rw [ifb_pos (b51 1 (by omega) b1), asrt_pos (pk_in 2 3 (by omega)), cl2, ifb_neg (a51 2 (by omega) b2), r_0_1 hR, bnd1_c, t_3, asrt_pos rfl, lt_c, bnd1_c, e1', bnd4_c]
      · rw [ifb_neg (a51 1 (by omega) b1), r_0_1 hR, bnd1_c, t_3, asrt_pos rfl, lt_c, bnd1_c, e1', bnd4_c]
    · rw [ifb_neg (a51 0 (by omega) b0), r_0_1 hR, bnd1_c, t_3, asrt_pos rfl, lt_c, bnd1_c, e1', bnd4_c]
  · unfold f_Mod_fairest
    rw [lt_c, few_t hn, bnd1_c, ifb_neg (by decide), r_90_34 hR1, bnd1_c, t_109, asrt_pos rfl, asrt_pos (pk_in 0 3 (by omega)), cl0]
    cases b0 : lb' 0
    · rw [ifb_pos (b109 0 (by omega) b0), asrt_pos (pk_in 1 3 (by omega)), cl1]
      cases b1 : lb' 1
      · have b2 : lb' 2 = true := by
          cases b2 : lb' 2
          · exact absurd ⟨b0, b1, b2⟩ hno
          · rfl
        rw [ifb_pos (b109 1 (by omega) b1), asrt_pos (pk_in 2 3 (by omega)), cl2, ifb_neg (a109 2 (by omega) b2), lt_c, e2', bnd3_c]
      · rw [ifb_neg (a109 1 (by omega) b1), lt_c, e2', bnd3_c]
    · rw [ifb_neg (a109 0 (by omega) b0), lt_c, e2', bnd3_c]
  · refine ⟨⟨_, _, hR1⟩, hTx.imp fun _ h => h.imp fun _ h => h.ag (f4.ag rfl), ?_, hWg.imp fun _ h => h.imp fun _ h => h.ag (f4.ag rfl), hFe.imp fun _ h => h.ag (f4.ag rfl), hSh.ag (f4.ag rfl), hMk.imp fun _ h => h.ag (f4.ag rfl), W, H, K, hLn.ag (f4.ag rfl), hPt.imp fun _ h => h.ag (f4.ag rfl), hPs.imp fun _ h => h.imp fun _ h => h.imp fun _ h => h.ag (f4.ag rfl), hPr.imp fun _ h => h.imp fun _ h => h.imp fun _ h => h.ag (f4.ag rfl), hKp.ag (f4.ag rfl)⟩
    refine ⟨2 * (faS lb' zl xx yy 3).2.2.1, (faS lb' zl xx yy 3).2.2.2, by omega, (m1 3 1 rfl).trans (by rw [wI_n (by omega), wI_n (by omega)]; exact h31), h91, fun k hk => ⟨?_, hρ2 k hk⟩⟩
    rw [m2 4 k rfl]
    exact hρ1 k hk
end OQ
