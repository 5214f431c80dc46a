section OJ
variable {W H m s0 n k hd h0 N b q c h vv vo B : Nat} {K w : Nat → Nat} {l e : Nat → Int} {fs fa : Int} {I I' J : MI} {L L' L0 M : ML} {R : MR} {p : Bool} {fe : Nat}
def loL (W H : Nat) (K w : Nat → Nat) (n s vv m : Nat) : Nat → Int32
  | 0 => -2
  | j + 1 => if mW W H K w (10 - j) (lay K 0) 1 n s vv * 100 < (m : Int) * 100 ^ n then loL W H K w n s vv m j else nI (10 - j)
theorem loudC {g : Nat} (hg : 145 ≤ g) (hn : n ≤ 8) (hm : m ≤ 100) (hc : c < W * H) (hh4 : h < 4) (hv : vv ≤ 9) : ∀ F j (I : MI) (L : ML) (R : MR) p fe, j ≤ 11 → j < F → RG p fe R → LKc W H K I → LA W H K I → Wgt w h0 I → I 64 0 = nI c → I 64 1 = nI h → I 64 2 = nI vv →
    ∃ I' L' R' p' fe', l_GWL_loud_23 g S1 0 (nI n) (nI m) F I L R (nI (11 - j)) = some (loL W H K w n (4 * c + h) vv m j, I', L', R') ∧ RG p' fe' R' ∧ Fr fBC I I' ∧ FrL fG4 L L' := by
  intro F
  induction F with
  | zero => intro j I L R p fe h1 h2; omega
  | succ F ih =>
    intro j I L R p fe h1 h2 hR hL hA hw k0 k1 k2
    rw [l_GWL_loud_23]
    rcases j with _ | j
    · exact ⟨I, L, R, p, fe, by rw [ifb_pos (by decide)]; rfl, hR, Fr.rf, FrL.rf⟩
    have hv10 : 11 - (j + 1) = 10 - j := by omega
    obtain ⟨I1, L1, R1, p1, e1, hR1, f1, l1, -⟩ := bestC_c (L := L) (hd := 10 - j) hg hR hL hA hw (by omega) hn hc hh4 k0 k1 k2 hv
    have hz := mW_in (W := W) (H := H) (K := K) (q := 1) (hd := 10 - j) (l := lay K 0) hw.1 (by omega) (fun c => by have := @lay_b K 0 c; omega) n (4 * c + h) vv
    have hlt := lt100 (m := m) hz hm hn
    rw [hv10, ifb_neg (by rw [show (10 : Int32) = nI 10 from rfl, lt32 (by omega) (by omega)]; omega), e1, bnd4_c, hund_c (by omega), bnd1_c, loL]
    by_cases hb : mW W H K w (10 - j) (lay K 0) 1 n (4 * c + h) vv * 100 < (m : Int) * 100 ^ n
    · rw [ifb_pos (hlt.1.mpr hb), if_pos hb, nI_1]
      obtain ⟨I2, L2, R2, p2, fe2, e2, hR2, f2, l2⟩ := ih j I1 L1 R1 p1 49 (by omega) (by omega) hR1 (hL.ag (f1.ag rfl)) (hA.ag (f1.ag rfl)) (hw.ag (f1.ag rfl)) ((f1 64 0 rfl).trans k0) ((f1 64 1 rfl).trans k1) ((f1 64 2 rfl).trans k2)
      rw [show 10 - j + 1 = 11 - j by omega]
      exact ⟨I2, L2, R2, p2, fe2, e2, hR2, f1.tr f2, l1.tr l2⟩
    · rw [ifb_neg (fun z => hb (hlt.1.mp z)), if_neg hb]
      exact ⟨I1, L1, R1, p1, 49, rfl, hR1, f1, l1⟩
theorem loudM {g : Nat} (hg : 1500 ≤ g) (hR : RG p fe R) (hn : n ≤ 8) (hm : m ≤ 100) (hc : c < W * H) (hh4 : h < 4) (hv : vv ≤ 9) (hw : w 0 + w 1 + w 2 = 10) (v3 : Int32) : ∀ F r (I : MI) (L : ML), r ≤ 11 → r < F → LM W H K I → (∀ t, t < 3 → I 93 t = nI (w t)) → I 90 7 = nI c → I 90 8 = nI h → I 90 10 = nI vv →
    ∃ I' L', l_Mod_loud_39 g S1 R 90 (nI n) (nI m) v3 F I L (loL W H K w n (4 * c + h) vv m (11 - r)) (nI r + (-1)) = some (loL W H K w n (4 * c + h) vv m 11, I', L') ∧ Fr [(90, some 11)] I I' ∧ FrL fM2 L L' := by
  intro F
  induction F with
  | zero => intro r I L h1 h2; omega
  | succ F ih =>
    intro r I L h1 h2 hL h93 k0 k1 k2
    have hN := hL.N36
    rw [l_Mod_loud_39]
    rcases r with _ | r
    · exact ⟨I, L, by rw [ifb_pos (by decide)], Fr.rf, FrL.rf⟩
    have f1 : Fr [(90, some 11)] I (wI I 90 11 (nI r)) := Fr.w Fr.rf rfl
    have hMH : MH W H K w r (wI I 90 11 (nI r)) := ⟨hL.ag (f1.ag rfl), ⟨hw, fun t ht => (f1 93 t rfl).trans (h93 t ht)⟩, by omega, wI_s⟩
    obtain ⟨L1, e1, l1, c1⟩ := works_c (L := L) (n := n) (c := 0) (q := 1) (g := g) hg hR hMH (by omega) (by omega) hn
    have hz := mW_in (W := W) (H := H) (K := K) (q := 1) (hd := r) (l := lay K 0) hw (by omega) (fun c => by have := @lay_b K 0 c; omega) n (4 * c + h) vv
    have hlt := lt100 (m := m) hz hm hn
    obtain ⟨I', L', e, fI, fL⟩ := ih r (wI I 90 11 (nI r)) L1 (by omega) (by omega) (hL.ag (f1.ag rfl)) (fun t ht => (f1 93 t rfl).trans (h93 t ht)) ((f1 90 7 rfl).trans k0) ((f1 90 8 rfl).trans k1) ((f1 90 10 rfl).trans k2)
    refine ⟨I', L', ?_, f1.tr fI, l1.tr fL⟩
    rw [pk_m1, ifb_neg (zn (by omega)), lt_c, show f_Mod_works g S1 R (wI I 90 11 (nI r)) L 90 (nI n) 0 1 = some L1 from e1, bnd1_c, f1 90 10 rfl, k2, chance_c hR ((f1 90 7 rfl).trans k0) ((f1 90 8 rfl).trans k1) (by omega) hh4 (by omega), bnd1_c, whole_c (by omega) hn, bnd1_c, c1 _ _ (by omega) (by omega)]
    rw [show 11 - r = (11 - (r + 1)) + 1 by omega, loL, show 10 - (11 - (r + 1)) = r by omega] at e
    by_cases hb : mW W H K w r (lay K 0) 1 n (4 * c + h) vv * 100 < (m : Int) * 100 ^ n
    · rw [if_pos hb] at e
      rw [ifb_pos (hlt.2.mpr hb), bnd1_c]
      exact e
    · rw [if_neg hb] at e
      rw [ifb_neg (fun z => hb (hlt.2.mp z)), bnd1_c]
      exact e
theorem op_loud {g : Nat} (hg : 1000000000 ≤ g) (hC : Cp B I L R) (x y : Int32) : ∃ v I1 L1 R1 I2 L2, f_GWL_loud g S1 R I L 0 x y = some (v, I1, L1, R1) ∧ f_Mod_loud g S1 R1 I1 L1 90 x y = some (v, I2, L2) ∧ Cp (B + 1) I2 L2 R1 := by
  obtain ⟨⟨p, fe, hR⟩, hTx, hRw, hWg, hFe, hSh, hMk, W, H, K, hLn, hPt, hPs, hPr, hKp⟩ := hC
  obtain ⟨q, hq⟩ := id hPt
  obtain ⟨⟨⟨c, hc, k0⟩, ⟨h, hh, k1⟩, ⟨vv, hv, k2⟩, -⟩, c0, c1, c2, -⟩ := hq.d
  obtain ⟨w, hd, hw⟩ := id hWg
  have hN := hLn.1.N36
  have f0 : Fr [(90, some 0)] I (wI I 90 0 0) := Fr.w Fr.rf rfl
  have fin : Cp (B + 1) (wI I 90 0 0) L R := by
    refine ⟨⟨_, _, hR⟩, hTx.imp fun _ h => h.imp fun _ h => h.ag (f0.ag rfl), hRw.imp fun _ h => h.imp fun _ h => h.ag (f0.ag rfl) (fun _ _ _ => rfl), hWg.imp fun _ h => h.imp fun _ h => h.ag (f0.ag rfl), hFe.imp fun _ h => h.ag (f0.ag rfl), hSh.ag (f0.ag rfl), hMk.imp fun _ h => h.ag (f0.ag rfl), W, H, K, hLn.ag (f0.ag rfl), hPt.imp fun _ h => h.ag (f0.ag rfl), hPs.imp fun _ h => h.imp fun _ h => h.imp fun _ h => h.ag (f0.ag rfl), hPr.imp fun _ h => h.imp fun _ h => h.imp fun _ h => h.ag (f0.ag rfl), hKp.ag (f0.ag rfl)⟩
  rcases len_c x (N := 8) (by omega) with ⟨hx, e0⟩ | ⟨n, hn, rfl, e0⟩
  · refine ⟨-1, I, L, R, wI I 90 0 0, L, ?_, ?_, fin⟩
    · unfold f_GWL_loud
      rw [show (8 : Int32) = nI 8 from rfl, e0, bnd1_c, ifb_pos rfl]
    · unfold f_Mod_loud
      rw [lt_c, areS_f hx, bnd1_c, ifb_pos rfl]
  rcases len100 y with ⟨hy, e2⟩ | ⟨m, hm, rfl, e2⟩
  · refine ⟨-1, I, L, R, wI I 90 0 0, L, ?_, ?_, fin⟩
    · unfold f_GWL_loud
      rw [show (8 : Int32) = nI 8 from rfl, e0, bnd1_c, ifb_neg (by decide)]
      by_cases hy0 : y < 0
      · rw [ifb_pos hy0]
      · have hgt := hy.resolve_left hy0
        rw [ifb_neg hy0, ifb_neg (by rw [show (100 : Int32) = nI 100 from rfl]; rw [Int32.le_iff_toInt_le]; rw [Int32.lt_iff_toInt_lt] at hgt; omega)]
    · unfold f_Mod_loud
      rw [lt_c, areS_t hn, bnd1_c, ifb_neg (by decide), e2, bnd1_c, ifb_pos rfl]
  obtain ⟨I1, L1, R1, p1, fe1, r1, hR1, f1, l1⟩ := loudC (n := n) (m := m) (g := g) (w := w) (by omega) hn hm hc hh hv g 11 I L R p fe (by omega) (by omega) hR hLn.1 hLn.2.2.1 hw (c0.1.trans k0) (c1.1.trans k1) (c2.1.trans k2)
  have f2 : Fr [(49, none), (67, some 8), (67, some 9), (67, some 10), (67, some 11), (68, some 2), (69, none), (70, none), (90, some 0)] I (wI I1 90 0 0) := (f1.sub rfl).w rfl
  have hw2 := hw.ag (f2.ag rfl)
  obtain ⟨I3, L3, r3, f3, l3⟩ := loudM (n := n) (m := m) (g := g) (w := w) (K := K) (W := W) (H := H) (c := c) (h := h) (vv := vv) (by omega) hR1 hn hm hc hh hv hw.1 (nI hd) g 11 (wI I1 90 0 0) L1 (by omega) (by omega) (hLn.2.1.ag (f2.ag rfl)) (fun t ht => (hw2.2.1 t ht).2) ((f2 90 7 rfl).trans (c0.2.trans k0)) ((f2 90 8 rfl).trans (c1.2.trans k1)) ((f2 90 10 rfl).trans (c2.2.trans k2))
  have f4 : Fr [(49, none), (67, some 8), (67, some 9), (67, some 10), (67, some 11), (68, some 2), (69, none), (70, none), (90, some 0), (90, some 11)] I (wI I3 90 11 (nI hd)) := ((f2.sub rfl).tr (f3.sub rfl)).w rfl
  have flL : FrL [(71, none), (72, none), (73, none), (74, none), (103, none), (104, none)] L L3 := (l1.sub rfl).tr (l3.sub rfl)
  refine ⟨loL W H K w n (4 * c + h) vv m 11, I1, L1, R1, wI I3 90 11 (nI hd), L3, ?_, ?_, ?_⟩
  · unfold f_GWL_loud
    rw [show (8 : Int32) = nI 8 from rfl, e0, bnd1_c, ifb_neg (by decide), ifb_neg (zn (by omega)), show (100 : Int32) = nI 100 from rfl, ifb_pos (by rw [le32 (by omega) (by omega)]; exact hm)]
    exact r1
  · unfold f_Mod_loud
    rw [lt_c, areS_t hn, bnd1_c, ifb_neg (by decide), e2, bnd1_c, ifb_neg (by decide), hw2.2.2.2.2, lt_c, show l_Mod_loud_39 g S1 R1 90 (nI n) (nI m) (nI hd) g (wI I1 90 0 0) L1 (-2) 10 = _ from r3, bnd3_c, lt_c]
  · refine ⟨⟨_, _, hR1⟩, hTx.imp fun _ h => h.imp fun _ h => h.ag (f4.ag rfl), hRw.imp fun _ h => h.imp fun _ h => h.ag (f4.ag rfl) (flL.ag rfl), ?_, hFe.imp fun _ h => h.ag (f4.ag rfl), hSh.ag (f4.ag rfl), hMk.imp fun _ h => h.ag (f4.ag rfl), W, H, K, hLn.ag (f4.ag rfl), hPt.imp fun _ h => h.ag (f4.ag rfl), hPs.imp fun _ h => h.imp fun _ h => h.imp fun _ h => h.ag (f4.ag rfl), hPr.imp fun _ h => h.imp fun _ h => h.imp fun _ h => h.ag (f4.ag rfl), hKp.ag (f4.ag rfl)⟩
    exact ⟨w, hd, hw.1, fun t ht => ⟨(f4 66 t rfl).trans (hw.2.1 t ht).1, (f4 93 t rfl).trans (hw.2.1 t ht).2⟩, hw.2.2.1, (f4 0 6 rfl).trans hw.2.2.2.1, wI_s⟩
end OJ
