section OK1
variable {W H B n : Nat} {K τ : Nat → Nat} {I I' : MI} {L : ML} {R : MR} {p : Bool} {fe : Nat} {q : Nat → Int32}
/-- entry c of a sheet -/
def ent (f st : Int32) : Nat → Int32
  | 0 => f
  | c + 1 => ent f st c + st
def kd (x : Int32) : Nat := x.toBitVec.toNat % 4
theorem kd_c (x : Int32) : x &&& 3 = nI (kd x) := pk_and x 2 (by decide)
theorem kd_lt (x : Int32) : kd x < 4 := Nat.mod_lt _ (by decide)
/-- what cell c becomes: ms: a missing sheet -/
noncomputable def shk (ms : Prop) (nn f st : Int32) (h : Nat) (K : Nat → Nat) (N c : Nat) : Nat :=
  @ite _ (c < N ∧ c ≠ h) (Classical.propDecidable _) (@ite _ (ms ∨ nn ≤ nI c) (Classical.propDecidable _) 0 (kd (ent f st c))) (K c)
theorem shk_lt {ms : Prop} {nn f st : Int32} {h N : Nat} (hK : ∀ c, K c < 4) (c : Nat) : shk ms nn f st h K N c < 4 := by
  unfold shk
  split
  · split
    · omega
    · exact kd_lt _
  · exact hK c
def ctn (K : Nat → Nat) : Nat → Nat
  | 0 => 0
  | k + 1 => ctn K k + (if K k = 0 then 0 else 1)
theorem ctn_le (K : Nat → Nat) : ∀ k, ctn K k ≤ k
  | 0 => Nat.le_refl 0
  | k + 1 => by
    have := ctn_le K k
    unfold ctn
    split <;> omega
theorem kne {β : Type} {k : Nat} (hk : k < 4) (g : Int32 → Option β) : bnd1 (ifb (nI k = 0) (some (0 : Int32)) (some 1)) g = g (nI (if k = 0 then 0 else 1)) := by
  rcases k4 hk with rfl | rfl | rfl | rfl
  · rw [ifb_pos (by decide)]; rfl
  · rw [ifb_neg (by decide)]; rfl
  · rw [ifb_neg (by decide)]; rfl
  · rw [ifb_neg (by decide)]; rfl
theorem spread_l (hR : RG p fe R) (hW : 1 ≤ W ∧ W ≤ 6) (hH : 1 ≤ H ∧ H ≤ 6) (hKK : ∀ c, K c < 4) {nn f0 st : Int32} {h : Nat} {ms : Prop} {n' : Int32} (hh : h < 36) (hn' : ∀ c, c < 36 → (n' ≤ nI c ↔ ms ∨ nn ≤ nI c)) : ∀ (f k : Nat) (I : MI), I 60 0 = nI W → I 60 1 = nI H → (∀ c, k ≤ c → c < W * H → I 61 c = nI (K c)) → k ≤ W * H → W * H < k + f →
    wpo (l_Land_spreadOut_9 S1 R 60 n' st (nI h) f I (nI (ctn (shk ms nn f0 st h K (W * H)) k)) (ent f0 st k) (nI k))
      (fun r => r.1 = nI (ctn (shk ms nn f0 st h K (W * H)) (W * H)) ∧ Fr [(61, none)] I r.2 ∧ (∀ c, c < k → r.2 61 c = I 61 c) ∧ ∀ c, k ≤ c → c < W * H → r.2 61 c = nI (shk ms nn f0 st h K (W * H) c)) := by
  have hN : W * H ≤ 36 := Nat.mul_le_mul hW.2 hH.2
  intro f
  induction f with
  | zero => intro k I _ _ _ h1 h2; omega
  | succ f ih =>
    intro k I i0 i1 i2 h1 h2
    rw [l_Land_spreadOut_9, i0, i1, pk_mul]
    by_cases hk : k = W * H
    · rw [ifb_pos (by rw [le32 (by omega) (by omega)]; omega), hk]
      exact ⟨_, rfl, rfl, Fr.rf, fun _ _ => rfl, fun j a b => by omega⟩
    · have hlt : k < W * H := by omega
      have hle := ctn_le (shk ms nn f0 st h K (W * H)) k
      have h4 : shk ms nn f0 st h K (W * H) k < 4 := shk_lt hKK k
      obtain ⟨J, eJ, fJ, vJ, wJ⟩ : ∃ J, ifb (nI k = nI h) (some I) (bnd1 (R 60 2) fun b7 => bnd1 (ifb (n' ≤ nI k) (some 0) (some (ent f0 st k &&& 3))) fun (y9 : Int32) => asrt ((S1 b7).1 = 20) <| asrt (vp_in (nI k) (S1 b7).2) <| lt (wI I b7 (Int32.toNatClampNeg (nI k)) y9) fun (I14 : MI) => some I14) = some J ∧
          Fr [(61, none)] I J ∧ J 61 k = nI (shk ms nn f0 st h K (W * H) k) ∧ ∀ c, c ≠ k → J 61 c = I 61 c := by
        by_cases e : k = h
        · refine ⟨I, by rw [ifb_pos (by rw [e])], Fr.rf, ?_, fun _ _ => rfl⟩
          rw [i2 k (Nat.le_refl _) hlt]
          unfold shk
          rw [if_neg (fun z => z.2 e)]
        · refine ⟨wI I 61 k (nI (shk ms nn f0 st h K (W * H) k)), ?_, Fr.w Fr.rf rfl, wI_s, fun c hc => wI_n (by omega)⟩
          rw [ifb_neg (by rw [eq32 (by omega) (by omega)]; exact e), r_60_2 hR, bnd1_c]
          have ev : ifb (n' ≤ nI k) (some (0 : Int32)) (some (ent f0 st k &&& 3)) = some (nI (shk ms nn f0 st h K (W * H) k)) := by
            unfold shk
            rw [if_pos ⟨hlt, e⟩]
            by_cases hm : ms ∨ nn ≤ nI k
            · rw [ifb_pos ((hn' k (by omega)).mpr hm), if_pos hm]; rfl
            · rw [ifb_neg (fun z => hm ((hn' k (by omega)).mp z)), if_neg hm, kd_c]
          rw [ev, bnd1_c, t_61, asrt_pos rfl, asrt_pos (vir (by omega) (by omega)), lt_c, cl32 (by omega)]
      rw [ifb_neg (by rw [le32 (by omega) (by omega)]; omega), show (36 : Int32) = nI 36 from rfl, ifb_neg (by rw [le32 (by omega) (by omega)]; omega), eJ, bnd1_c, lt_c, r_60_2 hR, bnd1_c, t_61, asrt_pos rfl, asrt_pos (vir (by omega) (by omega)), cl32 (by omega), vJ, kne h4, nI_add, lt_c, nI_1]
      refine wpo_mono (ih (k + 1) J ((fJ 60 0 rfl).trans i0) ((fJ 60 1 rfl).trans i1) (fun c hc1 hc2 => (wJ c (by omega)).trans (i2 c (by omega) hc2)) (by omega) (by omega)) ?_
      rintro ⟨v, I'⟩ ⟨a, b, c, d⟩
      refine ⟨a, fJ.tr b, fun j hj => ?_, fun j h3 h4 => ?_⟩
      · rw [c j (by omega), wJ j (by omega)]
      · by_cases e : j = k
        · subst e
          rw [c j (by omega), vJ]
        · exact d j (by omega) h4
theorem sheetm_l (hR : RG p fe R) (hW : 1 ≤ W ∧ W ≤ 6) (hH : 1 ≤ H ∧ H ≤ 6) (hKK : ∀ c, K c < 4) {nn f0 st kn : Int32} {h : Nat} (hh : h < 36) : ∀ (f k : Nat) (I : MI), I 90 3 = nI W → I 90 4 = nI H → I 90 7 = nI h → (∀ c, k ≤ c → c < W * H → I 92 c = nI (K c)) → k ≤ W * H → W * H < k + f →
    wpo (l_Mod_sheet_46 S1 R 90 kn nn st f I (nI (ctn (shk (kn = 3) nn f0 st h K (W * H)) k)) (ent f0 st k) (nI k))
      (fun r => r.1 = nI (ctn (shk (kn = 3) nn f0 st h K (W * H)) (W * H)) ∧ Fr [(92, none)] I r.2 ∧ (∀ c, c < k → r.2 92 c = I 92 c) ∧ ∀ c, k ≤ c → c < W * H → r.2 92 c = nI (shk (kn = 3) nn f0 st h K (W * H) c)) := by
  have hN : W * H ≤ 36 := Nat.mul_le_mul hW.2 hH.2
  intro f
  induction f with
  | zero => intro k I _ _ _ _ h1 h2; omega
  | succ f ih =>
    intro k I i0 i1 i7 i2 h1 h2
    rw [l_Mod_sheet_46]
    unfold f_Mod_cells
    rw [i0, i1, pk_mul, lt_c, bnd1_c, i7]
    by_cases hk : k = W * H
    · rw [ifb_pos (by rw [le32 (by omega) (by omega)]; omega), hk]
      exact ⟨_, rfl, rfl, Fr.rf, fun _ _ => rfl, fun j a b => by omega⟩
    · have hlt : k < W * H := by omega
      have hle := ctn_le (shk (kn = 3) nn f0 st h K (W * H)) k
      have h4 : shk (kn = 3) nn f0 st h K (W * H) k < 4 := shk_lt hKK k
      obtain ⟨y, ey, ey2⟩ : ∃ y, ifb (kn = 3) (some (0 : Int32)) (ifb (nI k < nn) (some (ent f0 st k &&& 3)) (some 0)) = some y ∧ (k ≠ h → y = nI (shk (kn = 3) nn f0 st h K (W * H) k)) := by
        by_cases hm : kn = 3
        · refine ⟨0, ifb_pos hm, fun e => ?_⟩
          unfold shk
          rw [if_pos ⟨hlt, e⟩, if_pos (Or.inl hm)]; rfl
        · by_cases hm2 : nI k < nn
          · refine ⟨ent f0 st k &&& 3, by rw [ifb_neg hm, ifb_pos hm2], fun e => ?_⟩
            unfold shk
            rw [if_pos ⟨hlt, e⟩, if_neg (fun z => z.elim hm (fun z => Int32.not_le.mpr hm2 z)), kd_c]
          · refine ⟨0, by rw [ifb_neg hm, ifb_neg hm2], fun e => ?_⟩
            unfold shk
            rw [if_pos ⟨hlt, e⟩, if_pos (Or.inr (Int32.not_lt.mp hm2))]; rfl
      have e17 : ∀ {β : Type} (g : Int32 → Option β), bnd1 (ifb (nI k = nI h) (asrt ((((20 : Nat), (36 : Nat)) : Nat × Nat).1 = 20) <| asrt (vp_in (nI k) (((20 : Nat), (36 : Nat)) : Nat × Nat).2) <| some (I 92 (Int32.toNatClampNeg (nI k)))) (some y)) g = g (nI (shk (kn = 3) nn f0 st h K (W * H) k)) := fun g => by
        by_cases e : k = h
        · rw [ifb_pos (by rw [e]), asrt_pos rfl, asrt_pos (vir (by show k < 36; omega) (by omega)), cl32 (by omega), i2 k (Nat.le_refl _) hlt, bnd1_c]
          unfold shk
          rw [if_neg (fun z => z.2 e)]
        · rw [ifb_neg (by rw [eq32 (by omega) (by omega)]; exact e), bnd1_c, ey2 e]
      have eflag : ∀ {β : Type} (g : Int32 → Option β), bnd1 (ifb (nI (shk (kn = 3) nn f0 st h K (W * H) k) = 0) (some (0 : Int32)) (some 1)) (fun y => bnd1 (f_Mod_flag y) g) = g (nI (if shk (kn = 3) nn f0 st h K (W * H) k = 0 then 0 else 1)) := fun g => by
        rcases k4 h4 with e | e | e | e <;> rw [e]
        · rw [ifb_pos (by decide), bnd1_c, flag_0]; rfl
        · rw [ifb_neg (by decide), bnd1_c, flag_1]; rfl
        · rw [ifb_neg (by decide), bnd1_c, flag_1]; rfl
        · rw [ifb_neg (by decide), bnd1_c, flag_1]; rfl
      rw [ifb_neg (by rw [le32 (by omega) (by omega)]; omega), ey, bnd1_c, r_90_5 hR, bnd1_c, t_92]
      rw [e17, asrt_pos rfl, asrt_pos (vir (by omega) (by omega)), lt_c, cl32 (by omega), wI_s, asrt_pos (vir (by omega) (by omega)), eflag, nI_add, lt_c, lt_c, nI_1]
      refine wpo_mono (ih (k + 1) (wI I 92 k (nI (shk (kn = 3) nn f0 st h K (W * H) k))) ((wI_n (by omega)).trans i0) ((wI_n (by omega)).trans i1) ((wI_n (by omega)).trans i7) (fun c hc1 hc2 => (wI_n (by omega)).trans (i2 c (by omega) hc2)) (by omega) (by omega)) ?_
      rintro ⟨v, I'⟩ ⟨a, b, c, d⟩
      refine ⟨a, (Fr.w Fr.rf rfl).tr b, fun j hj => ?_, fun j h3 h4 => ?_⟩
      · rw [c j (by omega), wI_n (by omega)]
      · by_cases e : j = k
        · subst e
          rw [c j (by omega), wI_s]
        · exact d j (by omega) h4
theorem op_sheet {g : Nat} (hg : 1000 ≤ g) (hC : Cp B I L R) (x y z w : Int32) : ∃ v I1 I2, f_GWL_sheet g S1 R I 0 x y z w = some (v, I1) ∧ f_Mod_sheet g S1 R I1 90 x y z w = some (v, I2) ∧ Cp (B + 1) I2 L R := by
  obtain ⟨⟨p, fe, hR⟩, hTx, hRw, hWg, hFe, hSh, hMk, W, H, K, hLn, hPt, hPs, hPr, hKp⟩ := hC
  have f0 : Fr [(90, some 0)] I (wI I 90 0 0) := Fr.w Fr.rf rfl
  have fin : Cp (B + 1) (wI I 90 0 0) L R := by
    refine ⟨⟨_, _, hR⟩, hTx.imp fun _ h => h.imp fun _ h => h.ag (f0.ag rfl), hRw.imp fun _ h => h.imp fun _ h => h.ag (f0.ag rfl) (fun _ _ _ => rfl), hWg.imp fun _ h => h.imp fun _ h => h.ag (f0.ag rfl), hFe.imp fun _ h => h.ag (f0.ag rfl), hSh.ag (f0.ag rfl), hMk.imp fun _ h => h.ag (f0.ag rfl), W, H, K, hLn.ag (f0.ag rfl), hPt.imp fun _ h => h.ag (f0.ag rfl), hPs.imp fun _ h => h.imp fun _ h => h.imp fun _ h => h.ag (f0.ag rfl), hPr.imp fun _ h => h.imp fun _ h => h.imp fun _ h => h.ag (f0.ag rfl), hKp.ag (f0.ag rfl)⟩
  have hN := hLn.1.N36
  rcases ix4 x 3 (by omega) with hx | ⟨kx, hkx, rfl⟩
  · refine ⟨-1, I, _, ?_, ?_, fin⟩
    · unfold f_GWL_sheet
      by_cases h : x < 0
      · rw [ifb_pos h]
      · rw [ifb_neg h, ifb_pos (show (3 : Int32) < x from hx.resolve_left h)]
    · unfold f_Mod_sheet
      rw [lt_c, in_f (b := 3) (y := nI 3) rfl hx, bnd1_c, ifb_pos rfl]
  by_cases hy : y ≤ 36
  rotate_left
  · refine ⟨-1, I, _, ?_, ?_, fin⟩
    · unfold f_GWL_sheet
      rw [ifb_neg (zn (by omega)), show (3 : Int32) = nI 3 from rfl, ifb_neg (by rw [lt32 (by omega) (by omega)]; omega), ifb_neg hy]
    · unfold f_Mod_sheet
      rw [lt_c, in_t (b := 3) (n := 3) rfl (by omega) (by omega), bnd1_c, ifb_neg (by decide), ifb_neg hy]
  obtain ⟨q, hq⟩ := hPt
  obtain ⟨⟨⟨h, hh, k0⟩, -⟩, c0, -⟩ := hq.d
  obtain ⟨pn, nx, u, p0, p1, p2, -⟩ := hPs
  have hW := hLn.1.1
  have hH := hLn.1.2.1
  have hKK := hLn.1.2.2.1
  -- the common road, behind the checks: n' is the class's own count
  have road : ∀ (n' : Int32), (∀ c, c < 36 → (n' ≤ nI c ↔ nI kx = 3 ∨ y ≤ nI c)) → ∃ v I1 I2, f_Land_spreadOut g S1 R (wI I 5 2 0) 60 n' z w (nI h) = some (nI v, I1) ∧ l_Mod_sheet_46 S1 R 90 (nI kx) y w g (wI I1 90 0 0) 0 z 0 = some (nI v, I2) ∧ Cp (B + 1) (wI I2 90 23 0) L R := by
    intro n' hn'
    have fa : Fr [(5, some 2)] I (wI I 5 2 0) := Fr.w Fr.rf rfl
    have hLa := hLn.1.ag (fa.ag rfl)
    obtain ⟨⟨v1, J1⟩, e1, a1, b1, -, d1⟩ := spread_l hR hW hH hKK (f0 := z) (st := w) (by omega : h < 36) hn' g 0 (wI I 5 2 0) hLa.2.2.2.1 hLa.2.2.2.2.1 (fun c _ hc => hLa.2.2.2.2.2 c hc) (by omega) (by omega)
    simp only at a1 b1 d1
    have hLK : LKc W H (shk (nI kx = 3) y z w h K (W * H)) J1 := ⟨hW, hH, fun c => shk_lt hKK c, (b1 60 0 rfl).trans hLa.2.2.2.1, (b1 60 1 rfl).trans hLa.2.2.2.2.1, fun c hc => d1 c (by omega) hc⟩
    obtain ⟨J2, e2, b2, la, lz⟩ := survey_c hg hR hLK
    have f2 : Fr [(5, some 2), (61, none), (62, none), (60, some 5), (90, some 0)] I (wI J2 90 0 0) := (((fa.sub rfl).tr (b1.sub rfl)).tr (b2.sub rfl)).w rfl
    have hMa : LM W H K (wI J2 90 0 0) := hLn.2.1.ag (f2.ag rfl)
    obtain ⟨⟨v2, J3⟩, e3, a3, b3, -, d3⟩ := sheetm_l hR hW hH hKK (nn := y) (f0 := z) (st := w) (kn := nI kx) (by omega : h < 36) g 0 (wI J2 90 0 0) hMa.2.2.2.1 hMa.2.2.2.2.1 (by rw [f2 90 7 rfl, c0.2, k0]) (fun c _ hc => hMa.2.2.2.2.2 c hc) (by omega) (by omega)
    simp only at a3 b3 d3
    have f3 : Fr [(5, some 2), (61, none), (62, none), (60, some 5), (90, some 0), (92, none), (90, some 23)] I (wI J3 90 23 0) := ((f2.sub rfl).tr (b3.sub rfl)).w rfl
    have f23 : Fr [(90, some 0), (92, none), (90, some 23)] J2 (wI J3 90 23 0) := ((Fr.w Fr.rf rfl).tr (b3.sub rfl)).w rfl
    refine ⟨ctn (shk (nI kx = 3) y z w h K (W * H)) (W * H), J2, J3, ?_, ?_, ?_⟩
    · unfold f_Land_spreadOut
      have e1' : l_Land_spreadOut_9 S1 R 60 n' w (nI h) g (wI I 5 2 0) 0 z 0 = some (v1, J1) := e1
      rw [e1', bnd2_c, e2, bnd1_c, a1]
    · have e3' : l_Mod_sheet_46 S1 R 90 (nI kx) y w g (wI J2 90 0 0) 0 z 0 = some (v2, J3) := e3
      rw [e3', a3]
    · refine ⟨⟨_, _, hR⟩, hTx.imp fun _ h => h.imp fun _ h => h.ag (f3.ag rfl), hRw.imp fun _ h => h.imp fun _ h => h.ag (f3.ag rfl) (fun _ _ _ => rfl), hWg.imp fun _ h => h.imp fun _ h => h.ag (f3.ag rfl), hFe.imp fun _ h => h.ag (f3.ag rfl), hSh.ag (f3.ag rfl), hMk.imp fun _ h => h.ag (f3.ag rfl), ?_⟩
      refine ⟨W, H, shk (nI kx = 3) y z w h K (W * H), ⟨hLK.ag (Fr.ag (l := [(62, none), (60, some 5), (90, some 0), (92, none), (90, some 23)]) ((b2.sub rfl).tr (f23.sub rfl)) rfl), ⟨hW, hH, fun c => shk_lt hKK c, ?_, ?_, fun c hc => ?_⟩, la.ag (f23.ag rfl), Or.inl ?_⟩, ⟨q, hq.ag (f3.ag rfl)⟩, ⟨0, nx, u, Pst0 p1 ?_ ?_ ?_⟩, hPr.imp fun _ h => h.imp fun _ h => h.imp fun _ h => h.ag (f3.ag rfl), hKp.ag (f3.ag rfl)⟩
      · rw [f3 90 3 rfl]; exact hLn.2.1.2.2.2.1
      · rw [f3 90 4 rfl]; exact hLn.2.1.2.2.2.2.1
      · rw [wI_n (by omega)]; exact d3 c (by omega) hc
      · rw [f23 60 5 rfl]; exact lz
      · rw [f3 5 1 rfl]; exact p2
      · rw [f23 5 2 rfl, b2 5 2 rfl, b1 5 2 rfl, wI_s]
      · rw [wI_s]
  by_cases hk3 : kx = 3
  · subst hk3
    obtain ⟨v, I1, I2, e1, e2, e3⟩ := road 0 (fun c hc => ⟨fun _ => Or.inl rfl, fun _ => by rw [nI0, le32 (by omega) (by omega)]; omega⟩)
    refine ⟨-3, I1, wI I2 90 23 0, ?_, ?_, e3⟩
    · unfold f_GWL_sheet f_Past_forget
      rw [ifb_neg (zn (by omega)), show (3 : Int32) = nI 3 from rfl, ifb_neg (by rw [lt32 (by omega) (by omega)]; omega), ifb_pos hy, ifb_pos rfl, bnd1_c, ifb_neg (by decide), r_0_4 hR, bnd1_c, t_5, asrt_pos rfl, lt_c, bnd1_c, r_0_2 hR, bnd1_c, ifb_neg (by decide), bnd1_c, r_0_3 hR, bnd1_c, t_64, asrt_pos rfl, t_60, asrt_pos rfl, wI_n (by omega), c0.1, k0, e1, bnd2_c, ifb_neg (by decide)]
      rfl
    · unfold f_Mod_sheet
      rw [lt_c, in_t (b := 3) (n := 3) rfl (by omega) (by omega), bnd1_c, ifb_neg (by decide), ifb_pos hy, ifb_pos (by decide), e2, bnd2_c, lt_c, ifb_pos (by decide)]; rfl
  have hk3' : ¬ nI kx = 3 := by rw [show (3 : Int32) = nI 3 from rfl, eq32 (by omega) (by omega)]; exact hk3
  by_cases hy0 : 0 ≤ y
  rotate_left
  · refine ⟨-2, I, _, ?_, ?_, fin⟩
    · unfold f_GWL_sheet
      rw [ifb_neg (zn (by omega)), ifb_neg (by rw [show (3 : Int32) = nI 3 from rfl, lt32 (by omega) (by omega)]; omega), ifb_pos hy, ifb_neg hk3', bnd1_c, ifb_pos rfl, ifb_neg hy0]
    · unfold f_Mod_sheet
      rw [lt_c, in_t (b := 3) (n := 3) rfl (by omega) (by omega), bnd1_c, ifb_neg (by decide), ifb_pos hy, ifb_neg hk3', ifb_neg hy0]
  obtain ⟨v, I1, I2, e1, e2, e3⟩ := road y (fun c hc => ⟨fun h => Or.inr h, fun h => h.resolve_left hk3'⟩)
  refine ⟨nI v, I1, wI I2 90 23 0, ?_, ?_, e3⟩
  · unfold f_GWL_sheet f_Past_forget
    rw [ifb_neg (zn (by omega)), ifb_neg (by rw [show (3 : Int32) = nI 3 from rfl, lt32 (by omega) (by omega)]; omega), ifb_pos hy, ifb_neg hk3', bnd1_c, ifb_pos rfl, ifb_pos hy0, r_0_4 hR, bnd1_c, t_5, asrt_pos rfl, lt_c, bnd1_c, r_0_2 hR, bnd1_c, ifb_pos rfl, bnd1_c, r_0_3 hR, bnd1_c, t_64, asrt_pos rfl, t_60, asrt_pos rfl, wI_n (by omega), c0.1, k0, e1, bnd2_c, ifb_pos rfl]
    rfl
  · unfold f_Mod_sheet
    rw [lt_c, in_t (b := 3) (n := 3) rfl (by omega) (by omega), bnd1_c, ifb_neg (by decide), ifb_pos hy, ifb_neg hk3', ifb_pos hy0, e2, bnd2_c, lt_c, ifb_neg hk3']; rfl
end OK1
