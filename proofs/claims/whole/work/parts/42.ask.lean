section OF
variable {W H B n : Nat} {K τ : Nat → Nat} {I I' : MI} {L : ML} {R : MR} {p : Bool} {fe : Nat} {q : Nat → Int32}
theorem flag_0 : f_Mod_flag 0 = some 0 := by unfold f_Mod_flag; rw [ifb_pos rfl]; rfl
theorem flag_1 : f_Mod_flag 1 = some 1 := by unfold f_Mod_flag; rw [ifb_neg (by decide)]; rfl
theorem ask_h {g : Nat} (hg : 1000 ≤ g) (hR : RG p fe R) (hTx : ∃ n τ, Txt n τ I) (hRw : ∃ n ρ, Rw n ρ I L) {w : Nat → Nat} {hd : Nat} (hw : Wgt w hd I) (hFe : ∃ f, Fe f I) (hSh : Shf I) (hMk : ∃ y, Mkt y I) (hLn : Lnd W H K I) (hq : Pty W H q I) {pn nx : Nat} {u : Nat → Nat → Int32} (hs : Pst W H pn nx u I)
    (hPr : ∃ n h z, Pri W H n h z I) (hKp : Kpt B W H I) {c h v t : Nat} (hc : c < W * H) (k0 : q 0 = nI c) (hh : h < 4) (k1 : q 1 = nI h) (hv1 : 1 ≤ v) (hv : v ≤ 9) (k2 : q 2 = nI v) (he : ¬ isE (K c) = true) (ht0 : t < 3) (e1 : f_GWL_isTurn (nI t) = some 1) (e2 : f_Mod_isTurn (nI t) = some 1) (hdr : ¬ nI hd ≤ dr10 (q 3)) :
    ∃ v I1 L1 I2 L2, f_GWL_ask S1 R I L 0 (nI t) = some (v, I1, L1) ∧ f_Mod_ask g S1 R I1 L1 90 (nI t) = some (v, I2, L2) ∧ Cp (B + 1) I2 L2 R := by
  have hcl := hLn.1
  have hN := hcl.N36
  have heb : eb (K c) = 0 := by unfold eb; rw [if_neg he]
  have ht : t < 3 := ht0
  have c0 := hq.d.2.1
  have c2 := hq.d.2.2.2.1
  obtain ⟨I1, r1, a1, b1, b2, b3⟩ := rem_c hR hs hq
  have hq1 : PR 64 65 q I1 := hq.2.1.to (fun k => a1 64 k rfl) (fun k => a1 65 k rfl)
  have hqf : PR 64 65 (wq (wq (wq q 2 (q 2 - 1)) 5 (q 5 + 1)) 3 (rn1 (q 3))) (wI (wI (wI I1 64 2 (q 2 - 1)) 64 5 (q 5 + 1)) 64 3 (rn1 (q 3))) := PR_w (i := 3) (PR_w (i := 5) (PR_w (i := 2) hq1 (by omega)) (by omega)) (by omega)
  have fj : Fr [(64, none)] I1 (wI (wI (wI I1 64 2 (q 2 - 1)) 64 5 (q 5 + 1)) 64 3 (rn1 (q 3))) := Fr.w (Fr.w (Fr.w (Fr.rf) rfl) rfl) rfl
  have f1a : Fr (fRg ++ fS1) I (wI (wI (wI I1 64 2 (q 2 - 1)) 64 5 (q 5 + 1)) 64 3 (rn1 (q 3))) := ((((a1.sub rfl).w rfl).w rfl).w rfl)
  obtain ⟨I2, r2, a2, d2⟩ := tread_c (hcl.ag (f1a.ag rfl)) (hLn.2.2.1.ag (f1a.ag rfl)) hR hqf hc hh (by simp (disch := omega) only [wq_n]; exact k0) (by simp (disch := omega) only [wq_n]; exact k1) ht
  have f12 : Fr (fRg ++ fS1) I I2 := (f1a.sub rfl).tr (a2.sub rfl)
  have fr : Fr [(3, some 1), (90, some 0)] I2 (wI (wI (wI (wI I2 3 1 0) 3 1 (nI 1)) 3 1 (nI (1 + 1))) 90 0 0) := Fr.w (Fr.w (Fr.w (Fr.w Fr.rf rfl) rfl) rfl) rfl
  have f02 : Fr (fRg ++ fS1 ++ [(3, some 1), (90, some 0)]) I (wI (wI (wI (wI I2 3 1 0) 3 1 (nI 1)) 3 1 (nI (1 + 1))) 90 0 0) := (f12.sub rfl).tr (fr.sub rfl)
  have hM2 : LM W H K (wI (wI (wI (wI I2 3 1 0) 3 1 (nI 1)) 3 1 (nI (1 + 1))) 90 0 0) := hLn.2.1.ag (f02.ag rfl)
  have hPM : PM q (wI (wI (wI (wI I2 3 1 0) 3 1 (nI 1)) 3 1 (nI (1 + 1))) 90 0 0) := hq.2.2.to2 (f02.ag rfl)
  obtain ⟨I3, r3, a3, b4, b5⟩ := putsBy_c hg hR (I := wI (wI (wI (wI I2 3 1 0) 3 1 (nI 1)) 3 1 (nI (1 + 1))) 90 0 0) (u := u) hs.1 (by rw [f02 90 23 rfl]; exact hs.2.2.2.2.1) hPM (ps_to (fun j hj => (hs.2.2.2.2.2 j hj).2.2) f02 rfl)
  have hPM3 : PM q I3 := hPM.to2 (a3.ag rfl)
  have fm : Fr [(90, some 10), (90, some 14), (90, some 12)] I3 (wI (wI (wI I3 90 10 (q 2 - 1)) 90 14 (q 5 + 1)) 90 12 (rn1 (q 3))) := Fr.w (Fr.w (Fr.w (Fr.rf) rfl) rfl) rfl
  have hPMm : PM (wq (wq (wq q 2 (q 2 - 1)) 5 (q 5 + 1)) 3 (rn1 (q 3))) (wI (wI (wI I3 90 10 (q 2 - 1)) 90 14 (q 5 + 1)) 90 12 (rn1 (q 3))) := PM_w (i := 3) (PM_w (i := 5) (PM_w (i := 2) hPM3 (by omega)) (by omega)) (by omega)
  have f4 : Fr [(90, some 10), (90, some 14), (90, some 12), (90, some 1)] I3 (wI (wI (wI (wI (wI (wI I3 90 10 (q 2 - 1)) 90 14 (q 5 + 1)) 90 12 (rn1 (q 3))) 90 1 0) 90 1 (nI 1)) 90 1 (nI (1 + 1))) := (((fm.sub rfl).w rfl).w rfl).w rfl
  have hPM4 : PM (wq (wq (wq q 2 (q 2 - 1)) 5 (q 5 + 1)) 3 (rn1 (q 3))) (wI (wI (wI (wI (wI (wI I3 90 10 (q 2 - 1)) 90 14 (q 5 + 1)) 90 12 (rn1 (q 3))) 90 1 0) 90 1 (nI 1)) 90 1 (nI (1 + 1))) := hPMm.to2 (Fr.ag (l := [(90, some 1)]) (Fr.w (Fr.w (Fr.w Fr.rf rfl) rfl) rfl) rfl)
  obtain ⟨⟨v', I4⟩, r4, v4, a4, d4⟩ := steps_c ((hM2.ag (a3.ag rfl)).ag (f4.ag rfl)) hR hPM4 hc hh (by simp (disch := omega) only [wq_n]; exact k0) (by simp (disch := omega) only [wq_n]; exact k1) ht
  have v4' : v' = nI _ := v4
  simp only at a4 d4
  have f24 : Fr ([(3, some 1)] ++ fS2) I2 I4 := ((fr.sub rfl).tr (a3.sub rfl)).tr ((f4.sub rfl).tr (a4.sub rfl))
  have f04 : Fr (fRg ++ fS1 ++ [(3, some 1), (90, some 0), (90, some 1), (90, some 10), (90, some 14), (90, some 12), (99, none), (90, some 23), (90, some 7), (90, some 8), (90, some 13), (94, none)]) I I4 := ((f02.sub rfl).tr (a3.sub rfl)).tr ((f4.sub rfl).tr (a4.sub rfl))
  have hw1 : Wgt w hd I1 := hw.ag (a1.ag rfl)
  have hw3 : Wgt w hd I3 := (hw.ag (f02.ag rfl)).ag (a3.ag rfl)
  have e64 : I1 64 3 = q 3 := hq1.1.2.2.2.1
  have e90 : I3 90 12 = q 3 := hPM3.1.2.2.2.1
  refine ⟨v', wI (wI (wI I2 3 1 0) 3 1 (nI 1)) 3 1 (nI (1 + 1)), wL (wL L 4 0 1) 4 1 (nI t).toInt64, I4, wL (wL (wL (wL L 4 0 1) 4 1 (nI t).toInt64) 91 0 (Int32.toInt64 1)) 91 1 (nI t).toInt64, ?_, ?_, ?_⟩
  · unfold f_GWL_ask f_Numbers_begin
    rw [e1, bnd1_c, ifb_neg (by decide), isOver_c hcl hR hc (c0.1.trans k0), bnd1_c, heb, ifb_pos rfl, r_0_3 hR, bnd1_c, t_64, asrt_pos rfl, c2.1, ifb_pos (by rw [k2, show (1 : Int32) = nI 1 from rfl, le32 (by omega) (by omega)]; omega), r_0_4 hR, bnd1_c, t_5, asrt_pos rfl, r1, bnd1_c,
      hq1.1.2.2.1, lt_c, lt_c, wI_n (by omega), hq1.1.2.2.2.2.2, lt_c, lt_c, drawTenths_c, bnd2_c, wI_n (by omega), wI_n (by omega), wI_n (by omega), wI_n (by omega), wI_n (by omega), e64, hw1.2.2.2.1, ifb_neg hdr, bnd1_c, ifb_neg (by decide), bnd2_c, r_0_2 hR, bnd1_c, r2, bnd1_c, r_0_1 hR, bnd1_c, t_3, asrt_pos rfl, lt_c, bnd1_c, ifb_neg (by decide), bnd1_c,
      add_0 hR, bnd2_c, add_c hR (k := 1) wI_s (by omega), bnd2_c, lt_c, wI_n (by omega), wI_n (by omega), wI_n (by omega), d2.1.1, v4']
    rfl
  · unfold f_Mod_ask
    rw [lt_c, e2, bnd1_c, ifb_neg (by decide), hPM.1.1, k0, isEnd_in hM2 hR hc, bnd1_c, heb, ifb_pos rfl, hPM.1.2.2.1, ifb_neg (by rw [k2, nI0, eq32 (by omega) (by omega)]; omega), r3, bnd1_c, hPM3.1.2.2.1, lt_c, lt_c, wI_n (by omega), hPM3.1.2.2.2.2.2, lt_c, lt_c, draws_c, bnd2_c,
      wI_n (by omega), wI_n (by omega), wI_n (by omega), wI_n (by omega), wI_n (by omega), e90, hw3.2.2.2.2, ifb_neg hdr, bnd1_c, ifb_neg (by decide), bnd2_c, lt_c, flag_1, bnd1_c, enters_0 hR, bnd2_c, enters_c hR (k := 1) wI_s (by omega), bnd2_c, r4]
    rfl
  · refine ⟨⟨_, _, hR⟩, hTx.imp fun _ h => h.imp fun _ h => h.ag (f04.ag rfl), ?_, ?_, hFe.imp fun _ h => h.ag (f04.ag rfl), hSh.ag (f04.ag rfl), hMk.imp fun _ h => h.ag (f04.ag rfl), W, H, K, hLn.ag (f04.ag rfl), ?_, ?_, hPr.imp fun _ h => h.imp fun _ h => h.imp fun _ h => h.ag (f04.ag rfl), hKp.ag (f04.ag rfl)⟩
    · refine ⟨2, fun k => if k = 0 then 1 else (nI t).toInt64, by omega, ?_, ?_, fun k hk => ?_⟩
      · rw [a4 3 1 rfl, f4 3 1 rfl, a3 3 1 rfl, wI_n (by omega), wI_s]
      · rw [a4 90 1 rfl, wI_s]
      · have : k = 0 ∨ k = 1 := by omega
        rcases this with rfl | rfl
        · exact ⟨by simp (disch := omega) only [wL_s, wL_n]; rfl, by simp (disch := omega) only [wL_s, wL_n]; rfl⟩
        · exact ⟨by simp (disch := omega) only [wL_s, wL_n]; rfl, by simp (disch := omega) only [wL_s, wL_n]; rfl⟩
    · exact ⟨w, hd, hw.ag (f04.ag rfl)⟩
    · have hlt := @aft_lt W H K hcl.1 (4 * c + h) (t) (by omega)
      refine ⟨_, trd_ok ?_ (by omega) (by omega), d2.to (fun k => f24 64 k rfl) (fun k => f24 65 k rfl), d4⟩
      obtain ⟨p1, p2, p3, p4⟩ := hq.1
      exact ⟨by simp (disch := omega) only [wq_n]; exact p1, by simp (disch := omega) only [wq_n]; exact p2, ⟨v - 1, by omega, by simp (disch := omega) only [wq_n, wq_s]; rw [k2]; exact sub1 hv1⟩, fun k hk => by simp (disch := omega) only [wq_n]; exact p4 k hk⟩
    · exact ⟨_, _, _, Pst_mk hs hq.1 ((f24 5 1 rfl).trans ((a2 5 1 rfl).trans ((fj 5 1 rfl).trans b1))) ((f24 5 2 rfl).trans ((a2 5 2 rfl).trans ((fj 5 2 rfl).trans b2))) ((a4 90 23 rfl).trans ((f4 90 23 rfl).trans b4))
        (ring_to (ring_to (ring_to b3 fj rfl) a2 rfl) f24 rfl) (ps_to (ps_to b5 f4 rfl) a4 rfl)⟩
theorem ask_u {g : Nat} (hg : 1000 ≤ g) (hR : RG p fe R) (hTx : ∃ n τ, Txt n τ I) (hRw : ∃ n ρ, Rw n ρ I L) {w : Nat → Nat} {hd : Nat} (hw : Wgt w hd I) (hFe : ∃ f, Fe f I) (hSh : Shf I) (hMk : ∃ y, Mkt y I) (hLn : Lnd W H K I) (hq : Pty W H q I) {pn nx : Nat} {u : Nat → Nat → Int32} (hs : Pst W H pn nx u I)
    (hPr : ∃ n h z, Pri W H n h z I) (hKp : Kpt B W H I) {c h v t : Nat} (hc : c < W * H) (k0 : q 0 = nI c) (hh : h < 4) (k1 : q 1 = nI h) (hv1 : 1 ≤ v) (hv : v ≤ 9) (k2 : q 2 = nI v) (he : ¬ isE (K c) = true) (ht0 : t < 3) (e1 : f_GWL_isTurn (nI t) = some 1) (e2 : f_Mod_isTurn (nI t) = some 1) (hdr : nI hd ≤ dr10 (q 3)) :
    ∃ v I1 L1 I2 L2, f_GWL_ask S1 R I L 0 (nI t) = some (v, I1, L1) ∧ f_Mod_ask g S1 R I1 L1 90 (nI t) = some (v, I2, L2) ∧ Cp (B + 1) I2 L2 R := by
  have hcl := hLn.1
  have hN := hcl.N36
  have heb : eb (K c) = 0 := by unfold eb; rw [if_neg he]
  have ht : (twt w (dr10 (rn1 (q 3)))) < 3 := twt_lt _ _
  have c0 := hq.d.2.1
  have c2 := hq.d.2.2.2.1
  obtain ⟨I1, r1, a1, b1, b2, b3⟩ := rem_c hR hs hq
  have hq1 : PR 64 65 q I1 := hq.2.1.to (fun k => a1 64 k rfl) (fun k => a1 65 k rfl)
  have hqf : PR 64 65 (wq (wq (wq (wq q 2 (q 2 - 1)) 5 (q 5 + 1)) 3 (rn1 (q 3))) 3 (rn1 (rn1 (q 3)))) (wI (wI (wI (wI I1 64 2 (q 2 - 1)) 64 5 (q 5 + 1)) 64 3 (rn1 (q 3))) 64 3 (rn1 (rn1 (q 3)))) := PR_w (i := 3) (PR_w (i := 3) (PR_w (i := 5) (PR_w (i := 2) hq1 (by omega)) (by omega)) (by omega)) (by omega)
  have fj : Fr [(64, none)] I1 (wI (wI (wI (wI I1 64 2 (q 2 - 1)) 64 5 (q 5 + 1)) 64 3 (rn1 (q 3))) 64 3 (rn1 (rn1 (q 3)))) := Fr.w (Fr.w (Fr.w (Fr.w (Fr.rf) rfl) rfl) rfl) rfl
  have f1a : Fr (fRg ++ fS1) I (wI (wI (wI (wI I1 64 2 (q 2 - 1)) 64 5 (q 5 + 1)) 64 3 (rn1 (q 3))) 64 3 (rn1 (rn1 (q 3)))) := (((((a1.sub rfl).w rfl).w rfl).w rfl).w rfl)
  obtain ⟨I2, r2, a2, d2⟩ := tread_c (hcl.ag (f1a.ag rfl)) (hLn.2.2.1.ag (f1a.ag rfl)) hR hqf hc hh (by simp (disch := omega) only [wq_n]; exact k0) (by simp (disch := omega) only [wq_n]; exact k1) ht
  have f12 : Fr (fRg ++ fS1) I I2 := (f1a.sub rfl).tr (a2.sub rfl)
  have fr : Fr [(3, some 1), (90, some 0)] I2 (wI (wI (wI (wI I2 3 1 0) 3 1 (nI 1)) 3 1 (nI (1 + 1))) 90 0 0) := Fr.w (Fr.w (Fr.w (Fr.w Fr.rf rfl) rfl) rfl) rfl
  have f02 : Fr (fRg ++ fS1 ++ [(3, some 1), (90, some 0)]) I (wI (wI (wI (wI I2 3 1 0) 3 1 (nI 1)) 3 1 (nI (1 + 1))) 90 0 0) := (f12.sub rfl).tr (fr.sub rfl)
  have hM2 : LM W H K (wI (wI (wI (wI I2 3 1 0) 3 1 (nI 1)) 3 1 (nI (1 + 1))) 90 0 0) := hLn.2.1.ag (f02.ag rfl)
  have hPM : PM q (wI (wI (wI (wI I2 3 1 0) 3 1 (nI 1)) 3 1 (nI (1 + 1))) 90 0 0) := hq.2.2.to2 (f02.ag rfl)
  obtain ⟨I3, r3, a3, b4, b5⟩ := putsBy_c hg hR (I := wI (wI (wI (wI I2 3 1 0) 3 1 (nI 1)) 3 1 (nI (1 + 1))) 90 0 0) (u := u) hs.1 (by rw [f02 90 23 rfl]; exact hs.2.2.2.2.1) hPM (ps_to (fun j hj => (hs.2.2.2.2.2 j hj).2.2) f02 rfl)
  have hPM3 : PM q I3 := hPM.to2 (a3.ag rfl)
  have fm : Fr [(90, some 10), (90, some 14), (90, some 12)] I3 (wI (wI (wI (wI I3 90 10 (q 2 - 1)) 90 14 (q 5 + 1)) 90 12 (rn1 (q 3))) 90 12 (rn1 (rn1 (q 3)))) := Fr.w (Fr.w (Fr.w (Fr.w (Fr.rf) rfl) rfl) rfl) rfl
  have hPMm : PM (wq (wq (wq (wq q 2 (q 2 - 1)) 5 (q 5 + 1)) 3 (rn1 (q 3))) 3 (rn1 (rn1 (q 3)))) (wI (wI (wI (wI I3 90 10 (q 2 - 1)) 90 14 (q 5 + 1)) 90 12 (rn1 (q 3))) 90 12 (rn1 (rn1 (q 3)))) := PM_w (i := 3) (PM_w (i := 3) (PM_w (i := 5) (PM_w (i := 2) hPM3 (by omega)) (by omega)) (by omega)) (by omega)
  have f4 : Fr [(90, some 10), (90, some 14), (90, some 12), (90, some 1)] I3 (wI (wI (wI (wI (wI (wI (wI I3 90 10 (q 2 - 1)) 90 14 (q 5 + 1)) 90 12 (rn1 (q 3))) 90 12 (rn1 (rn1 (q 3)))) 90 1 0) 90 1 (nI 1)) 90 1 (nI (1 + 1))) := (((fm.sub rfl).w rfl).w rfl).w rfl
  have hPM4 : PM (wq (wq (wq (wq q 2 (q 2 - 1)) 5 (q 5 + 1)) 3 (rn1 (q 3))) 3 (rn1 (rn1 (q 3)))) (wI (wI (wI (wI (wI (wI (wI I3 90 10 (q 2 - 1)) 90 14 (q 5 + 1)) 90 12 (rn1 (q 3))) 90 12 (rn1 (rn1 (q 3)))) 90 1 0) 90 1 (nI 1)) 90 1 (nI (1 + 1))) := hPMm.to2 (Fr.ag (l := [(90, some 1)]) (Fr.w (Fr.w (Fr.w Fr.rf rfl) rfl) rfl) rfl)
  obtain ⟨⟨v', I4⟩, r4, v4, a4, d4⟩ := steps_c ((hM2.ag (a3.ag rfl)).ag (f4.ag rfl)) hR hPM4 hc hh (by simp (disch := omega) only [wq_n]; exact k0) (by simp (disch := omega) only [wq_n]; exact k1) ht
  have v4' : v' = nI _ := v4
  simp only at a4 d4
  have f24 : Fr ([(3, some 1)] ++ fS2) I2 I4 := ((fr.sub rfl).tr (a3.sub rfl)).tr ((f4.sub rfl).tr (a4.sub rfl))
  have f04 : Fr (fRg ++ fS1 ++ [(3, some 1), (90, some 0), (90, some 1), (90, some 10), (90, some 14), (90, some 12), (99, none), (90, some 23), (90, some 7), (90, some 8), (90, some 13), (94, none)]) I I4 := ((f02.sub rfl).tr (a3.sub rfl)).tr ((f4.sub rfl).tr (a4.sub rfl))
  have hw1 : Wgt w hd I1 := hw.ag (a1.ag rfl)
  have hw3 : Wgt w hd I3 := (hw.ag (f02.ag rfl)).ag (a3.ag rfl)
  have e64 : I1 64 3 = q 3 := hq1.1.2.2.2.1
  have e90 : I3 90 12 = q 3 := hPM3.1.2.2.2.1
  refine ⟨v', wI (wI (wI I2 3 1 0) 3 1 (nI 1)) 3 1 (nI (1 + 1)), wL (wL L 4 0 0) 4 1 (nI (twt w (dr10 (rn1 (q 3))))).toInt64, I4, wL (wL (wL (wL L 4 0 0) 4 1 (nI (twt w (dr10 (rn1 (q 3))))).toInt64) 91 0 (Int32.toInt64 0)) 91 1 (nI (twt w (dr10 (rn1 (q 3))))).toInt64, ?_, ?_, ?_⟩
  · unfold f_GWL_ask f_Numbers_begin
    rw [e1, bnd1_c, ifb_neg (by decide), isOver_c hcl hR hc (c0.1.trans k0), bnd1_c, heb, ifb_pos rfl, r_0_3 hR, bnd1_c, t_64, asrt_pos rfl, c2.1, ifb_pos (by rw [k2, show (1 : Int32) = nI 1 from rfl, le32 (by omega) (by omega)]; omega), r_0_4 hR, bnd1_c, t_5, asrt_pos rfl, r1, bnd1_c,
      hq1.1.2.2.1, lt_c, lt_c, wI_n (by omega), hq1.1.2.2.2.2.2, lt_c, lt_c, drawTenths_c, bnd2_c, wI_n (by omega), wI_n (by omega), wI_n (by omega), wI_n (by omega), wI_n (by omega), e64, hw1.2.2.2.1, ifb_pos hdr, bnd1_c, ifb_pos rfl, r_0_5 hR, bnd1_c, byW_c (hw1.ag (Fr.ag (l := [(64, none)]) (Fr.w (Fr.w (Fr.w Fr.rf rfl) rfl) rfl) rfl)), wI_s, bnd2_c, bnd2_c, r_0_2 hR, bnd1_c, r2, bnd1_c, r_0_1 hR, bnd1_c, t_3, asrt_pos rfl, lt_c, bnd1_c, ifb_pos rfl, bnd1_c,
      add_0 hR, bnd2_c, add_c hR (k := 1) wI_s (by omega), bnd2_c, lt_c, wI_n (by omega), wI_n (by omega), wI_n (by omega), d2.1.1, v4']
    rfl
  · unfold f_Mod_ask
    rw [lt_c, e2, bnd1_c, ifb_neg (by decide), hPM.1.1, k0, isEnd_in hM2 hR hc, bnd1_c, heb, ifb_pos rfl, hPM.1.2.2.1, ifb_neg (by rw [k2, nI0, eq32 (by omega) (by omega)]; omega), r3, bnd1_c, hPM3.1.2.2.1, lt_c, lt_c, wI_n (by omega), hPM3.1.2.2.2.2.2, lt_c, lt_c, draws_c, bnd2_c,
      wI_n (by omega), wI_n (by omega), wI_n (by omega), wI_n (by omega), wI_n (by omega), e90, hw3.2.2.2.2, ifb_pos hdr, bnd1_c, ifb_pos rfl, byWm_c hR (hw3.ag (Fr.ag (l := [(90, some 10), (90, some 14), (90, some 12)]) (Fr.w (Fr.w (Fr.w Fr.rf rfl) rfl) rfl) rfl)), wI_s, bnd2_c, bnd2_c, lt_c, flag_0, bnd1_c, enters_0 hR, bnd2_c, enters_c hR (k := 1) wI_s (by omega), bnd2_c, r4]
    rfl
  · refine ⟨⟨_, _, hR⟩, hTx.imp fun _ h => h.imp fun _ h => h.ag (f04.ag rfl), ?_, ?_, hFe.imp fun _ h => h.ag (f04.ag rfl), hSh.ag (f04.ag rfl), hMk.imp fun _ h => h.ag (f04.ag rfl), W, H, K, hLn.ag (f04.ag rfl), ?_, ?_, hPr.imp fun _ h => h.imp fun _ h => h.imp fun _ h => h.ag (f04.ag rfl), hKp.ag (f04.ag rfl)⟩
    · refine ⟨2, fun k => if k = 0 then 0 else (nI (twt w (dr10 (rn1 (q 3))))).toInt64, by omega, ?_, ?_, fun k hk => ?_⟩
      · rw [a4 3 1 rfl, f4 3 1 rfl, a3 3 1 rfl, wI_n (by omega), wI_s]
      · rw [a4 90 1 rfl, wI_s]
      · have : k = 0 ∨ k = 1 := by omega
        rcases this with rfl | rfl
        · exact ⟨by simp (disch := omega) only [wL_s, wL_n]; rfl, by simp (disch := omega) only [wL_s, wL_n]; rfl⟩
        · exact ⟨by simp (disch := omega) only [wL_s, wL_n]; rfl, by simp (disch := omega) only [wL_s, wL_n]; rfl⟩
    · exact ⟨w, hd, hw.ag (f04.ag rfl)⟩
    · have hlt := @aft_lt W H K hcl.1 (4 * c + h) ((twt w (dr10 (rn1 (q 3))))) (by omega)
      refine ⟨_, trd_ok ?_ (by omega) (by omega), d2.to (fun k => f24 64 k rfl) (fun k => f24 65 k rfl), d4⟩
      obtain ⟨p1, p2, p3, p4⟩ := hq.1
      exact ⟨by simp (disch := omega) only [wq_n]; exact p1, by simp (disch := omega) only [wq_n]; exact p2, ⟨v - 1, by omega, by simp (disch := omega) only [wq_n, wq_s]; rw [k2]; exact sub1 hv1⟩, fun k hk => by simp (disch := omega) only [wq_n]; exact p4 k hk⟩
    · exact ⟨_, _, _, Pst_mk hs hq.1 ((f24 5 1 rfl).trans ((a2 5 1 rfl).trans ((fj 5 1 rfl).trans b1))) ((f24 5 2 rfl).trans ((a2 5 2 rfl).trans ((fj 5 2 rfl).trans b2))) ((a4 90 23 rfl).trans ((f4 90 23 rfl).trans b4))
        (ring_to (ring_to (ring_to b3 fj rfl) a2 rfl) f24 rfl) (ps_to (ps_to b5 f4 rfl) a4 rfl)⟩
theorem op_ask {g : Nat} (hg : 1000 ≤ g) (hC : Cp B I L R) (x : Int32) : ∃ v I1 L1 I2 L2, f_GWL_ask S1 R I L 0 x = some (v, I1, L1) ∧ f_Mod_ask g S1 R I1 L1 90 x = some (v, I2, L2) ∧ Cp (B + 1) I2 L2 R := by
  obtain ⟨⟨p, fe, hR⟩, hTx, hRw, hWg, hFe, hSh, hMk, W, H, K, hLn, hPt, hPs, hPr, hKp⟩ := hC
  have f0 : Fr [(90, some 0)] I (wI I 90 0 0) := Fr.w Fr.rf rfl
  have fin : Cp (B + 1) (wI I 90 0 0) L R := by
    refine ⟨⟨_, _, hR⟩, hTx.imp fun _ h => h.imp fun _ h => h.ag (f0.ag rfl), hRw.imp fun _ h => h.imp fun _ h => h.ag (f0.ag rfl) (fun _ _ _ => rfl), hWg.imp fun _ h => h.imp fun _ h => h.ag (f0.ag rfl), hFe.imp fun _ h => h.ag (f0.ag rfl), hSh.ag (f0.ag rfl), hMk.imp fun _ h => h.ag (f0.ag rfl), W, H, K, hLn.ag (f0.ag rfl), hPt.imp fun _ h => h.ag (f0.ag rfl), hPs.imp fun _ h => h.imp fun _ h => h.imp fun _ h => h.ag (f0.ag rfl), hPr.imp fun _ h => h.imp fun _ h => h.imp fun _ h => h.ag (f0.ag rfl), hKp.ag (f0.ag rfl)⟩
  rcases isTurn_c x with ⟨-, e1, e2⟩ | ⟨t, ht, rfl, e1, e2⟩
  · refine ⟨-1, I, L, _, L, ?_, ?_, fin⟩
    · unfold f_GWL_ask
      rw [e1, bnd1_c, ifb_pos rfl]
    · unfold f_Mod_ask
      rw [lt_c, e2, bnd1_c, ifb_pos rfl]
  obtain ⟨q, hq⟩ := hPt
  obtain ⟨pn, nx, u, hs⟩ := hPs
  obtain ⟨w, hd, hw⟩ := hWg
  obtain ⟨⟨⟨c, hc, k0⟩, ⟨h, hh, k1⟩, ⟨v, hv, k2⟩, -⟩, c0, -, c2, -⟩ := hq.d
  have hcl := hLn.1
  by_cases he : isE (K c) = true
  · have heb : eb (K c) = 1 := by unfold eb; rw [he]; rfl
    refine ⟨-2, I, L, _, L, ?_, ?_, fin⟩
    · unfold f_GWL_ask
      rw [e1, bnd1_c, ifb_neg (by decide), isOver_c hcl hR hc (c0.1.trans k0), bnd1_c, heb, ifb_neg (by decide)]
    · unfold f_Mod_ask
      rw [lt_c, e2, bnd1_c, ifb_neg (by decide), wI_n (by omega), c0.2, k0, isEnd_in (hLn.2.1.ag (f0.ag rfl)) hR hc, bnd1_c, heb, ifb_neg (by decide)]
  have heb : eb (K c) = 0 := by unfold eb; rw [if_neg he]
  by_cases hv0 : v = 0
  · subst hv0
    refine ⟨-3, I, L, _, L, ?_, ?_, fin⟩
    · unfold f_GWL_ask
      rw [e1, bnd1_c, ifb_neg (by decide), isOver_c hcl hR hc (c0.1.trans k0), bnd1_c, heb, ifb_pos rfl, r_0_3 hR, bnd1_c, t_64, asrt_pos rfl, c2.1, k2, ifb_neg (by decide)]
    · unfold f_Mod_ask
      rw [lt_c, e2, bnd1_c, ifb_neg (by decide), wI_n (by omega), c0.2, k0, isEnd_in (hLn.2.1.ag (f0.ag rfl)) hR hc, bnd1_c, heb, ifb_pos rfl, wI_n (by omega), c2.2, k2, ifb_pos (by decide)]
  by_cases hdr : nI hd ≤ dr10 (q 3)
  · exact ask_u hg hR hTx hRw hw hFe hSh hMk hLn hq hs hPr hKp hc k0 hh k1 (by omega) hv k2 he ht e1 e2 hdr
  · exact ask_h hg hR hTx hRw hw hFe hSh hMk hLn hq hs hPr hKp hc k0 hh k1 (by omega) hv k2 he ht e1 e2 hdr
end OF
