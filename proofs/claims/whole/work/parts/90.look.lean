section LL
variable {W H m s0 n k hd h0 N b c h s B P : Nat} {K w τ : Nat → Nat} {I I' J : MI} {L L' L0 : ML} {R : MR} {p : Bool} {fe : Nat}
def fLo : FT := [(1, some 1), (3, some 1), (90, some 0), (90, some 1), (90, some 17), (90, some 18), (90, some 19)]
theorem Txt0 (h1 : I 1 1 = 0) (h2 : I 90 17 = 0) : ∃ n τ, Txt n τ I := ⟨0, fun _ => 0, by omega, h1, h2, fun k hk => absurd hk (Nat.not_lt_zero k)⟩
theorem op_look {g : Nat} (hg : 1000 ≤ g) (hC : Cp B I L R) : ∃ v I1 L1 I2 L2, f_GWL_look g S1 R I L 0 = some (v, I1, L1) ∧ f_Mod_look g S1 R I1 L1 90 = some (v, I2, L2) ∧ Cp (B + 1) I2 L2 R := by
  obtain ⟨⟨p, fe, hR⟩, hTx, hRw, hWg, hFe, hSh, hMk, W, H, K, hLn, hPt, hPs, hPr, hKp⟩ := hC
  obtain ⟨q, hq⟩ := id hPt
  obtain ⟨⟨⟨c, hc, k0⟩, ⟨h, hh, k1⟩, -, -⟩, c0, c1, -⟩ := hq.d
  obtain ⟨n, τ, hn, t1, t17, hτ⟩ := id hTx
  have hN := hLn.1.N36
  have hs : 4 * c + h < 4 * (W * H) := by omega
  obtain ⟨P, hP⟩ : ∃ P, P = fbd τ (min n 30) := ⟨_, rfl⟩
  obtain ⟨q1, q2, q3⟩ := fbd_ok τ (min n 30)
  rw [← hP] at q1 q2 q3
  have ewf := wf_c hg hR t1 hn (fun k hk => ⟨(hτ k hk).1, (hτ k hk).2.1⟩)
  rw [← hP] at ewf
  have est := stance_c (I := I) (c0.1.trans k0) (c1.1.trans k1)
  -- the model's reading, from any memory with the same text
  have model : ∀ (J : MI), Fr fLo I J → J 90 17 = I 90 17 → ∃ J' : MI, Fr fLo I J' ∧ J' 90 17 = 0 ∧ J' 1 1 = J 1 1 ∧ J' 3 1 = J 3 1 ∧ J' 90 1 = J 90 1 ∧ J' 90 18 = nI P ∧ ∀ X : Int32 → Int32 → MI → Option (Int32 × MI × ML), bnd2 (f_Mod_begins_I S1 (wI J 90 0 0) 90 30) (fun x2 I3 => bnd1 (l_Mod_look_12 g S1 R 90 x2 g I3) fun I15 => bnd1 (f_Mod_faultOf S1 I15 90 x2 30 1) fun x17 => X x2 x17 I15) = X (nI n) (if n ≤ 30 then (if P = n then 0 else -1 - nI P) else if P = 30 then -1 - nI 30 else if P < 30 then -1 - nI P else -1 - nI 30) J' := by
    intro J fJ j17
    have e0 := begins_c (a := 30) (I := wI J 90 0 0) (n := n) (by omega) ((wI_n (by omega)).trans (j17.trans t17)) hn
    obtain ⟨J', e, f1, r⟩ := ml12 (τ := τ) (x2 := nI n) (m := min n 30) (I := wI (wI (wI (wI J 90 0 0) 90 17 0) 90 18 0) 90 19 (nI (min n 30))) hg hR (by omega) (fun k hk => ⟨(hτ k (by omega)).1, by rw [wI_n (by omega), wI_n (by omega), wI_n (by omega), wI_n (by omega), fJ 95 k rfl]; exact (hτ k (by omega)).2.2⟩) wI_s (by rw [wI_n (by omega), wI_s])
    rw [← hP] at r
    have ef := faultOf_c (I := J') (n := n) (P := P) (gs := 1) r ((f1 90 19 rfl).trans wI_s) hn q1 (Or.inr rfl)
    refine ⟨J', ((((fJ.w rfl).w rfl).w rfl).w rfl).tr (f1.sub rfl), ?_, ?_, ?_, ?_, r, fun X => ?_⟩
    · rw [f1 90 17 rfl, wI_n (by omega), wI_n (by omega), wI_s]
    · rw [f1 1 1 rfl, wI_n (by omega), wI_n (by omega), wI_n (by omega), wI_n (by omega)]
    · rw [f1 3 1 rfl, wI_n (by omega), wI_n (by omega), wI_n (by omega), wI_n (by omega)]
    · rw [f1 90 1 rfl, wI_n (by omega), wI_n (by omega), wI_n (by omega), wI_n (by omega)]
    · rw [show f_Mod_begins_I S1 (wI J 90 0 0) 90 30 = _ from e0, bnd2_c, e, bnd1_c, ef, bnd1_c]
      congr 1
      simp
  by_cases hok : n ≤ 30 ∧ P = n
  · obtain ⟨hn30, hPn⟩ := hok
    rw [if_neg (by omega), if_pos hn30] at ewf
    -- both walks are alike, whatever the model's memory is
    have hwalk : ∀ J : MI, Fr fLo I J → ∃ s' i', s' < 4 * (W * H) ∧ l_GWL_look_23 S1 R I 0 (-1) g (nI (4 * c + h)) 0 0 = some (nI s', nI i') ∧ l_Mod_look_83 g S1 R J 90 (nI n) g (nI c) (nI h) 0 = some (nI (s' / 4), nI i') := by
      intro J fJ
      obtain ⟨s', i', r1, r2, r3⟩ := look_sim (x1 := -1) (J := J) hg hR hLn.1.1 hLn.1 hLn.2.2.1 (hLn.2.1.ag (fJ.ag rfl)) t1 hn (fun k hk => ⟨(hτ k hk).1, (hτ k hk).2.1, (fJ 95 k rfl).trans (hτ k hk).2.2, q2 k (by omega)⟩) g 0 (4 * c + h) (by omega) (by omega) hs
      rw [show (4 * c + h) / 4 = c by omega, show (4 * c + h) % 4 = h by omega] at r3
      exact ⟨s', i', r1, r2, r3⟩
    obtain ⟨s', i', hs', ew, -⟩ := hwalk I Fr.rf
    obtain ⟨fv, hfv⟩ : ∃ fv : Int32, fv = if K (s' / 4) = 1 then 1 else if K (s' / 4) = 3 then 2 else 0 := ⟨_, rfl⟩
    have fa : Fr fLo I (wI (wI I 3 1 0) 3 1 (nI 1)) := (Fr.w Fr.rf rfl).w rfl
    have fb : Fr fLo I (wI (wI (wI (wI I 3 1 0) 3 1 (nI 1)) 3 1 (nI 2)) 1 1 0) := (fa.w rfl).w rfl
    have efa := fate_in (hLn.1.ag (fa.ag rfl)) hR (show s' / 4 < W * H by omega)
    rw [← hfv] at efa
    obtain ⟨J', fJ, j17, j11, j31, j901, j18, eX⟩ := model _ fb (by rw [wI_n (by omega), wI_n (by omega), wI_n (by omega), wI_n (by omega)])
    obtain ⟨s2, i2, hs2, ew2, em⟩ := hwalk J' fJ
    rw [ew] at ew2
    have e12 : nI s' = nI s2 ∧ nI i' = nI i2 := by
      have := Option.some.inj ew2
      exact ⟨congrArg Prod.fst this, congrArg Prod.snd this⟩
    have es : s2 = s' := (eq32 (by omega) (by omega)).mp e12.1.symm
    subst es
    rw [← e12.2] at em
    have f1 : Fr fLo I (wI J' 90 1 0) := fJ.w rfl
    have f2 : Fr fLo I (wI (wI (wI J' 90 1 0) 90 1 (nI 1)) 90 1 (nI 2)) := (f1.w rfl).w rfl
    have f1b : Fr fLo I (wI (wI J' 90 1 0) 90 1 (nI 1)) := f1.w rfl
    have eend := endOf_c (hLn.1.2.2.1 (s2 / 4))
    rw [← hfv] at eend
    have h92 : wI (wI J' 90 1 0) 90 1 (nI 1) 92 (s2 / 4) = nI (K (s2 / 4)) := (f1b 92 _ rfl).trans (hLn.2.1.2.2.2.2.2 _ (by omega))
    refine ⟨nI (s2 / 4), wI (wI (wI (wI I 3 1 0) 3 1 (nI 1)) 3 1 (nI 2)) 1 1 0, wL (wL L 4 0 (nI i').toInt64) 4 1 fv.toInt64, wI (wI (wI J' 90 1 0) 90 1 (nI 1)) 90 1 (nI 2), wL (wL (wL (wL L 4 0 (nI i').toInt64) 4 1 fv.toInt64) 91 0 (nI i').toInt64) 91 1 fv.toInt64, ?_, ?_, ?_⟩
    · unfold f_GWL_look f_Numbers_begin f_Signs_empty
      rw [ewf, bnd1_c, r_0_3 hR, bnd1_c, t_64, asrt_pos rfl, est, bnd1_c, ifb_pos rfl, ew, bnd2_c, r_0_1 hR, bnd1_c, t_3, asrt_pos rfl, lt_c, bnd1_c, add_0 hR, bnd2_c, cellOf_c (by omega), bnd1_c, efa, bnd1_c, add_c (k := 1) hR wI_s (by omega), bnd2_c, bnd3_c, r_0_0 hR, bnd1_c, t_1, asrt_pos rfl, lt_c, bnd1_c, ifb_pos rfl, cellOf_c (by omega), bnd1_c, bnd1_c]
    · unfold f_Mod_look
      rw [lt_c, eX, if_pos hn30, if_pos hPn, ifb_pos (by decide), fJ 90 7 rfl, c0.2, k0, lt_c, fJ 90 8 rfl, c1.2, k1, lt_c, em, bnd2_c, lt_c, enters_0 hR, bnd2_c, r_90_5 hR, bnd1_c, t_92, asrt_pos rfl, asrt_pos (vir (by omega) (by omega)), cl32 (by omega), h92, eend, bnd1_c, enters_c (k := 1) hR wI_s (by omega), bnd2_c]
    · refine ⟨⟨_, _, hR⟩, ?_, ?_, hWg.imp fun _ h => h.imp fun _ h => h.ag (f2.ag rfl), hFe.imp fun _ h => h.ag (f2.ag rfl), hSh.ag (f2.ag rfl), hMk.imp fun _ h => h.ag (f2.ag rfl), W, H, K, hLn.ag (f2.ag rfl), hPt.imp fun _ h => h.ag (f2.ag rfl), hPs.imp fun _ h => h.imp fun _ h => h.imp fun _ h => h.ag (f2.ag rfl), hPr.imp fun _ h => h.imp fun _ h => h.imp fun _ h => h.ag (f2.ag rfl), hKp.ag (f2.ag rfl)⟩
      · exact Txt0 (by rw [wI_n (by omega), wI_n (by omega), wI_n (by omega), j11, wI_s]) (by rw [wI_n (by omega), wI_n (by omega), wI_n (by omega), j17])
      · refine ⟨2, fun k => if k = 0 then (nI i').toInt64 else fv.toInt64, by omega, ?_, wI_s, fun k hk => ?_⟩
        · rw [wI_n (by omega), wI_n (by omega), wI_n (by omega), j31, wI_n (by omega), wI_s]
        · have : k = 0 ∨ k = 1 := by omega
          rcases this with rfl | rfl
          · rw [wL_n (by omega), wL_n (by omega), wL_n (by omega), wL_s, wL_n (by omega), wL_s]
            exact ⟨rfl, rfl⟩
          · rw [wL_n (by omega), wL_n (by omega), wL_s, wL_s]
            exact ⟨rfl, rfl⟩
  · have ewf' : f_GWL_walkFault g S1 R I 0 = some (nI P) := by
      rw [ewf]
      by_cases hlt : P < min n 30
      · rw [if_pos hlt]
      · rw [if_neg hlt, if_neg (by omega), show P = 30 by omega]
        rfl
    have fb : Fr fLo I (wI I 1 1 0) := Fr.w Fr.rf rfl
    obtain ⟨J', fJ, j17, j11, j31, j901, j18, eX⟩ := model _ fb (wI_n (by omega))
    refine ⟨-1 - nI P, wI I 1 1 0, L, J', L, ?_, ?_, ?_⟩
    · unfold f_GWL_look f_Signs_empty
      rw [ewf', bnd1_c, r_0_3 hR, bnd1_c, t_64, asrt_pos rfl, est, bnd1_c, ifb_neg (nIm1 (by omega)), bnd3_c, r_0_0 hR, bnd1_c, t_1, asrt_pos rfl, lt_c, bnd1_c, ifb_neg (nIm1 (by omega)), bnd1_c]
    · unfold f_Mod_look
      have ev : (if n ≤ 30 then (if P = n then 0 else -1 - nI P) else if P = 30 then -1 - nI 30 else if P < 30 then -1 - nI P else -1 - nI 30) = -1 - nI P := by
        by_cases hn30 : n ≤ 30
        · rw [if_pos hn30, if_neg (fun z => hok ⟨hn30, z⟩)]
        · rw [if_neg hn30]
          by_cases e30 : P = 30
          · rw [if_pos e30, e30]
          · rw [if_neg e30, if_pos (by omega)]
      rw [lt_c, eX, ev, ifb_neg (neg_k P (by omega))]
    · refine ⟨⟨_, _, hR⟩, ?_, ?_, hWg.imp fun _ h => h.imp fun _ h => h.ag (fJ.ag rfl), hFe.imp fun _ h => h.ag (fJ.ag rfl), hSh.ag (fJ.ag rfl), hMk.imp fun _ h => h.ag (fJ.ag rfl), W, H, K, hLn.ag (fJ.ag rfl), hPt.imp fun _ h => h.ag (fJ.ag rfl), hPs.imp fun _ h => h.imp fun _ h => h.imp fun _ h => h.ag (fJ.ag rfl), hPr.imp fun _ h => h.imp fun _ h => h.imp fun _ h => h.ag (fJ.ag rfl), hKp.ag (fJ.ag rfl)⟩
      · exact Txt0 (by rw [j11, wI_s]) j17
      · obtain ⟨n', ρ, w1, w2, w3, w4⟩ := id hRw
        refine ⟨n', ρ, w1, ?_, ?_, w4⟩
        · rw [j31, wI_n (by omega)]; exact w2
        · rw [j901, wI_n (by omega)]; exact w3
end LL
