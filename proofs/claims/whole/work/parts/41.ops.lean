section OE
variable {W H B n : Nat} {K τ : Nat → Nat} {I I' : MI} {L : ML} {R : MR} {p : Bool} {fe : Nat} {q : Nat → Int32}
theorem PR_w {i : Nat} {r : Int32} (h : PR 64 65 q I) (hi : i < 6) : PR 64 65 (wq q i r) (wI I 64 i r) := by
  obtain ⟨⟨h0, h1, h2, h3, h4, h5⟩, h6⟩ := h
  have key : ∀ j, j < 6 → I 64 j = q j → wI I 64 i r 64 j = wq q i r j := fun j hj e => by
    by_cases ej : j = i
    · subst ej
      rw [wI_s, wq_s]
    · rw [wI_n (by omega), wq_n ej, e]
  exact ⟨⟨key 0 (by omega) h0, key 1 (by omega) h1, key 2 (by omega) h2, key 3 (by omega) h3, key 4 (by omega) h4, key 5 (by omega) h5⟩, fun k hk => by rw [wI_n (by omega), wq_n (by omega), h6 k hk]⟩
/-- where the reference keeps a party's number i -/
def pmk (i : Nat) : Nat := if i = 0 then 7 else if i = 1 then 8 else if i = 2 then 10 else if i = 3 then 12 else if i = 4 then 13 else 14
theorem PM_w {i : Nat} {r : Int32} (h : PM q I) (hi : i < 6) : PM (wq q i r) (wI I 90 (pmk i) r) := by
  obtain ⟨⟨h0, h1, h2, h3, h4, h5⟩, h6⟩ := h
  have ht : ∀ k, k < 36 → wI I 90 (pmk i) r 94 k = wq q i r (7 + k) := fun k hk => by rw [wI_n (by omega), wq_n (by omega), h6 k hk]
  have : i = 0 ∨ i = 1 ∨ i = 2 ∨ i = 3 ∨ i = 4 ∨ i = 5 := by omega
  refine ⟨?_, ht⟩
  rcases this with rfl | rfl | rfl | rfl | rfl | rfl
  · exact ⟨wI_s, (wI_n (by decide)).trans h1, (wI_n (by decide)).trans h2, (wI_n (by decide)).trans h3, (wI_n (by decide)).trans h4, (wI_n (by decide)).trans h5⟩
  · exact ⟨(wI_n (by decide)).trans h0, wI_s, (wI_n (by decide)).trans h2, (wI_n (by decide)).trans h3, (wI_n (by decide)).trans h4, (wI_n (by decide)).trans h5⟩
  · exact ⟨(wI_n (by decide)).trans h0, (wI_n (by decide)).trans h1, wI_s, (wI_n (by decide)).trans h3, (wI_n (by decide)).trans h4, (wI_n (by decide)).trans h5⟩
  · exact ⟨(wI_n (by decide)).trans h0, (wI_n (by decide)).trans h1, (wI_n (by decide)).trans h2, wI_s, (wI_n (by decide)).trans h4, (wI_n (by decide)).trans h5⟩
  · exact ⟨(wI_n (by decide)).trans h0, (wI_n (by decide)).trans h1, (wI_n (by decide)).trans h2, (wI_n (by decide)).trans h3, wI_s, (wI_n (by decide)).trans h5⟩
  · exact ⟨(wI_n (by decide)).trans h0, (wI_n (by decide)).trans h1, (wI_n (by decide)).trans h2, (wI_n (by decide)).trans h3, (wI_n (by decide)).trans h4, wI_s⟩
theorem Pok_w {r : Int32} (h : Pok W H q) {i : Nat} (hi : i = 3 ∨ i = 4 ∨ i = 5) : Pok W H (wq q i r) := by
  obtain ⟨b1, b2, b3, b4⟩ := h
  exact ⟨by rw [wq_n (by omega)]; exact b1, by rw [wq_n (by omega)]; exact b2, by rw [wq_n (by omega)]; exact b3, fun k hk => by rw [wq_n (by omega)]; exact b4 k hk⟩
theorem add_0 (hR : RG p fe R) (J : MI) (L : ML) (v : Int64) : f_Numbers_add S1 R (wI J 3 1 0) L 3 v = some (wI (wI J 3 1 0) 3 1 (nI 1), wL L 4 0 v) := add_c (I := wI J 3 1 0) hR (k := 0) (by rw [wI_s]; rfl) (by omega) v
theorem enters_0 (hR : RG p fe R) (J : MI) (L : ML) (v : Int64) : f_Mod_enters S1 R (wI J 90 1 0) L 90 v = some (wI (wI J 90 1 0) 90 1 (nI 1), wL L 91 0 v) := enters_c (I := wI J 90 1 0) hR (k := 0) (by rw [wI_s]; rfl) (by omega) v
theorem op_alone {g : Nat} (hg : 1000 ≤ g) (hC : Cp B I L R) : ∃ v I1 L1 I2 L2, f_GWL_alone S1 R I L 0 = some (v, I1, L1) ∧ f_Mod_alone g S1 R I1 L1 90 = some (v, I2, L2) ∧ Cp (B + 1) I2 L2 R := by
  obtain ⟨⟨p, fe, hR⟩, hTx, hRw, hWg, hFe, hSh, hMk, W, H, K, hLn, hPt, hPs, hPr, hKp⟩ := hC
  have f0 : Fr [(90, some 0)] I (wI I 90 0 0) := Fr.w Fr.rf rfl
  have fin : Cp (B + 1) (wI I 90 0 0) L R := by
    refine ⟨⟨_, _, hR⟩, hTx.imp fun _ h => h.imp fun _ h => h.ag (f0.ag rfl), hRw.imp fun _ h => h.imp fun _ h => h.ag (f0.ag rfl) (fun _ _ _ => rfl), hWg.imp fun _ h => h.imp fun _ h => h.ag (f0.ag rfl), hFe.imp fun _ h => h.ag (f0.ag rfl), hSh.ag (f0.ag rfl), hMk.imp fun _ h => h.ag (f0.ag rfl), W, H, K, hLn.ag (f0.ag rfl), hPt.imp fun _ h => h.ag (f0.ag rfl), hPs.imp fun _ h => h.imp fun _ h => h.imp fun _ h => h.ag (f0.ag rfl), hPr.imp fun _ h => h.imp fun _ h => h.imp fun _ h => h.ag (f0.ag rfl), hKp.ag (f0.ag rfl)⟩
  obtain ⟨q, hq⟩ := hPt
  obtain ⟨pn, nx, u, hs⟩ := hPs
  obtain ⟨w, hd, hw⟩ := hWg
  obtain ⟨⟨⟨c, hc, k0⟩, ⟨h, hh, k1⟩, -⟩, c0, -⟩ := hq.d
  have hcl := hLn.1
  by_cases he : isE (K c) = true
  · have heb : eb (K c) = 1 := by unfold eb; rw [he]; rfl
    refine ⟨-2, I, L, _, L, ?_, ?_, fin⟩
    · unfold f_GWL_alone
      rw [isOver_c hcl hR hc (c0.1.trans k0), bnd1_c, heb, ifb_neg (by decide)]
    · unfold f_Mod_alone
      rw [lt_c, wI_n (by omega), c0.2, k0, isEnd_in (hLn.2.1.ag (f0.ag rfl)) hR hc, bnd1_c, heb, ifb_neg (by decide)]
  have heb : eb (K c) = 0 := by unfold eb; rw [if_neg he]
  have ht := twt_lt w (dr10 (q 3))
  obtain ⟨I1, r1, a1, b1, b2, b3⟩ := rem_c hR hs hq
  have hq1 : PR 64 65 q I1 := hq.2.1.to (fun k => a1 64 k rfl) (fun k => a1 65 k rfl)
  have f1a : Fr (fRg ++ fS1) I (wI I1 64 3 (rn1 (q 3))) := (a1.sub rfl).w rfl
  obtain ⟨I2, r2, a2, d2⟩ := tread_c (hcl.ag (f1a.ag rfl)) (hLn.2.2.1.ag (f1a.ag rfl)) hR (PR_w (i := 3) (r := rn1 (q 3)) hq1 (by omega)) hc hh ((wq_n (by omega)).trans k0) ((wq_n (by omega)).trans k1) ht
  have f12 : Fr (fRg ++ fS1) I I2 := (f1a.sub rfl).tr (a2.sub rfl)
  have fr : Fr [(3, some 1), (90, some 0)] I2 (wI (wI (wI I2 3 1 0) 3 1 (nI 1)) 90 0 0) := Fr.w (Fr.w (Fr.w Fr.rf rfl) rfl) rfl
  have f02 : Fr (fRg ++ fS1 ++ [(3, some 1), (90, some 0)]) I (wI (wI (wI I2 3 1 0) 3 1 (nI 1)) 90 0 0) := (f12.sub rfl).tr (fr.sub rfl)
  have hM2 : LM W H K (wI (wI (wI I2 3 1 0) 3 1 (nI 1)) 90 0 0) := hLn.2.1.ag (f02.ag rfl)
  have hPM : PM q (wI (wI (wI I2 3 1 0) 3 1 (nI 1)) 90 0 0) := hq.2.2.to2 (f02.ag rfl)
  obtain ⟨I3, r3, a3, b4, b5⟩ := putsBy_c hg hR (I := wI (wI (wI I2 3 1 0) 3 1 (nI 1)) 90 0 0) (u := u) hs.1 (by rw [f02 90 23 rfl]; exact hs.2.2.2.2.1) hPM (ps_to (fun j hj => (hs.2.2.2.2.2 j hj).2.2) f02 rfl)
  have hPM3 : PM q I3 := hPM.to2 (a3.ag rfl)
  have f4 : Fr [(90, some 12), (90, some 1)] I3 (wI (wI (wI I3 90 12 (rn1 (q 3))) 90 1 0) 90 1 (nI 1)) := Fr.w (Fr.w (Fr.w Fr.rf rfl) rfl) rfl
  have hPM4 : PM (wq q 3 (rn1 (q 3))) (wI (wI (wI I3 90 12 (rn1 (q 3))) 90 1 0) 90 1 (nI 1)) := (PM_w (i := 3) (r := rn1 (q 3)) hPM3 (by omega)).to2 (Fr.ag (l := [(90, some 1)]) (Fr.w (Fr.w Fr.rf rfl) rfl) rfl)
  obtain ⟨⟨v, I4⟩, r4, v4, a4, d4⟩ := steps_c ((hM2.ag (a3.ag rfl)).ag (f4.ag rfl)) hR hPM4 hc hh ((wq_n (by omega)).trans k0) ((wq_n (by omega)).trans k1) ht
  have v4' : v = nI _ := v4
  simp only at a4 d4
  have f24 : Fr ([(3, some 1)] ++ fS2) I2 I4 := ((fr.sub rfl).tr (a3.sub rfl)).tr ((f4.sub rfl).tr (a4.sub rfl))
  have f04 : Fr (fRg ++ fS1 ++ [(3, some 1), (90, some 0), (90, some 1), (90, some 12), (99, none), (90, some 23), (90, some 7), (90, some 8), (90, some 13), (94, none)]) I I4 := ((f02.sub rfl).tr (a3.sub rfl)).tr ((f4.sub rfl).tr (a4.sub rfl))
  have hw1 : Wgt w hd I1 := hw.ag (a1.ag rfl)
  have hw3 : Wgt w hd I3 := (hw.ag (f02.ag rfl)).ag (a3.ag rfl)
  refine ⟨v, wI (wI I2 3 1 0) 3 1 (nI 1), wL L 4 0 (nI (twt w (dr10 (q 3)))).toInt64, I4, wL (wL L 4 0 (nI (twt w (dr10 (q 3)))).toInt64) 91 0 (nI (twt w (dr10 (q 3)))).toInt64, ?_, ?_, ?_⟩
  · unfold f_GWL_alone f_Numbers_begin
    rw [isOver_c hcl hR hc (c0.1.trans k0), bnd1_c, heb, ifb_pos rfl, r_0_4 hR, bnd1_c, r_0_3 hR, bnd1_c, t_5, asrt_pos rfl, r1, bnd1_c, r_0_5 hR, bnd1_c, t_64, asrt_pos rfl, byW_c hw1, bnd2_c, hq1.1.2.2.2.1, r_0_2 hR, bnd1_c, r2, bnd1_c, r_0_1 hR, bnd1_c, t_3, asrt_pos rfl, lt_c, bnd1_c,
      add_0 hR, bnd2_c, lt_c, wI_n (by omega), wI_n (by omega), d2.1.1, v4']
    rfl
  · unfold f_Mod_alone
    rw [lt_c, hPM.1.1, k0, isEnd_in hM2 hR hc, bnd1_c, heb, ifb_pos rfl, r3, bnd1_c, byWm_c hR hw3, bnd2_c, hPM3.1.2.2.2.1, lt_c, enters_0 hR, bnd2_c, r4]
    rfl
  · refine ⟨⟨_, _, hR⟩, hTx.imp fun _ h => h.imp fun _ h => h.ag (f04.ag rfl), ?_, ?_, hFe.imp fun _ h => h.ag (f04.ag rfl), hSh.ag (f04.ag rfl), hMk.imp fun _ h => h.ag (f04.ag rfl), W, H, K, hLn.ag (f04.ag rfl), ?_, ?_, hPr.imp fun _ h => h.imp fun _ h => h.imp fun _ h => h.ag (f04.ag rfl), hKp.ag (f04.ag rfl)⟩
    · refine ⟨1, fun _ => (nI (twt w (dr10 (q 3)))).toInt64, by omega, ?_, ?_, fun k hk => ?_⟩
      · rw [a4 3 1 rfl, f4 3 1 rfl, a3 3 1 rfl, wI_n (by omega), wI_s]
      · rw [a4 90 1 rfl, wI_s]
      · have : k = 0 := by omega
        subst this
        exact ⟨by rw [wL_n (by omega), wL_s], wL_s⟩
    · exact ⟨w, hd, hw.ag (f04.ag rfl)⟩
    · have hlt := @aft_lt W H K hcl.1 (4 * c + h) (twt w (dr10 (q 3))) (by omega)
      exact ⟨_, trd_ok (Pok_w hq.1 (Or.inl rfl)) (by omega) (by omega), d2.to (fun k => f24 64 k rfl) (fun k => f24 65 k rfl), d4⟩
    · exact ⟨_, _, _, Pst_mk hs hq.1 ((f24 5 1 rfl).trans ((a2 5 1 rfl).trans ((wI_n (by omega)).trans b1))) ((f24 5 2 rfl).trans ((a2 5 2 rfl).trans ((wI_n (by omega)).trans b2))) ((a4 90 23 rfl).trans ((f4 90 23 rfl).trans b4))
        (ring_to (ring_to (ring_to b3 (Fr.w (l := [(64, some 3)]) Fr.rf rfl) rfl) a2 rfl) f24 rfl) (ps_to (ps_to b5 f4 rfl) a4 rfl)⟩
end OE
