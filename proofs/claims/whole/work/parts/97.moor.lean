section MR'
variable {W H m n k G w r a b B P c : Nat} {K τ : Nat → Nat} {I I' J J' : MI} {L L' : ML} {R : MR} {p : Bool} {fe : Nat} {i j : Nat}
def qM (q : Nat → Int32) : Nat → Int32 := fun i => if i = 2 then q 2 else if i = 3 then q 3 else if i < 7 then 0 else -1
def fMr : FT := [(1, some 1), (60, some 0), (60, some 1), (60, some 5), (61, none), (62, none), (64, some 0), (64, some 1), (64, some 4), (64, some 5), (65, none), (77, some 6), (5, some 2), (53, none), (90, some 0), (90, some 17), (90, some 18), (90, some 19), (90, some 3), (90, some 4), (90, some 6), (90, some 42), (90, some 7), (90, some 8), (90, some 13), (90, some 14), (90, some 23), (92, none), (94, none), (96, none)]
theorem op_moor {g : Nat} (hg : 1000 ≤ g) (hB : B < 1000) (hC : Cp B I L R) : ∃ v I1 I2, f_GWL_moor g S1 R I 0 = some (v, I1) ∧ f_Mod_moor g S1 R I1 90 = some (v, I2) ∧ Cp (B + 1) I2 L R := by
  obtain ⟨⟨p, fe, hR⟩, hTx, hRw, hWg, hFe, hSh, hMk, W, H, K, hLn, hPt, hPs, hPr, hKp⟩ := hC
  obtain ⟨n, τ, hn, t1, t17, hτ⟩ := id hTx
  have hX : CX n τ I := ⟨hn, t1, fun k hk => ⟨(hτ k hk).1, (hτ k hk).2.1⟩⟩
  obtain ⟨ok, P, w, r, a1, a2, a3, a4⟩ := rows_c hg hR hX g 0 0 0 (by omega) (by omega) (Or.inl rfl) ⟨by omega, fun i hi => by omega, fun i hi => by omega⟩ (by omega)
  have efault : f_Land_faultOf g S1 R I 60 1 = some (if ok = true then -1 else nI P) := by
    unfold f_Land_faultOf
    exact a1
  -- the model's scan, from any memory with the same text
  have model : ∀ Ic : MI, (∀ k, k < n → Ic 95 k = I 95 k) → Ic 90 17 = nI n → ∃ (v1 v2 v3 v4 : Int32) (J' : MI), Fr [(96, none), (90, some 0), (90, some 17), (90, some 18), (90, some 19)] Ic J' ∧ J' 90 17 = 0 ∧ J' 90 19 = nI n ∧ (ok = false → J' 90 18 = nI P ∧ (v4 = 0 ∨ (v4 = 1 ∧ P < n))) ∧ (ok = true → v1 = nI (r * w) ∧ v2 = nI w ∧ v3 = nI r ∧ v4 = 1 ∧ J' 90 18 = nI n ∧ RK τ w r J') ∧
      ∀ X : Int32 → Int32 → Int32 → Int32 → MI → Option (Int32 × MI), bnd2 (f_Mod_begins_I S1 (wI Ic 90 0 0) 90 80) (fun x2 I3 => bnd5 (l_Mod_moor_24 g S1 R 90 g I3 0 0 0 1 1) X) = X v1 v2 v3 v4 J' := by
    intro Ic h95 h17
    have e0 := begins_c (a := 80) (I := wI Ic 90 0 0) (n := n) (by omega) ((wI_n (by omega)).trans h17) hn
    rw [Nat.min_eq_left hn] at e0
    obtain ⟨v1, v2, v3, v4, J', b1, b2, b3, b4⟩ := a4 (wI (wI (wI (wI Ic 90 0 0) 90 17 0) 90 18 0) 90 19 (nI n)) ⟨wI_s, by rw [wI_n (by omega), wI_s]; rfl, fun k hk => ⟨(hτ k hk).1, by rw [wI_n (by omega), wI_n (by omega), wI_n (by omega), wI_n (by omega), h95 k hk]; exact (hτ k hk).2.2⟩⟩ (fun i hi => by omega)
    rw [Nat.zero_mul] at b1
    refine ⟨v1, v2, v3, v4, J', ((((Fr.w Fr.rf rfl).w rfl).w rfl).w rfl).tr (b2.sub rfl), ?_, ?_, b3, b4, fun X => ?_⟩
    · rw [b2 90 17 rfl, wI_n (by omega), wI_n (by omega), wI_s]
    · rw [b2 90 19 rfl, wI_s]
    · rw [show f_Mod_begins_I S1 (wI Ic 90 0 0) 90 80 = _ from e0, bnd2_c, show l_Mod_moor_24 g S1 R 90 g (wI (wI (wI (wI Ic 90 0 0) 90 17 0) 90 18 0) 90 19 (nI n)) 0 0 0 1 1 = some (v1, v2, v3, v4, J') from b1, bnd5_c]
  cases ok
  · -- a fault
    rw [if_neg (by decide)] at efault
    obtain ⟨v1, v2, v3, v4, J', f1, j17, j19, b3, -, eX⟩ := model (wI I 1 1 0) (fun k _ => wI_n (by omega)) ((wI_n (by omega)).trans t17)
    obtain ⟨j18, b3⟩ := b3 rfl
    have f2 : Fr [(1, some 1), (96, none), (90, some 0), (90, some 17), (90, some 18), (90, some 19)] I J' := (Fr.w Fr.rf rfl).tr (f1.sub rfl)
    refine ⟨-1 - nI P, wI I 1 1 0, J', ?_, ?_, ?_⟩
    · unfold f_GWL_moor f_Signs_empty
      rw [r_0_2 hR, bnd1_c, r_0_0 hR, bnd1_c, t_60, asrt_pos rfl, efault, bnd1_c, ifb_neg (nIm1 (by omega)), bnd1_c, t_1, asrt_pos rfl, lt_c, bnd1_c, ifb_neg (nIm1 (by omega)), bnd1_c]
    · unfold f_Mod_moor
      rw [lt_c, eX]
      rcases b3 with rfl | ⟨rfl, hlt⟩
      · rw [ifb_pos rfl, j18, lt_c]
      · rw [ifb_neg (by decide), j19, j18, ifb_neg (by rw [le32 (by omega) (by omega)]; omega), lt_c]
    · refine ⟨⟨_, _, hR⟩, ?_, hRw.imp fun _ h => h.imp fun _ h => h.ag (f2.ag rfl) (fun _ _ _ => rfl), hWg.imp fun _ h => h.imp fun _ h => h.ag (f2.ag rfl), hFe.imp fun _ h => h.ag (f2.ag rfl), hSh.ag (f2.ag rfl), hMk.imp fun _ h => h.ag (f2.ag rfl), W, H, K, hLn.ag (f2.ag rfl), hPt.imp fun _ h => h.ag (f2.ag rfl), hPs.imp fun _ h => h.imp fun _ h => h.imp fun _ h => h.ag (f2.ag rfl), hPr.imp fun _ h => h.imp fun _ h => h.imp fun _ h => h.ag (f2.ag rfl), hKp.ag (f2.ag rfl)⟩
      exact Txt0 (by rw [f1 1 1 rfl, wI_s]) j17
  · -- a moor
    rw [if_pos rfl] at efault
    have hF := a3 rfl
    have hwr : 1 ≤ w * r ∧ w * r ≤ 36 := ⟨Nat.mul_pos hF.1.1 hF.2.1.1, Nat.mul_le_mul hF.1.2 hF.2.1.2⟩
    obtain ⟨q, hq⟩ := id hPt
    obtain ⟨qok, c0, c1, c2, c3, c4, c5, c6⟩ := hq.d
    have hN := hLn.1.N36
    obtain ⟨sn, nx, u, hs⟩ := id hPs
    obtain ⟨mo, o1, o2, o3⟩ := id hKp
    obtain ⟨I10, e10, f10, hLK, hLA, h605⟩ := landlearn_c hg hR hF hX
    have f14 : Fr fMr I (wI (wI (wI (wI I10 64 0 0) 64 1 0) 64 4 0) 64 5 0) := (((((f10.sub rfl).w rfl).w rfl).w rfl).w rfl)
    obtain ⟨⟨v17, I17⟩, e17, a17, b17, d17⟩ := wash_c (g := g) (I := wI (wI (wI (wI I10 64 0 0) 64 1 0) 64 4 0) 64 5 0) (q := q) hg hR (fun k hk => by rw [wI_n (by omega), wI_n (by omega), wI_n (by omega), wI_n (by omega), f10 65 k rfl]; exact (c6 k hk).1)
    simp only at a17 b17 d17
    obtain ⟨I29, e29, f29, g29⟩ := fill_c (I := wI (wI I17 77 6 0) 5 2 0) (g := g) (n := 3) (b := 53) (by omega) rfl (by omega) (-1)
    have fc : Fr [(60, some 0), (60, some 1), (60, some 5), (61, none), (62, none), (64, some 0), (64, some 1), (64, some 4), (64, some 5), (65, none), (77, some 6), (5, some 2), (53, none), (1, some 1)] I (wI I29 1 1 0) := ((((((((((f10.sub rfl).w rfl).w rfl).w rfl).w rfl).tr (b17.sub rfl)).w rfl).w rfl).tr (f29.sub rfl)).w rfl)
    have gc : Fr [(64, some 0), (64, some 1), (64, some 4), (64, some 5), (65, none), (77, some 6), (5, some 2), (53, none), (1, some 1)] I10 (wI I29 1 1 0) := ((((((((Fr.w Fr.rf rfl).w rfl).w rfl).w rfl).tr (b17.sub rfl)).w rfl).w rfl).tr (f29.sub rfl)).w rfl
    obtain ⟨v1, v2, v3, v4, J1, fJ1, j17, j19, -, b4, eX⟩ := model (wI I29 1 1 0) (fun k _ => fc 95 k rfl) ((fc 90 17 rfl).trans t17)
    obtain ⟨rfl, rfl, rfl, rfl, j18, hRK⟩ := b4 rfl
    obtain ⟨J2, e2, f2, g2⟩ := mo216 (m := r * w) hR (by rw [Nat.mul_comm]; exact hwr.2) g 0 (wI (wI J1 90 3 (nI w)) 90 4 (nI r)) (by omega) (by omega) (fun c hc => by omega)
    have fd : Fr fMr I J1 := (fc.sub rfl).tr (fJ1.sub rfl)
    have fe' : Fr fMr I J2 := ((fd.w rfl).w rfl).tr (f2.sub rfl)
    have f78 : Fr fMr I (wI J2 90 6 (nI (mo + 1))) := fe'.w rfl
    have h94 : ∀ k, k < 36 → wI J2 90 6 (nI (mo + 1)) 94 k = q (7 + k) := fun k hk => by
      rw [wI_n (by omega), f2 94 k rfl, wI_n (by omega), wI_n (by omega), fJ1 94 k rfl, fc 94 k rfl]
      exact (c6 k hk).2
    obtain ⟨⟨v80, J80⟩, e80, a80, b80, d80⟩ := clears_c (g := g) hg hR (I := wI J2 90 6 (nI (mo + 1))) (q := q) (Pok36 qok hN.2) h94
    simp only at a80 b80 d80
    have g1 : Fr [(96, none), (90, some 0), (90, some 17), (90, some 18), (90, some 19), (90, some 3), (90, some 4), (92, none), (90, some 6), (94, none)] (wI I29 1 1 0) J80 := (((((fJ1.sub rfl).w rfl).w rfl).tr (f2.sub rfl)).w rfl).tr (b80.sub rfl)
    -- the last memory, written out
    obtain ⟨Z, hZ⟩ : ∃ Z, Z = wI (wI (wI (wI (wI (wI J80 90 42 0) 90 7 0) 90 8 0) 90 13 0) 90 14 0) 90 23 0 := ⟨_, rfl⟩
    have fZ : Fr [(90, some 42), (90, some 7), (90, some 8), (90, some 13), (90, some 14), (90, some 23)] J80 Z := by
      rw [hZ]
      exact (((((Fr.w Fr.rf rfl).w rfl).w rfl).w rfl).w rfl).w rfl
    have fE : Fr fMr I Z := (((f78.tr (b80.sub rfl)).tr (fZ.sub rfl)))
    have gZ : Fr [(96, none), (90, some 0), (90, some 17), (90, some 18), (90, some 19), (90, some 3), (90, some 4), (92, none), (90, some 6), (94, none), (90, some 42), (90, some 7), (90, some 8), (90, some 13), (90, some 14), (90, some 23)] (wI I29 1 1 0) Z := (g1.sub rfl).tr (fZ.sub rfl)
    have h603 : ∀ a k, (a = 60 ∨ a = 61 ∨ a = 62) → Z a k = I10 a k := by
      intro a k ha
      rcases ha with rfl | rfl | rfl
      · rw [gZ 60 k (by simp [inF]), gc 60 k (by simp [inF])]
      · rw [gZ 61 k rfl, gc 61 k rfl]
      · rw [gZ 62 k rfl, gc 62 k rfl]
    have esz : f_Land_size S1 (wI I29 1 1 0) 60 = some (nI (w * r)) := by
      unfold f_Land_size
      rw [gc 60 0 rfl, gc 60 1 rfl, hLK.2.2.2.1, hLK.2.2.2.2.1, pk_mul, lt_c]
    refine ⟨nI (w * r), wI I29 1 1 0, Z, ?_, ?_, ?_⟩
    · unfold f_GWL_moor f_Signs_empty f_Party_begin f_Prints_forget f_Past_forget
      rw [r_0_2 hR, bnd1_c, r_0_0 hR, bnd1_c, t_60, asrt_pos rfl, efault, bnd1_c, ifb_pos rfl, e10, bnd1_c, r_0_3 hR, bnd1_c, t_64, asrt_pos rfl, lt_c, lt_c, lt_c, lt_c, bnd1_c, e17, bnd2_c, r_0_17 hR, bnd1_c, t_77, asrt_pos rfl, lt_c, lt_c, bnd2_c, r_0_4 hR, bnd1_c, t_5, asrt_pos rfl, lt_c, bnd1_c, r_0_13 hR, bnd1_c, e29, bnd1_c, bnd1_c, t_1, asrt_pos rfl, lt_c, bnd1_c, ifb_pos rfl, esz, bnd1_c, bnd1_c]
    · have h6 : J2 90 6 = nI mo := by
        rw [f2 90 6 rfl, wI_n (by omega), wI_n (by omega), fJ1 90 6 rfl, fc 90 6 rfl]
        exact o2
      unfold f_Mod_moor f_Mod_begins_II
      rw [lt_c, eX, ifb_neg (by decide), j19, j18, ifb_pos (by rw [le32 (by omega) (by omega)]; omega), lt_c, lt_c, show l_Mod_moor_216 S1 R 90 (nI (r * w)) g (wI (wI J1 90 3 (nI w)) 90 4 (nI r)) 0 = some J2 from e2, bnd1_c, h6, nI_1, lt_c, lt_c, e80, bnd2_c, lt_c, lt_c, lt_c, lt_c, lt_c, lt_c, bnd1_c, hZ, Nat.mul_comm]
    · refine ⟨⟨_, _, hR⟩, ?_, hRw.imp fun _ h => h.imp fun _ h => h.ag (fE.ag rfl) (fun _ _ _ => rfl), hWg.imp fun _ h => h.imp fun _ h => h.ag (fE.ag rfl), hFe.imp fun _ h => h.ag (fE.ag rfl), hSh.ag (fE.ag rfl), hMk.imp fun _ h => h.ag (fE.ag rfl), ?_⟩
      · refine Txt0 ?_ ?_
        · rw [gZ 1 1 rfl, wI_s]
        · rw [fZ 90 17 rfl, b80 90 17 rfl, wI_n (by omega), f2 90 17 rfl, wI_n (by omega), wI_n (by omega)]; exact j17
      · have z3 : Z 90 3 = nI w := by rw [fZ 90 3 rfl, b80 90 3 rfl, wI_n (by omega), f2 90 3 rfl, wI_n (by omega), wI_s]
        have z4 : Z 90 4 = nI r := by rw [fZ 90 4 rfl, b80 90 4 rfl, wI_n (by omega), f2 90 4 rfl, wI_s]
        have z6 : Z 90 6 = nI (mo + 1) := by rw [fZ 90 6 rfl, b80 90 6 rfl, wI_s]
        have z92 : ∀ c, c < w * r → Z 92 c = nI (KTm τ w r c) := by
          intro c hc
          rw [fZ 92 c rfl, b80 92 c rfl, wI_n (by omega), g2 c (by omega), if_pos (by rw [Nat.mul_comm]; exact hc), wI_n (by omega), wI_n (by omega)]
          obtain ⟨k1, k2, k3⟩ := cell_rc hF.1.1 hc
          have := hRK _ k1 _ k2
          rw [k3] at this
          rw [this]
          unfold KTm
          rw [if_pos hc]
        refine ⟨w, r, KTm τ w r, ⟨⟨hF.1, hF.2.1, KTm_lt hF, ?_, ?_, fun c hc => ?_⟩, ⟨hF.1, hF.2.1, KTm_lt hF, z3, z4, z92⟩, fun s hs => ?_, Or.inl ?_⟩, ⟨qM q, Ptyq ⟨⟨0, hwr.1, rfl⟩, ⟨0, by omega, rfl⟩, qok.2.2.1, fun k hk => Or.inl ?_⟩ ?_ ?_ ?_ ?_ ?_ ?_ (fun k hk => ⟨?_, ?_⟩)⟩, ⟨0, nx, u, Pst0 hs.2.1 ?_ ?_ ?_⟩, ⟨0, 0, fun _ => 0, by omega, by omega, ?_, ?_, fun z => absurd z (Nat.lt_irrefl 0), fun k hk => absurd hk (Nat.not_lt_zero k)⟩, ⟨mo + 1, by omega, z6, fun i hi => ⟨?_, Or.inl ⟨?_, ?_⟩⟩⟩⟩
        · rw [h603 60 0 (Or.inl rfl)]; exact hLK.2.2.2.1
        · rw [h603 60 1 (Or.inl rfl)]; exact hLK.2.2.2.2.1
        · rw [h603 61 c (Or.inr (Or.inl rfl))]; exact hLK.2.2.2.2.2 c hc
        · rw [h603 62 s (Or.inr (Or.inr rfl))]; exact hLA s hs
        · rw [h603 60 5 (Or.inl rfl)]; exact h605
        · unfold qM; rw [if_neg (by omega), if_neg (by omega), if_neg (by omega)]
        · refine ⟨?_, ?_⟩
          · rw [gZ 64 0 rfl, wI_n (by omega), f29 64 0 rfl, wI_n (by omega), wI_n (by omega), b17 64 0 rfl, wI_n (by omega), wI_n (by omega), wI_n (by omega), wI_s]; rfl
          · rw [hZ, wI_n (by omega), wI_n (by omega), wI_n (by omega), wI_n (by omega), wI_s]; rfl
        · refine ⟨?_, ?_⟩
          · rw [gZ 64 1 rfl, wI_n (by omega), f29 64 1 rfl, wI_n (by omega), wI_n (by omega), b17 64 1 rfl, wI_n (by omega), wI_n (by omega), wI_s]; rfl
          · rw [hZ, wI_n (by omega), wI_n (by omega), wI_n (by omega), wI_s]; rfl
        · exact ⟨(fE 64 2 rfl).trans c2.1, (fE 90 10 rfl).trans c2.2⟩
        · exact ⟨(fE 64 3 rfl).trans c3.1, (fE 90 12 rfl).trans c3.2⟩
        · refine ⟨?_, ?_⟩
          · rw [gZ 64 4 rfl, wI_n (by omega), f29 64 4 rfl, wI_n (by omega), wI_n (by omega), b17 64 4 rfl, wI_n (by omega), wI_s]; rfl
          · rw [hZ, wI_n (by omega), wI_n (by omega), wI_s]; rfl
        · refine ⟨?_, ?_⟩
          · rw [gZ 64 5 rfl, wI_n (by omega), f29 64 5 rfl, wI_n (by omega), wI_n (by omega), b17 64 5 rfl, wI_s]; rfl
          · rw [hZ, wI_n (by omega), wI_s]; rfl
        · unfold qM
          rw [if_neg (by omega), if_neg (by omega), if_neg (by omega), gZ 65 k rfl, wI_n (by omega), f29 65 k rfl, wI_n (by omega), wI_n (by omega)]
          exact d17 k hk
        · unfold qM
          rw [if_neg (by omega), if_neg (by omega), if_neg (by omega), fZ 94 k rfl]
          exact d80 k hk
        · rw [fE 5 1 rfl]; exact hs.2.2.1
        · rw [gZ 5 2 rfl, wI_n (by omega), f29 5 2 rfl, wI_s]
        · rw [hZ, wI_s]
        · rw [gZ 77 6 rfl, wI_n (by omega), f29 77 6 rfl, wI_n (by omega), wI_s]; rfl
        · rw [hZ, wI_n (by omega), wI_n (by omega), wI_n (by omega), wI_n (by omega), wI_n (by omega), wI_s]; rfl
        · rw [fE 121 i rfl]
          rcases (o3 i hi).1 with z | ⟨j, hj, z⟩
          · exact Or.inl z
          · exact Or.inr ⟨j, by omega, z⟩
        · rw [gZ 53 i rfl, wI_n (by omega)]
          exact g29 i hi
        · rw [fE 121 i rfl]
          rcases (o3 i hi).1 with z | ⟨j, hj, z⟩
          · rw [z]; exact fun e => nIm1 (by omega) e.symm
          · rw [z]; exact fun e => by have := (eq32 (by omega) (by omega)).mp e; omega
end MR'
