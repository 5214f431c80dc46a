section OG
variable {W H B n : Nat} {K τ : Nat → Nat} {I I' : MI} {L : ML} {R : MR} {p : Bool} {fe : Nat} {q : Nat → Int32}
theorem Pst_un {nx : Nat} {u : Nat → Nat → Int32} (hs : Pst W H (n + 1) nx u I) (h1 : I' 5 1 = nI ((nx + 19) % 20)) (h2 : I' 5 2 = nI n) (h3 : I' 90 23 = nI n) (hr : ∀ r, r < 20 → I' (7 + 2 * r) = I (7 + 2 * r) ∧ I' (8 + 2 * r) = I (8 + 2 * r)) (hp : I' 99 = I 99) :
    Pst W H n ((nx + 19) % 20) u I' := by
  obtain ⟨s1, s2, s3, s4, s5, s6⟩ := hs
  refine ⟨by omega, by omega, h1, h2, h3, fun j hj => ?_⟩
  obtain ⟨a, b, c⟩ := s6 j (by omega)
  have e : rgi n ((nx + 19) % 20) j = rgi (n + 1) nx j := by
    unfold rgi
    omega
  have := @rgi_lt (n + 1) nx j
  rw [e]
  refine ⟨a, b.to (fun k => ?_) (fun k => ?_), fun i hi h6 => ?_⟩
  · rw [(hr _ this).1]
  · rw [(hr _ this).2]
  · rw [hp]
    exact c i hi h6
theorem op_undo {g : Nat} (hg : 1000 ≤ g) (hC : Cp B I L R) : ∃ v I1 I2, f_GWL_undo S1 R I 0 = some (v, I1) ∧ f_Mod_undo g S1 R I1 90 = some (v, I2) ∧ Cp (B + 1) I2 L R := by
  obtain ⟨⟨p, fe, hR⟩, hTx, hRw, hWg, hFe, hSh, hMk, W, H, K, hLn, hPt, hPs, hPr, hKp⟩ := hC
  have f0 : Fr [(90, some 0)] I (wI I 90 0 0) := Fr.w Fr.rf rfl
  have fin : Cp (B + 1) (wI I 90 0 0) L R := by
    refine ⟨⟨_, _, hR⟩, hTx.imp fun _ h => h.imp fun _ h => h.ag (f0.ag rfl), hRw.imp fun _ h => h.imp fun _ h => h.ag (f0.ag rfl) (fun _ _ _ => rfl), hWg.imp fun _ h => h.imp fun _ h => h.ag (f0.ag rfl), hFe.imp fun _ h => h.ag (f0.ag rfl), hSh.ag (f0.ag rfl), hMk.imp fun _ h => h.ag (f0.ag rfl), W, H, K, hLn.ag (f0.ag rfl), hPt.imp fun _ h => h.ag (f0.ag rfl), hPs.imp fun _ h => h.imp fun _ h => h.imp fun _ h => h.ag (f0.ag rfl), hPr.imp fun _ h => h.imp fun _ h => h.imp fun _ h => h.ag (f0.ag rfl), hKp.ag (f0.ag rfl)⟩
  obtain ⟨q, hq⟩ := hPt
  obtain ⟨n, nx, u, hs⟩ := hPs
  have hs' := hs
  obtain ⟨s1, s2, s3, s4, s5, s6⟩ := hs
  cases n with
  | zero =>
    refine ⟨-1, I, _, ?_, ?_, fin⟩
    · unfold f_GWL_undo f_Past_recall
      rw [r_0_4 hR, bnd1_c, r_0_3 hR, bnd1_c, t_5, asrt_pos rfl, s4, ifb_pos (by decide), bnd2_c, ifb_pos rfl]; rfl
    · unfold f_Mod_undo
      rw [lt_c, wI_n (by omega), s5, ifb_pos (by decide)]
  | succ n =>
    have hr : rgi (n + 1) nx n = (nx + 19) % 20 := by unfold rgi; omega
    obtain ⟨ok, rq, mq⟩ := s6 n (by omega)
    rw [hr] at rq
    have hx : (nx + 19) % 20 < 20 := by omega
    generalize hN : (nx + 19) % 20 = r at *
    have hS := ringS r hx
    have hT := ringR hR hx
    have fa : Fr [(5, some 1)] I (wI I 5 1 (nI r)) := Fr.w Fr.rf rfl
    obtain ⟨I1, e1, a1, b1⟩ := takeFrom_c (I := wI I 5 1 (nI r)) (a := 64) (b := 7 + 2 * r) (ta := 65) (tb := 8 + 2 * r) t_64 hS.1 (r_64_6 hR) hT.2 t_65 hS.2 (by omega) (by omega) (by omega) (by omega) (rq.to (fun k => fa _ k (by simp [inF]; omega)) (fun k => fa _ k (by simp [inF]; omega)))
    have f1 : Fr [(5, some 1), (5, some 2), (64, none), (65, none)] I (wI I1 5 2 (nI n)) := ((fa.sub rfl).tr (a1.sub rfl)).w rfl
    have f2 : Fr [(5, some 1), (5, some 2), (64, none), (65, none), (90, some 0), (90, some 23)] I (wI (wI (wI I1 5 2 (nI n)) 90 0 0) 90 23 (nI n)) := ((f1.sub rfl).w rfl).w rfl
    obtain ⟨I3, e3, a3, b3⟩ := back_c hg hR (I := wI (wI (wI I1 5 2 (nI n)) 90 0 0) 90 23 (nI n)) (a := 99) (m := n) (q := u n) t_99 (by omega) (by omega) (by omega) (by omega) (fun i hi h6 => (f2 99 _ rfl).trans (mq i hi h6))
    have f13 : Fr [(90, none), (94, none)] (wI I1 5 2 (nI n)) I3 := ((Fr.w (Fr.w Fr.rf rfl) rfl)).tr (a3.sub rfl)
    have f3 : Fr ([(5, some 1), (5, some 2), (64, none), (65, none), (90, some 0), (90, some 23)] ++ fPM) I I3 := (f2.sub rfl).tr (a3.sub rfl)
    refine ⟨nI n, wI I1 5 2 (nI n), I3, ?_, ?_, ?_⟩
    · have e19 : ifb (nI nx = 0) (some 19) (some (nI nx - 1)) = some (nI r) := by
        by_cases h : nx = 0
        · rw [ifb_pos (by rw [h]; rfl), ← hN, h]; rfl
        · rw [ifb_neg (by rw [nI0, eq32 (by omega) (by omega)]; exact h), sub1 (by omega), show nx - 1 = r by omega]
      unfold f_GWL_undo f_Past_recall
      rw [r_0_4 hR, bnd1_c, r_0_3 hR, bnd1_c, t_5, asrt_pos rfl, s4, ifb_neg (by rw [nI0, eq32 (by omega) (by omega)]; omega), s3, e19, bnd1_c, lt_c, wI_s, ifb_neg (zn (by omega)), show (20 : Int32) = nI 20 from rfl, ifb_neg (by rw [le32 (by omega) (by omega)]; omega), r_5_0 hR, bnd1_c, lt_c, t_6, asrt_pos rfl,
        asrt_pos (vir hx (by omega)), cl32 (by omega), hT.1, bnd1_c, t_64, asrt_pos rfl, e1, bnd1_c, bnd1_c, a1 5 2 rfl, wI_n (by omega), s4, sub1 (by omega), lt_c, lt_c, bnd2_c, ifb_neg (by decide), Nat.add_sub_cancel, wI_s]
      rfl
    · unfold f_Mod_undo
      rw [lt_c, wI_n (by omega), f1 90 23 rfl, s5, ifb_neg (by rw [nI0, eq32 (by omega) (by omega)]; omega), sub1 (by omega), lt_c, lt_c, r_90_24 hR, bnd1_c, Nat.add_sub_cancel, wI_s, show (43 : Int32) = nI 43 from rfl, pk_mul, e3, bnd1_c, a3 90 23 rfl, wI_s, lt_c]
    · refine ⟨⟨_, _, hR⟩, hTx.imp fun _ h => h.imp fun _ h => h.ag (f3.ag rfl), hRw.imp fun _ h => h.imp fun _ h => h.ag (f3.ag rfl) (fun _ _ _ => rfl), hWg.imp fun _ h => h.imp fun _ h => h.ag (f3.ag rfl), hFe.imp fun _ h => h.ag (f3.ag rfl), hSh.ag (f3.ag rfl), hMk.imp fun _ h => h.ag (f3.ag rfl), W, H, K, hLn.ag (f3.ag rfl), ?_, ?_, hPr.imp fun _ h => h.imp fun _ h => h.imp fun _ h => h.ag (f3.ag rfl), hKp.ag (f3.ag rfl)⟩
      · exact ⟨u n, ok, b1.to (fun k => (f13 64 k rfl).trans (wI_n (by omega))) (fun k => (f13 65 k rfl).trans (wI_n (by omega))), b3⟩
      · refine ⟨n, r, u, ?_⟩
        have := Pst_un (I' := I3) hs' (by rw [hN, f13 5 1 rfl, wI_n (by omega), a1 5 1 rfl, wI_s]) (by rw [f13 5 2 rfl, wI_s]) (by rw [a3 90 23 rfl, wI_s]) (fun r' hr' => ⟨funext fun k => f3 _ k ?_, funext fun k => f3 _ k ?_⟩) (funext fun k => f3 99 k rfl)
        · rw [hN] at this
          exact this
        · simp [inF, fPM]; omega
        · simp [inF, fPM]; omega
theorem keptT : ∀ i, i < 3 → (52, i, 82 + 3 * i) ∈ tabR ∧ (82 + 3 * i, 6, 83 + 3 * i) ∈ tabR ∧ S1 (82 + 3 * i) = (5, 0) ∧ S1 (83 + 3 * i) = (20, 36) := by decide +kernel
theorem isPlace_c (x : Int32) : ((x < 0 ∨ nI 2 < x) ∧ f_GWL_isPlace x = some 0 ∧ f_Mod_in x.toInt64 0 2 = some 0) ∨ (∃ t, t < 3 ∧ x = nI t ∧ f_GWL_isPlace x = some 1 ∧ f_Mod_in x.toInt64 0 2 = some 1) := by
  rcases ix4 x 2 (by omega) with h | ⟨t, ht, rfl⟩
  · refine Or.inl ⟨h, ?_, in_f (b := 2) (y := nI 2) rfl h⟩
    unfold f_GWL_isPlace
    by_cases h0 : x < 0
    · rw [ifb_pos h0, bnd1_c, asrt_pos (Or.inl rfl)]
    · rw [ifb_neg h0, ifb_pos (show (3 : Int32) ≤ x from (le_gt (n := 2) (by omega)).mpr (h.resolve_left h0)), bnd1_c, asrt_pos (Or.inl rfl)]
  · refine Or.inr ⟨t, by omega, rfl, ?_, in_t (b := 2) (n := 2) rfl (by omega) (by omega)⟩
    unfold f_GWL_isPlace
    rw [ifb_neg (zn (by omega)), show (3 : Int32) = nI 3 from rfl, ifb_neg (by rw [le32 (by omega) (by omega)]; omega), bnd1_c, asrt_pos (Or.inr rfl)]
def fK : FT := [(82, none), (83, none), (85, none), (86, none), (88, none), (89, none)]
theorem fK_in {i k : Nat} (hi : i < 3) : inF fK (82 + 3 * i) k = true ∧ inF fK (83 + 3 * i) k = true := by
  have : i = 0 ∨ i = 1 ∨ i = 2 := by omega
  rcases this with rfl | rfl | rfl <;> exact ⟨rfl, rfl⟩
theorem op_keep {g : Nat} (hg : 1000 ≤ g) (hC : Cp B I L R) (x : Int32) : ∃ v I1 I2, f_GWL_keep S1 R I 0 x = some (v, I1) ∧ f_Mod_keep g S1 R I1 90 x = some (v, I2) ∧ Cp (B + 1) I2 L R := by
  obtain ⟨⟨p, fe, hR⟩, hTx, hRw, hWg, hFe, hSh, hMk, W, H, K, hLn, hPt, hPs, hPr, hKp⟩ := hC
  have f0 : Fr [(90, some 0)] I (wI I 90 0 0) := Fr.w Fr.rf rfl
  have fin : Cp (B + 1) (wI I 90 0 0) L R := by
    refine ⟨⟨_, _, hR⟩, hTx.imp fun _ h => h.imp fun _ h => h.ag (f0.ag rfl), hRw.imp fun _ h => h.imp fun _ h => h.ag (f0.ag rfl) (fun _ _ _ => rfl), hWg.imp fun _ h => h.imp fun _ h => h.ag (f0.ag rfl), hFe.imp fun _ h => h.ag (f0.ag rfl), hSh.ag (f0.ag rfl), hMk.imp fun _ h => h.ag (f0.ag rfl), W, H, K, hLn.ag (f0.ag rfl), hPt.imp fun _ h => h.ag (f0.ag rfl), hPs.imp fun _ h => h.imp fun _ h => h.imp fun _ h => h.ag (f0.ag rfl), hPr.imp fun _ h => h.imp fun _ h => h.imp fun _ h => h.ag (f0.ag rfl), hKp.ag (f0.ag rfl)⟩
  rcases isPlace_c x with ⟨-, e1, e2⟩ | ⟨i, hi, rfl, e1, e2⟩
  · refine ⟨0, I, _, ?_, ?_, fin⟩
    · unfold f_GWL_keep
      rw [e1, bnd1_c, ifb_pos rfl]
    · unfold f_Mod_keep
      rw [lt_c, e2, bnd1_c, ifb_pos rfl]
  obtain ⟨q, hq⟩ := hPt
  obtain ⟨⟨⟨c, hc, k0⟩, -⟩, c0, -⟩ := hq.d
  have hN := hLn.1.N36
  obtain ⟨kt1, kt2, kt3, kt4⟩ := keptT i hi
  have hk4 := hLn.1.2.2.1 c
  obtain ⟨I1, r1, a1, b1⟩ := takeFrom_c (I := I) (a := 82 + 3 * i) (b := 64) (ta := 83 + 3 * i) (tb := 65) kt3 t_64 (hR.1 _ kt2) (r_64_6 hR) kt4 t_65 (by omega) (by omega) (by omega) (by omega) hq.2.1
  have fK1 : Fr fK I I1 := fun a k hk => a1 a k (by
    simp only [inF, List.any_cons, List.any_nil, Bool.or_false, Bool.or_eq_false_iff, Bool.and_eq_false_iff, beq_eq_false_iff_ne]
    refine ⟨Or.inl fun e => ?_, Or.inl fun e => ?_⟩
    · rw [← e, (fK_in hi).1] at hk; cases hk
    · rw [← e, (fK_in hi).2] at hk; cases hk)
  have f1 : Fr (fK ++ [(53, none)]) I (wI I1 53 i (nI (K c))) := (fK1.sub rfl).w (by simp [inF])
  have f2 : Fr (fK ++ [(53, none), (90, some 0)]) I (wI (wI I1 53 i (nI (K c))) 90 0 0) := (f1.sub rfl).w rfl
  obtain ⟨I2, r2, a2, b2, d2⟩ := puts_c hg hR (a := 120) (m := i) (I := wI (wI I1 53 i (nI (K c))) 90 0 0) t_120 (by omega) (by omega) (by omega) (by omega) (hq.2.2.to2 (f2.ag rfl))
  obtain ⟨mo, o1, o2, o3⟩ := hKp
  have f3 : Fr (fK ++ [(53, none), (90, some 0), (120, none)]) I I2 := (f2.sub rfl).tr (a2.sub rfl)
  have f4 : Fr (fK ++ [(53, none), (90, some 0), (120, none), (121, none), (122, none)]) I (wI (wI I2 121 i (nI mo)) 122 i (nI (K c))) := ((f3.sub rfl).w (by simp [inF, fK])).w (by simp [inF, fK])
  have hM3 : LM W H K (wI I2 121 i (nI mo)) := hLn.2.1.ag (Fr.ag (l := fK ++ [(53, none), (90, some 0), (120, none), (121, none)]) ((f3.sub rfl).w (by simp [inF, fK])) rfl)
  refine ⟨1, wI I1 53 i (nI (K c)), wI (wI I2 121 i (nI mo)) 122 i (nI (K c)), ?_, ?_, ?_⟩
  · unfold f_GWL_keep
    rw [e1, bnd1_c, ifb_neg (by decide), r_0_12 hR, bnd1_c, t_52, asrt_pos rfl, asrt_pos (vir (by omega) (by omega)), cl32 (by omega), hR.1 _ kt1, bnd1_c, r_0_3 hR, bnd1_c, kt3, asrt_pos rfl, r1, bnd1_c, r_0_13 hR, bnd1_c, r_0_2 hR, bnd1_c, t_64, asrt_pos rfl, t_60, asrt_pos rfl,
      fK1 64 0 rfl, c0.1, k0, kindOf_in (hLn.1.ag (fK1.ag rfl)) hR hc, bnd1_c, t_53, asrt_pos rfl, asrt_pos (vir (by omega) (by omega)), lt_c]
  · unfold f_Mod_keep
    rw [lt_c, e2, bnd1_c, ifb_neg (by decide), r_90_51 hR, bnd1_c, show (43 : Int32) = nI 43 from rfl, pk_mul, r2, bnd1_c, r_90_52 hR, bnd1_c, f3 90 6 rfl, o2, lt_c, t_121, asrt_pos rfl, asrt_pos (vir (by omega) (by omega)), cl32 (by omega), lt_c, r_90_53 hR, bnd1_c, r_90_5 hR, bnd1_c, wI_n (by omega), f3 90 7 rfl, c0.2, k0, lt_c,
      t_92, asrt_pos rfl, asrt_pos (vir (by omega) (by omega)), lt_c, t_122, asrt_pos rfl, asrt_pos (vir (by omega) (by omega)), cl32 (by omega), hM3.2.2.2.2.2 c hc, lt_c]
  · refine ⟨⟨_, _, hR⟩, hTx.imp fun _ h => h.imp fun _ h => h.ag (f4.ag rfl), hRw.imp fun _ h => h.imp fun _ h => h.ag (f4.ag rfl) (fun _ _ _ => rfl), hWg.imp fun _ h => h.imp fun _ h => h.ag (f4.ag rfl), hFe.imp fun _ h => h.ag (f4.ag rfl), hSh.ag (f4.ag rfl), hMk.imp fun _ h => h.ag (f4.ag rfl), W, H, K, hLn.ag (f4.ag rfl), ?_, hPs.imp fun _ h => h.imp fun _ h => h.imp fun _ h => h.ag (f4.ag rfl), hPr.imp fun _ h => h.imp fun _ h => h.imp fun _ h => h.ag (f4.ag rfl), ?_⟩
    · exact ⟨q, hq.ag (f4.ag rfl)⟩
    · refine ⟨mo, by omega, (f4 90 6 rfl).trans o2, fun j hj => ?_⟩
      by_cases e : j = i
      · subst e
        refine ⟨Or.inr ⟨mo, Nat.le_refl _, by rw [wI_n (by omega), wI_s]⟩, Or.inr ⟨by rw [wI_n (by omega), wI_s], K c, hk4, ?_, wI_s, q, hq.1, b1.to (fun k => ?_) (fun k => ?_), fun k hk h6 => ?_⟩⟩
        · rw [wI_n (by omega), wI_n (by omega), a2 53 _ rfl, wI_n (by omega), wI_s]
        · rw [wI_n (by omega), wI_n (by omega), a2 _ k (by simp [inF]; omega), wI_n (by omega), wI_n (by omega)]
        · rw [wI_n (by omega), wI_n (by omega), a2 _ k (by simp [inF]; omega), wI_n (by omega), wI_n (by omega)]
        · rw [wI_n (by omega), wI_n (by omega)]
          exact d2 k hk h6
      · have q121 : wI (wI I2 121 i (nI mo)) 122 i (nI (K c)) 121 j = I 121 j := by rw [wI_n (by omega), wI_n (by omega), f3 121 j rfl]
        have q53 : wI (wI I2 121 i (nI mo)) 122 i (nI (K c)) 53 j = I 53 j := by rw [wI_n (by omega), wI_n (by omega), a2 53 j rfl, wI_n (by omega), wI_n (by omega), fK1 53 j rfl]
        have q122 : wI (wI I2 121 i (nI mo)) 122 i (nI (K c)) 122 j = I 122 j := by rw [wI_n (by omega), wI_n (by omega), f3 122 j rfl]
        rw [q121, q53, q122]
        refine ⟨(o3 j hj).1, ?_⟩
        rcases (o3 j hj).2 with h | ⟨y1, k, y2, y3, y4, q', y5, y6, y7⟩
        · exact Or.inl h
        · refine Or.inr ⟨y1, k, y2, y3, y4, q', y5, y6.to (fun k => ?_) (fun k => ?_), fun k hk h6 => ?_⟩
          · rw [wI_n (by omega), wI_n (by omega), a2 _ k (by simp [inF]; omega), wI_n (by omega), wI_n (by omega)]
            exact a1 _ k (by simp [inF]; omega)
          · rw [wI_n (by omega), wI_n (by omega), a2 _ k (by simp [inF]; omega), wI_n (by omega), wI_n (by omega)]
            exact a1 _ k (by simp [inF]; omega)
          · rw [wI_n (by omega), wI_n (by omega), b2 _ (by omega), f2 120 _ rfl]
            exact y7 k hk h6
theorem op_again {g : Nat} (hg : 1000 ≤ g) (hB : B < 1000) (hC : Cp B I L R) (x : Int32) : ∃ v I1 I2, f_GWL_again S1 R I 0 x = some (v, I1) ∧ f_Mod_again g S1 R I1 90 x = some (v, I2) ∧ Cp (B + 1) I2 L R := by
  obtain ⟨⟨p, fe, hR⟩, hTx, hRw, hWg, hFe, hSh, hMk, W, H, K, hLn, hPt, hPs, hPr, hKp⟩ := hC
  have f0 : Fr [(90, some 0)] I (wI I 90 0 0) := Fr.w Fr.rf rfl
  have fin : Cp (B + 1) (wI I 90 0 0) L R := by
    refine ⟨⟨_, _, hR⟩, hTx.imp fun _ h => h.imp fun _ h => h.ag (f0.ag rfl), hRw.imp fun _ h => h.imp fun _ h => h.ag (f0.ag rfl) (fun _ _ _ => rfl), hWg.imp fun _ h => h.imp fun _ h => h.ag (f0.ag rfl), hFe.imp fun _ h => h.ag (f0.ag rfl), hSh.ag (f0.ag rfl), hMk.imp fun _ h => h.ag (f0.ag rfl), W, H, K, hLn.ag (f0.ag rfl), hPt.imp fun _ h => h.ag (f0.ag rfl), hPs.imp fun _ h => h.imp fun _ h => h.imp fun _ h => h.ag (f0.ag rfl), hPr.imp fun _ h => h.imp fun _ h => h.imp fun _ h => h.ag (f0.ag rfl), hKp.ag (f0.ag rfl)⟩
  rcases isPlace_c x with ⟨-, e1, e2⟩ | ⟨i, hi, rfl, e1, e2⟩
  · refine ⟨0, I, _, ?_, ?_, fin⟩
    · unfold f_GWL_again
      rw [e1, bnd1_c, ifb_pos rfl]
    · unfold f_Mod_again
      rw [lt_c, e2, bnd1_c, ifb_pos rfl]
  obtain ⟨mo, o1, o2, o3⟩ := id hKp
  have hN := hLn.1.N36
  obtain ⟨kt1, kt2, kt3, kt4⟩ := keptT i hi
  rcases (o3 i hi).2 with ⟨h53, h121⟩ | ⟨h121, k, hk, h53, h122, q, ok, rq, mq⟩
  · refine ⟨0, I, _, ?_, ?_, fin⟩
    · unfold f_GWL_again
      rw [e1, bnd1_c, ifb_neg (by decide), r_0_13 hR, bnd1_c, t_53, asrt_pos rfl, asrt_pos (vir (by omega) (by omega)), cl32 (by omega), h53, ifb_pos rfl]
    · unfold f_Mod_again
      rw [lt_c, e2, bnd1_c, ifb_neg (by decide), r_90_52 hR, bnd1_c, t_121, asrt_pos rfl, asrt_pos (vir (by omega) (by omega)), cl32 (by omega), wI_n (by omega), wI_n (by omega), o2, ifb_neg h121]
  obtain ⟨⟨c, hc, k0⟩, -⟩ := id ok
  have hM0 : LM W H K (wI I 90 0 0) := hLn.2.1.ag (f0.ag rfl)
  have hK4 := hLn.1.2.2.1 c
  have m0 := mq 0 (by omega) (by omega)
  rw [Nat.add_zero] at m0
  by_cases he : K c = k
  rotate_left
  · refine ⟨0, I, _, ?_, ?_, fin⟩
    · unfold f_GWL_again
      rw [e1, bnd1_c, ifb_neg (by decide), r_0_13 hR, bnd1_c, t_53, asrt_pos rfl, asrt_pos (vir (by omega) (by omega)), cl32 (by omega), h53, ifb_neg (nIm1 (by omega)), r_0_2 hR, bnd1_c, r_0_12 hR, bnd1_c, t_52, asrt_pos rfl, asrt_pos (vir (by omega) (by omega)), hR.1 _ kt1, bnd1_c, kt3, asrt_pos rfl, t_60, asrt_pos rfl,
        rq.1.1, k0, kindOf_in hLn.1 hR hc, bnd1_c, asrt_pos (vir (by omega) (by omega)), ifb_neg (by rw [eq32 (by omega) (by omega)]; exact he)]
    · unfold f_Mod_again
      rw [lt_c, e2, bnd1_c, ifb_neg (by decide), r_90_52 hR, bnd1_c, t_121, asrt_pos rfl, asrt_pos (vir (by omega) (by omega)), cl32 (by omega), wI_n (by omega), wI_n (by omega), o2, ifb_pos h121, r_90_5 hR, bnd1_c, r_90_51 hR, bnd1_c, show (43 : Int32) = nI 43 from rfl, pk_mul, lt_c, t_120, asrt_pos rfl, asrt_pos (vir (by omega) (by omega)),
        cl32 (by omega), wI_n (by omega), m0, k0, lt_c, t_92, asrt_pos rfl, asrt_pos (vir (by omega) (by omega)), r_90_53 hR, bnd1_c, t_122, asrt_pos rfl, asrt_pos (vir (by omega) (by omega)), cl32 (by omega), hM0.2.2.2.2.2 c hc, wI_n (by omega), h122, ifb_neg (by rw [eq32 (by omega) (by omega)]; exact he)]
  obtain ⟨I1, r1, a1, b1⟩ := takeFrom_c (I := I) (a := 64) (b := 82 + 3 * i) (ta := 65) (tb := 83 + 3 * i) t_64 kt3 (r_64_6 hR) (hR.1 _ kt2) t_65 kt4 (by omega) (by omega) (by omega) (by omega) rq
  have f1 : Fr [(64, none), (65, none), (5, some 2)] I (wI I1 5 2 0) := (a1.sub rfl).w rfl
  have f2 : Fr [(64, none), (65, none), (5, some 2), (90, some 0)] I (wI (wI I1 5 2 0) 90 0 0) := (f1.sub rfl).w rfl
  have hM2 : LM W H K (wI (wI I1 5 2 0) 90 0 0) := hLn.2.1.ag (f2.ag rfl)
  obtain ⟨I3, r3, a3, b3⟩ := back_c hg hR (I := wI (wI I1 5 2 0) 90 0 0) (a := 120) (m := i) (q := q) t_120 (by omega) (by omega) (by omega) (by omega) (fun j hj h6 => (f2 120 _ rfl).trans (mq j hj h6))
  have f3 : Fr ([(64, none), (65, none), (5, some 2), (90, some 0), (90, some 23)] ++ fPM) I (wI I3 90 23 0) := ((f2.sub rfl).tr (a3.sub rfl)).w rfl
  have f13 : Fr [(90, none), (94, none)] (wI I1 5 2 0) (wI I3 90 23 0) := ((Fr.w Fr.rf rfl).tr (a3.sub rfl)).w rfl
  refine ⟨1, wI I1 5 2 0, wI I3 90 23 0, ?_, ?_, ?_⟩
  · unfold f_GWL_again f_Past_forget
    rw [e1, bnd1_c, ifb_neg (by decide), r_0_13 hR, bnd1_c, t_53, asrt_pos rfl, asrt_pos (vir (by omega) (by omega)), cl32 (by omega), h53, ifb_neg (nIm1 (by omega)), r_0_2 hR, bnd1_c, r_0_12 hR, bnd1_c, t_52, asrt_pos rfl, asrt_pos (vir (by omega) (by omega)), hR.1 _ kt1, bnd1_c, kt3, asrt_pos rfl, t_60, asrt_pos rfl,
      rq.1.1, k0, kindOf_in hLn.1 hR hc, bnd1_c, asrt_pos (vir (by omega) (by omega)), ifb_pos (by rw [he]), r_0_3 hR, bnd1_c, asrt_pos (vir (by omega) (by omega)), bnd1_c, t_64, asrt_pos rfl, r1, bnd1_c, r_0_4 hR, bnd1_c, t_5, asrt_pos rfl, lt_c, bnd1_c]
  · unfold f_Mod_again
    rw [lt_c, e2, bnd1_c, ifb_neg (by decide), r_90_52 hR, bnd1_c, t_121, asrt_pos rfl, asrt_pos (vir (by omega) (by omega)), cl32 (by omega), f2 121 _ rfl, f2 90 6 rfl, o2, ifb_pos h121, r_90_5 hR, bnd1_c, r_90_51 hR, bnd1_c, show (43 : Int32) = nI 43 from rfl, pk_mul, lt_c, t_120, asrt_pos rfl, asrt_pos (vir (by omega) (by omega)),
      cl32 (by omega), f2 120 _ rfl, m0, k0, lt_c, t_92, asrt_pos rfl, asrt_pos (vir (by omega) (by omega)), r_90_53 hR, bnd1_c, t_122, asrt_pos rfl, asrt_pos (vir (by omega) (by omega)), cl32 (by omega), hM2.2.2.2.2.2 c hc, f2 122 _ rfl, h122, ifb_pos (by rw [he]), r3, bnd1_c, lt_c]
  · refine ⟨⟨_, _, hR⟩, hTx.imp fun _ h => h.imp fun _ h => h.ag (f3.ag rfl), hRw.imp fun _ h => h.imp fun _ h => h.ag (f3.ag rfl) (fun _ _ _ => rfl), hWg.imp fun _ h => h.imp fun _ h => h.ag (f3.ag rfl), hFe.imp fun _ h => h.ag (f3.ag rfl), hSh.ag (f3.ag rfl), hMk.imp fun _ h => h.ag (f3.ag rfl), W, H, K, hLn.ag (f3.ag rfl), ?_, ?_, hPr.imp fun _ h => h.imp fun _ h => h.imp fun _ h => h.ag (f3.ag rfl), hKp.ag (f3.ag rfl)⟩
    · exact ⟨q, ok, b1.to (fun k => (f13 64 k rfl).trans (wI_n (by omega))) (fun k => (f13 65 k rfl).trans (wI_n (by omega))), b3.to2 (Fr.ag (l := [(90, some 23)]) (Fr.w Fr.rf rfl) rfl)⟩
    · obtain ⟨pn, nx, u, s1, s2, s3, -⟩ := hPs
      exact ⟨0, nx, u, Pst0 s2 ((f3 5 1 rfl).trans s3) (by rw [f13 5 2 rfl, wI_s]) wI_s⟩
end OG
