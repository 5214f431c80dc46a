section OD
variable {W H B n : Nat} {K τ : Nat → Nat} {I I' : MI} {L : ML} {R : MR} {p : Bool} {fe : Nat} {q : Nat → Int32}
def fRg : FT := [(5, some 1), (5, some 2)] ++ (List.range 40).map (fun i => (7 + i, none))
theorem rg_in {i k : Nat} (h : i < 40) : inF fRg (7 + i) k = true := by
  simp only [inF, fRg, List.any_eq_true, List.mem_append, List.mem_map, List.mem_range]
  exact ⟨(7 + i, none), Or.inr ⟨i, h, rfl⟩, by simp⟩
theorem Fr.rg {nx : Nat} (hx : nx < 20) (h : Fr [(7 + 2 * nx, none), (8 + 2 * nx, none), (5, some 1), (5, some 2)] I I') : Fr fRg I I' := fun a k hk => by
  refine h a k ?_
  have h1 : a ≠ 7 + 2 * nx := fun e => by rw [e, rg_in (by omega)] at hk; cases hk
  have h2 : a ≠ 8 + 2 * nx := fun e => by rw [e, show 8 + 2 * nx = 7 + (2 * nx + 1) by omega, rg_in (by omega)] at hk; cases hk
  have h3 : ¬ (a = 5 ∧ k = 1) := fun e => by rw [e.1, e.2] at hk; cases hk
  have h4 : ¬ (a = 5 ∧ k = 2) := fun e => by rw [e.1, e.2] at hk; cases hk
  simp only [inF, List.any_cons, List.any_nil, Bool.or_false, Bool.or_eq_false_iff, Bool.and_eq_false_iff, beq_eq_false_iff_ne]
  refine ⟨Or.inl (fun e => h1 e.symm), Or.inl (fun e => h2 e.symm), ?_, ?_⟩
  · by_cases e : a = 5
    · right
      simp only [Option.some.injEq, ne_eq]
      exact ⟨by simp, fun z => h3 ⟨e, z.symm⟩⟩
    · exact Or.inl (fun z => e z.symm)
  · by_cases e : a = 5
    · right
      simp only [Option.some.injEq, ne_eq]
      exact ⟨by simp, fun z => h4 ⟨e, z.symm⟩⟩
    · exact Or.inl (fun z => e z.symm)
theorem PM.to2 (h : PM q I) (hA : Ag fPM I I') : PM q I' := by
  obtain ⟨⟨h0, h1, h2, h3, h4, h5⟩, h6⟩ := h
  exact ⟨⟨(hA 90 7 rfl).trans h0, (hA 90 8 rfl).trans h1, (hA 90 10 rfl).trans h2, (hA 90 12 rfl).trans h3, (hA 90 13 rfl).trans h4, (hA 90 14 rfl).trans h5⟩, fun k hk => (hA 94 k rfl).trans (h6 k hk)⟩
theorem Pst_mk {nx : Nat} {u : Nat → Nat → Int32} (hs : Pst W H n nx u I) (hq : Pok W H q) (h1 : I' 5 1 = nI ((nx + 1) % 20)) (h2 : I' 5 2 = nI (pn1 n)) (h3 : I' 90 23 = nI (pn1 n))
    (hr : ∀ j, j < pn1 n → PR (7 + 2 * rgi (pn1 n) ((nx + 1) % 20) j) (8 + 2 * rgi (pn1 n) ((nx + 1) % 20) j) (pu1 n u q j) I') (hp : ∀ j, j < pn1 n → PS 99 j (pu1 n u q j) I') : Pst W H (pn1 n) ((nx + 1) % 20) (pu1 n u q) I' := by
  refine ⟨?_, Nat.mod_lt _ (by decide), h1, h2, h3, fun j hj => ⟨?_, hr j hj, hp j hj⟩⟩
  · unfold pn1
    split <;> omega
  · unfold pu1
    by_cases e : j = pn1 n - 1
    · rw [if_pos e]; exact hq
    · rw [if_neg e]
      unfold pn1 at hj e
      by_cases hn : n < 20
      · rw [if_pos hn] at hj e ⊢
        exact (hs.2.2.2.2.2 j (by omega)).1
      · rw [if_neg hn] at hj e ⊢
        have := hs.1
        exact (hs.2.2.2.2.2 (j + 1) (by omega)).1
theorem rem_c (hR : RG p fe R) {nx : Nat} {u : Nat → Nat → Int32} (hs : Pst W H n nx u I) (hq : Pty W H q I) :
    wpo (f_Past_remember S1 R I 5 64) (fun I' => Fr fRg I I' ∧ I' 5 1 = nI ((nx + 1) % 20) ∧ I' 5 2 = nI (pn1 n) ∧
      ∀ j, j < pn1 n → PR (7 + 2 * rgi (pn1 n) ((nx + 1) % 20) j) (8 + 2 * rgi (pn1 n) ((nx + 1) % 20) j) (pu1 n u q j) I') := by
  obtain ⟨s1, s2, s3, s4, s5, s6⟩ := hs
  refine wpo_mono (remember_c hR s1 s2 s3 s4 hq.2.1 (fun j hj => (s6 j hj).2.1)) ?_
  rintro I' ⟨a, b, c, d⟩
  exact ⟨a.rg s2, b, c, d⟩
/-- the ring's rows stay under what does not touch them -/
theorem ring_to {l : FT} {N nx : Nat} {u : Nat → Nat → Int32} (h : ∀ j, j < N → PR (7 + 2 * rgi N nx j) (8 + 2 * rgi N nx j) (u j) I) (hf : Fr l I I') (hd : dsj l fRg = true) :
    ∀ j, j < N → PR (7 + 2 * rgi N nx j) (8 + 2 * rgi N nx j) (u j) I' := fun j hj => by
  have := @rgi_lt N nx j
  refine (h j hj).to (fun k => hf _ k (dsj_no hd (rg_in (by omega)))) (fun k => ?_)
  rw [show 8 + 2 * rgi N nx j = 7 + (2 * rgi N nx j + 1) by omega]
  exact hf _ k (dsj_no hd (rg_in (by omega)))
theorem ps_to {l : FT} {N : Nat} {u : Nat → Nat → Int32} (h : ∀ j, j < N → PS 99 j (u j) I) (hf : Fr l I I') (hd : dsj l [(99, none)] = true) : ∀ j, j < N → PS 99 j (u j) I' := fun j hj i hi h6 => by
  rw [hf 99 _ (dsj_no hd rfl)]
  exact h j hj i hi h6
theorem isTurn_c (x : Int32) : ((x < 0 ∨ nI 2 < x) ∧ f_GWL_isTurn x = some 0 ∧ f_Mod_isTurn x = some 0) ∨ (∃ t, t < 3 ∧ x = nI t ∧ f_GWL_isTurn x = some 1 ∧ f_Mod_isTurn x = some 1) := by
  rcases ix4 x 2 (by omega) with h | ⟨t, ht, rfl⟩
  · refine Or.inl ⟨h, ?_, ?_⟩
    · unfold f_GWL_isTurn
      by_cases h0 : x < 0
      · rw [ifb_pos h0, bnd1_c, asrt_pos (Or.inl rfl)]
      · rw [ifb_neg h0, ifb_pos (show (3 : Int32) ≤ x from (le_gt (n := 2) (by omega)).mpr (h.resolve_left h0)), bnd1_c, asrt_pos (Or.inl rfl)]
    · unfold f_Mod_isTurn
      rw [in_f (b := 2) (y := nI 2) rfl h, bnd1_c, asrt_pos (Or.inl rfl)]
  · refine Or.inr ⟨t, by omega, rfl, ?_, ?_⟩
    · unfold f_GWL_isTurn
      rw [ifb_neg (zn (by omega)), show (3 : Int32) = nI 3 from rfl, ifb_neg (by rw [le32 (by omega) (by omega)]; omega), bnd1_c, asrt_pos (Or.inr rfl)]
    · unfold f_Mod_isTurn
      rw [in_t (b := 2) (n := 2) rfl (by omega) (by omega), bnd1_c, asrt_pos (Or.inr rfl)]
theorem isOver_c (h : LKc W H K I) (hR : RG p fe R) {c : Nat} (hc : c < W * H) (h0 : I 64 0 = nI c) : f_GWL_isOver S1 R I 0 = some (eb (K c)) := by
  unfold f_GWL_isOver
  rw [r_0_2 hR, bnd1_c, r_0_3 hR, bnd1_c, t_64, asrt_pos rfl, t_60, asrt_pos rfl, h0, endsAt_in h hR hc, bnd1_c, asrt_pos (eb01 _)]
def fS1 : FT := [(64, none), (65, none)]
def fS2 : FT := [(90, none), (94, none), (99, none)]
theorem op_step {g : Nat} (hg : 1000 ≤ g) (hC : Cp B I L R) (x : Int32) : ∃ v I1 I2, f_GWL_step S1 R I 0 x = some (v, I1) ∧ f_Mod_step g S1 R I1 90 x = some (v, I2) ∧ Cp (B + 1) I2 L R := by
  obtain ⟨⟨p, fe, hR⟩, hTx, hRw, hWg, hFe, hSh, hMk, W, H, K, hLn, hPt, hPs, hPr, hKp⟩ := hC
  have f0 : Fr [(90, some 0)] I (wI I 90 0 0) := Fr.w Fr.rf rfl
  have fin : Cp (B + 1) (wI I 90 0 0) L R := by
    refine ⟨⟨_, _, hR⟩, hTx.imp fun _ h => h.imp fun _ h => h.ag (f0.ag rfl), hRw.imp fun _ h => h.imp fun _ h => h.ag (f0.ag rfl) (fun _ _ _ => rfl), hWg.imp fun _ h => h.imp fun _ h => h.ag (f0.ag rfl), hFe.imp fun _ h => h.ag (f0.ag rfl), hSh.ag (f0.ag rfl), hMk.imp fun _ h => h.ag (f0.ag rfl), W, H, K, hLn.ag (f0.ag rfl), hPt.imp fun _ h => h.ag (f0.ag rfl), hPs.imp fun _ h => h.imp fun _ h => h.imp fun _ h => h.ag (f0.ag rfl), hPr.imp fun _ h => h.imp fun _ h => h.imp fun _ h => h.ag (f0.ag rfl), hKp.ag (f0.ag rfl)⟩
  rcases isTurn_c x with ⟨-, e1, e2⟩ | ⟨t, ht, rfl, e1, e2⟩
  · refine ⟨-1, I, _, ?_, ?_, fin⟩
    · unfold f_GWL_step
      rw [e1, bnd1_c, ifb_pos rfl]
    · unfold f_Mod_step
      rw [lt_c, e2, bnd1_c, ifb_pos rfl]
  obtain ⟨q, hq⟩ := hPt
  obtain ⟨pn, nx, u, hs⟩ := hPs
  obtain ⟨⟨⟨c, hc, k0⟩, ⟨h, hh, k1⟩, -⟩, c0, -⟩ := hq.d
  have hcl := hLn.1
  by_cases he : isE (K c) = true
  · have heb : eb (K c) = 1 := by unfold eb; rw [he]; rfl
    refine ⟨-2, I, _, ?_, ?_, fin⟩
    · unfold f_GWL_step
      rw [e1, bnd1_c, ifb_neg (by decide), isOver_c hcl hR hc (c0.1.trans k0), bnd1_c, heb, ifb_neg (by decide)]
    · unfold f_Mod_step
      rw [lt_c, e2, bnd1_c, ifb_neg (by decide), wI_n (by omega), c0.2, k0, isEnd_in (hLn.2.1.ag (f0.ag rfl)) hR hc, bnd1_c, heb, ifb_neg (by decide)]
  have heb : eb (K c) = 0 := by unfold eb; rw [if_neg he]
  obtain ⟨I1, r1, a1, b1, b2, b3⟩ := rem_c hR hs hq
  obtain ⟨I2, r2, a2, d2⟩ := tread_c (hcl.ag (a1.ag rfl)) (hLn.2.2.1.ag (a1.ag rfl)) hR (hq.2.1.to (fun k => a1 64 k rfl) (fun k => a1 65 k rfl)) hc hh k0 k1 ht
  have f12 : Fr (fRg ++ fS1) I I2 := (a1.sub rfl).tr (a2.sub rfl)
  have f02 : Fr (fRg ++ fS1 ++ [(90, some 0)]) I (wI I2 90 0 0) := (f12.sub rfl).w rfl
  have hM2 : LM W H K (wI I2 90 0 0) := hLn.2.1.ag (f02.ag rfl)
  have hPM : PM q (wI I2 90 0 0) := hq.2.2.to2 (f02.ag rfl)
  obtain ⟨I3, r3, a3, b4, b5⟩ := putsBy_c hg hR (I := wI I2 90 0 0) (u := u) hs.1 (by rw [f02 90 23 rfl]; exact hs.2.2.2.2.1) hPM (ps_to (fun j hj => (hs.2.2.2.2.2 j hj).2.2) f02 rfl)
  obtain ⟨⟨v, I4⟩, r4, v4, a4, d4⟩ := steps_c (hM2.ag (a3.ag rfl)) hR (hPM.to2 (a3.ag rfl)) hc hh k0 k1 ht
  have f24 : Fr fS2 I2 I4 := ((Fr.w Fr.rf rfl).tr (a3.sub rfl)).tr (a4.sub rfl)
  have f04 : Fr (fRg ++ fS1 ++ [(90, some 0), (99, none), (90, some 23), (90, some 7), (90, some 8), (90, some 13), (94, none)]) I I4 := ((f02.sub rfl).tr (a3.sub rfl)).tr (a4.sub rfl)
  refine ⟨v, I2, I4, ?_, ?_, ?_⟩
  · unfold f_GWL_step
    rw [e1, bnd1_c, ifb_neg (by decide), isOver_c hcl hR hc (c0.1.trans k0), bnd1_c, heb, ifb_pos rfl, r_0_4 hR, bnd1_c, r_0_3 hR, bnd1_c, t_5, asrt_pos rfl, r1, bnd1_c, r_0_2 hR, bnd1_c, t_64, asrt_pos rfl, r2, bnd1_c, lt_c, d2.1.1, show v = nI _ from v4]
    rfl
  · unfold f_Mod_step
    rw [lt_c, e2, bnd1_c, ifb_neg (by decide), hPM.1.1, k0, isEnd_in hM2 hR hc, bnd1_c, heb, ifb_pos rfl, r3, bnd1_c, r4]
    rfl
  · refine ⟨⟨_, _, hR⟩, hTx.imp fun _ h => h.imp fun _ h => h.ag (f04.ag rfl), hRw.imp fun _ h => h.imp fun _ h => h.ag (f04.ag rfl) (fun _ _ _ => rfl), hWg.imp fun _ h => h.imp fun _ h => h.ag (f04.ag rfl), hFe.imp fun _ h => h.ag (f04.ag rfl), hSh.ag (f04.ag rfl), hMk.imp fun _ h => h.ag (f04.ag rfl), W, H, K, hLn.ag (f04.ag rfl), ?_, ?_, hPr.imp fun _ h => h.imp fun _ h => h.imp fun _ h => h.ag (f04.ag rfl), hKp.ag (f04.ag rfl)⟩
    · have hlt := @aft_lt W H K hcl.1 (4 * c + h) t (by omega)
      exact ⟨_, trd_ok hq.1 (by omega) (by omega), d2.to (fun k => f24 64 k rfl) (fun k => f24 65 k rfl), d4⟩
    · exact ⟨_, _, _, Pst_mk hs hq.1 ((f24 5 1 rfl).trans ((a2 5 1 rfl).trans b1)) ((f24 5 2 rfl).trans ((a2 5 2 rfl).trans b2)) ((a4 90 23 rfl).trans b4) (ring_to (ring_to b3 a2 rfl) f24 rfl) (ps_to b5 a4 rfl)⟩
end OD
