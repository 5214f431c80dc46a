section OK
variable {W H m s0 n k hd h0 N b q c h vv vo B : Nat} {K w : Nat → Nat} {l e : Nat → Int} {fs fa : Int} {I I' J : MI} {L L' L0 M : ML} {R : MR} {p : Bool} {fe : Nat}
def pl (a : Int × Int × Nat) : Prop := a.1 = a.2.1
theorem pick_pl {a b : Int × Int × Nat} (ha : pl a) (hb : pl b) : pl (pick a b) ∧ (pick a b).2.2 = if a.1 < b.1 then b.2.2 else a.2.2 := by
  unfold pl at *
  unfold pick
  by_cases h1 : a.1 < b.1
  · rw [if_pos h1, if_pos h1]; exact ⟨hb, rfl⟩
  · rw [if_neg h1, if_neg h1]
    by_cases h2 : a.1 = b.1
    · rw [if_pos h2, if_neg (by omega)]; exact ⟨ha, rfl⟩
    · rw [if_neg h2]; exact ⟨ha, rfl⟩
theorem V_pl : ∀ k s v, pl (V W H K w hd (lay K 0) 0 0 k s v) := by
  intro k
  induction k with
  | zero => intro s v; unfold V pl lay; simp
  | succ k ih =>
    intro s v
    by_cases he : isE (K (s / 4)) = true
    · unfold pl
      rw [(V_e he v).1, (V_e he v).2]
      unfold lay
      simp
    have hb : pl (base W H K w 0 (V W H K w hd (lay K 0) 0 0 k) k s v) := by
      unfold pl base
      simp only
      rw [bw_eq (fun r => ih r (min v k)), Int.zero_mul, Int.add_zero]
    have hc : ∀ t, pl (cand W H K w hd 0 0 (V W H K w hd (lay K 0) 0 0 k) k s v t) := by
      intro t
      unfold pl cand
      simp only
      have := ih (aft W H K s t) (v - 1)
      unfold pl at this
      rw [bw_eq (fun r => ih r (v - 1)), this]
      omega
    rw [V, if_neg he]
    by_cases hv : v = 0
    · rw [if_pos hv]; exact hb
    · rw [if_neg hv]
      exact (pick_pl (pick_pl (pick_pl hb (hc 0)).1 (hc 1)).1 (hc 2)).1
/-- what is best to do first: the model's row of candidates -/
theorem V_dir (hh : hd ≤ 10) (he : ¬ isE (K (s0 / 4)) = true) : ∃ a0 : Int × Int × Nat, pl a0 ∧ a0.2.2 = 3 ∧ a0.1 = wm W H K w hd 3 (fun r => mW W H K w hd (lay K 0) 1 k r vv) s0 ∧
    (vv = 0 → V W H K w hd (lay K 0) 0 0 (k + 1) s0 vv = a0) ∧ (vv ≠ 0 → ∃ cs : Nat → Int × Int × Nat, (∀ t, t < 3 → pl (cs t) ∧ (cs t).2.2 = t ∧ (cs t).1 = wm W H K w hd t (fun r => mW W H K w hd (lay K 0) 1 k r (vv - 1)) s0) ∧ V W H K w hd (lay K 0) 0 0 (k + 1) s0 vv = pick (pick (pick a0 (cs 0)) (cs 1)) (cs 2)) := by
  have ihm : ∀ r, (V W H K w hd (lay K 0) 0 0 k r (min vv k)).1 = mW W H K w hd (lay K 0) 1 k r vv := fun r => by rw [← V_min, V_mW hh (fun _ => rfl)]
  refine ⟨base W H K w 0 (V W H K w hd (lay K 0) 0 0 k) k s0 vv, ?_, rfl, ?_, fun hv => ?_, fun hv => ⟨cand W H K w hd 0 0 (V W H K w hd (lay K 0) 0 0 k) k s0 vv, fun t ht => ⟨?_, rfl, ?_⟩, ?_⟩⟩
  · unfold pl base
    simp only
    rw [bw_eq (fun r => V_pl k r (min vv k)), Int.zero_mul, Int.add_zero]
  · rw [wm3]
    unfold base
    simp only
    rw [bw_eq ihm, Int.zero_mul, Int.add_zero]
  · rw [V, if_neg he, if_pos hv]
  · unfold pl cand
    simp only
    have := V_pl (W := W) (H := H) (K := K) (w := w) (hd := hd) k (aft W H K s0 t) (vv - 1)
    unfold pl at this
    rw [bw_eq (fun r => V_pl k r (vv - 1)), this]
    omega
  · rw [wmt hh s0 ht]
    unfold cand
    simp only
    rw [bw_eq (fun r => V_mW hh (fun _ => rfl) k r (vv - 1)), V_mW hh (fun _ => rfl)]
    omega
  · rw [V, if_neg he, if_neg hv]
theorem in18 (x : Int32) : ((x < 1 ∨ nI 8 < x) ∧ f_Mod_in x.toInt64 1 8 = some 0) ∨ ∃ n, n < 8 ∧ x = nI (n + 1) ∧ f_Mod_in x.toInt64 1 8 = some 1 := by
  have t1 : (1 : Int64).toInt = 1 := rfl
  have t8 : (8 : Int64).toInt = 8 := rfl
  have s1 : (1 : Int32).toInt = 1 := rfl
  have l1 : lg_cmp x.toInt64 1 < 0 ↔ x < 1 := by rw [lg_cmp_lt, Int64.lt_iff_toInt_lt, Int32.lt_iff_toInt_lt, Int32.toInt_toInt64, t1, s1]
  have l8 : 0 < lg_cmp x.toInt64 8 ↔ nI 8 < x := by rw [lg_cmp_gt, Int64.lt_iff_toInt_lt, Int32.lt_iff_toInt_lt, Int32.toInt_toInt64, t8, tI_n (by omega)]; rfl
  by_cases h1 : x < 1
  · refine Or.inl ⟨Or.inl h1, ?_⟩
    unfold f_Mod_in
    rw [ifb_pos (l1.mpr h1), bnd1_c, asrt_pos (Or.inl rfl)]
  by_cases h8 : nI 8 < x
  · refine Or.inl ⟨Or.inr h8, ?_⟩
    unfold f_Mod_in
    rw [ifb_neg (fun z => h1 (l1.mp z)), ifb_pos (l8.mpr h8), bnd1_c, asrt_pos (Or.inl rfl)]
  rcases ix4 x 8 (by omega) with z | ⟨j, hj, rfl⟩
  · rcases z with z | z
    · exact absurd (by rw [Int32.lt_iff_toInt_lt] at z ⊢; rw [s1]; have : (0 : Int32).toInt = 0 := rfl
                       omega) h1
    · exact absurd z h8
  · have : j ≠ 0 := by rintro rfl; exact h1 (by decide)
    refine Or.inr ⟨j - 1, by omega, by rw [show j - 1 + 1 = j by omega], ?_⟩
    unfold f_Mod_in
    rw [ifb_neg (fun z => h1 (l1.mp z)), ifb_neg (fun z => h8 (l8.mp z)), bnd1_c, asrt_pos (Or.inr rfl)]
theorem op_should {g : Nat} (hg : 1000000000 ≤ g) (hC : Cp B I L R) (x : Int32) : ∃ v I1 L1 R1 I2 L2, f_GWL_should g S1 R I L 0 x = some (v, I1, L1, R1) ∧ f_Mod_should g S1 R1 I1 L1 90 x = some (v, I2, L2) ∧ Cp (B + 1) I2 L2 R1 := by
  obtain ⟨⟨p, fe, hR⟩, hTx, hRw, hWg, hFe, hSh, hMk, W, H, K, hLn, hPt, hPs, hPr, hKp⟩ := hC
  obtain ⟨q, hq⟩ := id hPt
  obtain ⟨⟨⟨c, hc, k0⟩, ⟨h, hh, k1⟩, ⟨vv, hv, k2⟩, -⟩, c0, c1, c2, -⟩ := hq.d
  obtain ⟨w, hd, hw⟩ := id hWg
  have hN := hLn.1.N36
  have f0 : Fr [(90, some 0)] I (wI I 90 0 0) := Fr.w Fr.rf rfl
  have fin : Cp (B + 1) (wI I 90 0 0) L R := by
    refine ⟨⟨_, _, hR⟩, hTx.imp fun _ h => h.imp fun _ h => h.ag (f0.ag rfl), hRw.imp fun _ h => h.imp fun _ h => h.ag (f0.ag rfl) (fun _ _ _ => rfl), hWg.imp fun _ h => h.imp fun _ h => h.ag (f0.ag rfl), hFe.imp fun _ h => h.ag (f0.ag rfl), hSh.ag (f0.ag rfl), hMk.imp fun _ h => h.ag (f0.ag rfl), W, H, K, hLn.ag (f0.ag rfl), hPt.imp fun _ h => h.ag (f0.ag rfl), hPs.imp fun _ h => h.imp fun _ h => h.imp fun _ h => h.ag (f0.ag rfl), hPr.imp fun _ h => h.imp fun _ h => h.imp fun _ h => h.ag (f0.ag rfl), hKp.ag (f0.ag rfl)⟩
  rcases in18 x with ⟨hx, e0⟩ | ⟨n, hn, rfl, e0⟩
  · refine ⟨-1, I, L, R, wI I 90 0 0, L, ?_, ?_, fin⟩
    · unfold f_GWL_should
      by_cases h1 : x < 1
      · rw [ifb_pos h1]
      · have hgt := hx.resolve_left h1
        rw [ifb_neg h1, ifb_neg (by rw [show (8 : Int32) = nI 8 from rfl]; rw [Int32.le_iff_toInt_le]; rw [Int32.lt_iff_toInt_lt] at hgt; omega)]
    · unfold f_Mod_should
      rw [lt_c, e0, bnd1_c, ifb_pos rfl]
  have hlo : ¬ nI (n + 1) < 1 := by rw [show (1 : Int32) = nI 1 from rfl, lt32 (by omega) (by omega)]; omega
  have hhi : nI (n + 1) ≤ 8 := by rw [show (8 : Int32) = nI 8 from rfl, le32 (by omega) (by omega)]; omega
  have p7 : wI I 90 0 0 90 7 = nI c := (f0 90 7 rfl).trans (c0.2.trans k0)
  cases c2' : isE (K c)
  rotate_left
  · have hb : eb (K c) = 1 := by unfold eb; rw [c2']; rfl
    refine ⟨-2, I, L, R, wI I 90 0 0, L, ?_, ?_, fin⟩
    · unfold f_GWL_should
      rw [ifb_neg hlo, ifb_pos hhi, isOver_c hLn.1 hR hc (c0.1.trans k0), bnd1_c, hb, ifb_neg (by decide)]
    · unfold f_Mod_should
      rw [lt_c, e0, bnd1_c, ifb_neg (by decide), p7, isEnd_in (hLn.2.1.ag (f0.ag rfl)) hR hc, bnd1_c, hb, ifb_neg (by decide)]
  have hb : eb (K c) = 0 := by unfold eb; rw [c2']; rfl
  obtain ⟨I1, L1, R1, p1, e1, hR1, f1, l1, dr⟩ := bestC_c (L := L) (n := n + 1) (g := g) (by omega) hR hLn.1 hLn.2.2.1 hw hw.2.2.1 (by omega) hc hh (c0.1.trans k0) (c1.1.trans k1) (c2.1.trans k2) hv
  have hdr := dr (by omega) c2'
  have hE : ¬ isE (K ((4 * c + h) / 4)) = true := by rw [show (4 * c + h) / 4 = c by omega, c2']; simp
  obtain ⟨a0, pl0, d0, v0, z0, zs⟩ := V_dir (W := W) (H := H) (w := w) (k := n) (vv := vv) (s0 := 4 * c + h) hw.2.2.1 hE
  have f2 : Fr fBD I (wI I1 90 0 0) := (f1.sub rfl).w rfl
  have f2' : Fr [(49, none), (67, some 8), (67, some 9), (67, some 10), (67, some 11), (68, some 2), (69, none), (70, none), (90, some 0)] I (wI I1 90 0 0) := (f1.sub rfl).w rfl
  have hMH : MH W H K w hd (wI I1 90 0 0) := ⟨hLn.2.1.ag (f2.ag rfl), ⟨hw.1, fun t ht => ((hw.ag (f2.ag rfl)).2.1 t ht).2⟩, hw.2.2.1, (hw.ag (f2.ag rfl)).2.2.2.2⟩
  obtain ⟨L3, e3, l3, c3⟩ := works_c (L := L1) (n := n) (c := 0) (q := 1) (g := g) (by omega) hR1 hMH (by omega) (by omega) (by omega)
  have flL : FrL [(71, none), (72, none), (73, none), (74, none), (103, none), (104, none)] L L3 := (l1.sub rfl).tr (l3.sub rfl)
  have q7 : wI I1 90 0 0 90 7 = nI c := (f2 90 7 rfl).trans (c0.2.trans k0)
  have q8 : wI I1 90 0 0 90 8 = nI h := (f2 90 8 rfl).trans (c1.2.trans k1)
  have q10 : wI I1 90 0 0 90 10 = nI vv := (f2 90 10 rfl).trans (c2.2.trans k2)
  have hs : 4 * c + h < 4 * (W * H) := by omega
  have dv : (4 * c + h) / 4 = c ∧ (4 * c + h) % 4 = h := by omega
  have eA := comesOf_c (g := g) (b := 103) (u := 3) (v := vv) (A := fun r => mW W H K w hd (lay K 0) 1 n r vv) (L := L3) (by omega) hR1 hMH rfl hs (by omega) (by omega) (by omega) (fun t ht => by
    rw [if_pos rfl]
    exact c3 _ _ (aft_lt hLn.1.1 hs) (by omega))
  have eB := fun u (hu : u < 3) (hv0 : 0 < vv) => comesOf_c (g := g) (b := 103) (u := u) (v := vv) (A := fun r => mW W H K w hd (lay K 0) 1 n r (vv - 1)) (L := L3) (by omega) hR1 hMH rfl hs (by omega) (by omega) (fun _ => hv0) (fun t ht => by
    rw [if_neg (by omega)]
    exact c3 _ _ (aft_lt hLn.1.1 hs) (by omega))
  rw [dv.1, dv.2] at eA
  simp only [dv.1, dv.2] at eB
  have hin := mW_in (W := W) (H := H) (K := K) (w := w) (hd := hd) (q := 1) (l := lay K 0) hw.1 hw.2.2.1 (fun c => by have := @lay_b K 0 c; omega) n
  have h4p : (100 : Int) ^ (n + 1) = 100 ^ n * 100 := Int.pow_succ ..
  have h16n := h16 (n + 1) (by omega)
  have wB := fun u v (hu : u < 4) => wmB (W := W) (H := H) (K := K) (X := 100 ^ n) (A := fun r => mW W H K w hd (lay K 0) 1 n r v) hw.1 hw.2.2.1 (u := u) hu (4 * c + h) (fun t _ => hin _ _)
  have w3 := wB 3 vv (by omega)
  rw [← v0] at w3 eA
  have ML : l_Mod_should_69 g S1 R1 (wI I1 90 0 0) L3 90 g 3 (iL a0.1) 0 = some (nI (V W H K w hd (lay K 0) 0 0 (n + 1) (4 * c + h) vv).2.2) := by
    by_cases hv0 : vv = 0
    · obtain ⟨g, rfl⟩ : ∃ g', g = g' + 1 := ⟨g - 1, by omega⟩
      rw [z0 hv0, d0, l_Mod_should_69, ifb_neg (by decide), q10, ifb_pos (by rw [hv0]; decide)]
      rfl
    · obtain ⟨cs, hcs, hV⟩ := zs hv0
      have stp : ∀ t F (a : Int × Int × Nat), t < 3 → pl a → -(100 ^ (n + 1)) ≤ a.1 → a.1 ≤ 100 ^ (n + 1) → (l_Mod_should_69 g S1 R1 (wI I1 90 0 0) L3 90 (F + 1) (nI a.2.2) (iL a.1) (nI t) = l_Mod_should_69 g S1 R1 (wI I1 90 0 0) L3 90 F (nI (pick a (cs t)).2.2) (iL (pick a (cs t)).1) (nI (t + 1))) ∧ pl (pick a (cs t)) ∧ -(100 ^ (n + 1)) ≤ (pick a (cs t)).1 ∧ (pick a (cs t)).1 ≤ 100 ^ (n + 1) := by
        intro t F a ht ha b1 b2
        obtain ⟨x1, x2, x3⟩ := hcs t ht
        have wt := wB t (vv - 1) (by omega)
        rw [← x3] at wt
        have pp := pick_pl ha x1
        have hmx := pick1 a (cs t)
        refine ⟨?_, pp.1, by omega, by omega⟩
        have ba : B63 a.1 := by unfold B63; omega
        have bc : B63 (cs t).1 := by unfold B63; omega
        have eBt := eB t ht (by omega)
        rw [← x3] at eBt
        rw [l_Mod_should_69, ifb_neg (show ¬ (3 : Int32) ≤ nI t by rw [show (3 : Int32) = nI 3 from rfl, le32 (by omega) (by omega)]; omega), q10, ifb_neg (by rw [nI0, le32 (by omega) (by omega)]; omega), r_90_28 hR1, bnd1_c, q7, q8, eBt, bnd1_c, pp.2, hmx]
        by_cases hlt : a.1 < (cs t).1
        · rw [ifb_neg (by rw [lg_cmp_le, iL_le bc ba]; omega), bnd1_c, mxJ_c ba bc, bnd1_c, nI_1, if_pos hlt, x2]
        · rw [ifb_pos (by rw [lg_cmp_le, iL_le bc ba]; omega), bnd1_c, mxJ_c ba bc, bnd1_c, nI_1, if_neg hlt]
      have s0 := stp 0 (g - 1) a0 (by omega) pl0 (by omega) (by omega)
      have s1 := stp 1 (g - 2) _ (by omega) s0.2.1 s0.2.2.1 s0.2.2.2
      have s2 := stp 2 (g - 3) _ (by omega) s1.2.1 s1.2.2.1 s1.2.2.2
      have u0 := s0.1
      have u1 := s1.1
      have u2 := s2.1
      rw [show g - 1 + 1 = g by omega, d0] at u0
      rw [show g - 2 + 1 = g - 1 by omega] at u1
      rw [show g - 3 + 1 = g - 2 by omega] at u2
      rw [hV]
      refine u0.trans (u1.trans (u2.trans ?_))
      rw [show g - 3 = (g - 4) + 1 by omega, l_Mod_should_69, ifb_pos (by decide)]
  refine ⟨nI (V W H K w hd (lay K 0) 0 0 (n + 1) (4 * c + h) vv).2.2, I1, L1, R1, wI I1 90 0 0, L3, ?_, ?_, ?_⟩
  · unfold f_GWL_should
    rw [ifb_neg hlo, ifb_pos hhi, isOver_c hLn.1 hR hc (c0.1.trans k0), bnd1_c, hb, ifb_pos rfl, hw.2.2.2.1, e1, bnd4_c, r_0_14 hR1, bnd1_c, t_67, asrt_pos rfl, lt_c, hdr]
  · unfold f_Mod_should
    rw [lt_c, e0, bnd1_c, ifb_neg (by decide), q7, isEnd_in (hLn.2.1.ag (f2.ag rfl)) hR1 hc, bnd1_c, hb, ifb_pos rfl, sub1 (by omega), show n + 1 - 1 = n from rfl, show f_Mod_works g S1 R1 (wI I1 90 0 0) L1 90 (nI n) 0 1 = some L3 from e3, bnd1_c, r_90_28 hR1, bnd1_c, q8, q10, show (3 : Int32) = nI 3 from rfl, eA, bnd1_c, show l_Mod_should_69 g S1 R1 (wI I1 90 0 0) L3 90 g (nI 3) (iL a0.1) 0 = _ from ML, bnd1_c]
  · refine ⟨⟨_, _, hR1⟩, hTx.imp fun _ h => h.imp fun _ h => h.ag (f2'.ag rfl), hRw.imp fun _ h => h.imp fun _ h => h.ag (f2'.ag rfl) (flL.ag rfl), hWg.imp fun _ h => h.imp fun _ h => h.ag (f2'.ag rfl), hFe.imp fun _ h => h.ag (f2'.ag rfl), hSh.ag (f2'.ag rfl), hMk.imp fun _ h => h.ag (f2'.ag rfl), W, H, K, hLn.ag (f2'.ag rfl), hPt.imp fun _ h => h.ag (f2'.ag rfl), hPs.imp fun _ h => h.imp fun _ h => h.imp fun _ h => h.ag (f2'.ag rfl), hPr.imp fun _ h => h.imp fun _ h => h.imp fun _ h => h.ag (f2'.ag rfl), hKp.ag (f2'.ag rfl)⟩
end OK
