section WY
variable {W H B n : Nat} {K τ : Nat → Nat} {I I' : MI} {L : ML} {R : MR} {p : Bool} {fe : Nat} {q : Nat → Int32}
theorem HW_eq {s d : Nat} {v : Int32} (h : HW W H K s v) (hd : d ≤ 144) : v = nI d ↔ DH W H K s d := by
  rcases h with ⟨e, h1, h2, rfl⟩ | ⟨h1, rfl⟩
  · rw [eq32 (by omega) (by omega)]
    exact ⟨fun z => z ▸ h2, fun z => DH_un h2 z⟩
  · exact ⟨fun z => absurd z.symm (nIm1 (by omega)), fun z => absurd z.1 (h1 d)⟩
theorem FW_eq {s d : Nat} {v : Int32} (h : FWy W H K s v) (hd : d ≤ 144) : v = nI d ↔ DH W H K s d := by
  rcases h with ⟨e, h1, h2, rfl⟩ | ⟨h1, rfl⟩
  · rw [eq32 (by omega) (by omega)]
    exact ⟨fun z => z ▸ h2, fun z => DH_un h2 z⟩
  · exact ⟨fun z => absurd ((eq32 (by omega) (by omega)).mp z) (by omega), fun z => absurd z.1 (h1 d)⟩
theorem HW_m1 {s : Nat} {v : Int32} (h : HW W H K s v) : v = -1 ↔ ∀ d, ¬ rch W H K d s := by
  rcases h with ⟨e, h1, h2, rfl⟩ | ⟨h1, rfl⟩
  · exact ⟨fun z => absurd z (nIm1 (by omega)), fun z => absurd h2.1 (z e)⟩
  · exact ⟨fun _ => h1, fun _ => rfl⟩
theorem HW_b {s : Nat} {v : Int32} (h : HW W H K s v) : (∃ d, d ≤ 144 ∧ DH W H K s d) ∨ ∀ d, ¬ rch W H K d s := by
  rcases h with ⟨e, h1, h2, -⟩ | ⟨h1, -⟩
  · exact Or.inl ⟨e, h1, h2⟩
  · exact Or.inr h1
/-- the least turn behind which there are d steps to home -/
noncomputable def nT (W H : Nat) (K : Nat → Nat) (s d : Nat) : Nat := ltn (fun x => @ite _ (DH W H K x d) (Classical.propDecidable _) 0 1) W H K s 0
theorem nT_eq {F : Nat → Int32} {s d : Nat} (h : ∀ t, t < 3 → (F (aft W H K s t) = nI d ↔ DH W H K (aft W H K s t) d)) : ltn F W H K s (nI d) = nT W H K s d := by
  unfold nT
  refine ltn_congr fun t ht => ?_
  rw [h t ht]
  by_cases hd : DH W H K (aft W H K s t) d
  · rw [if_pos hd]; exact ⟨fun _ => rfl, fun _ => hd⟩
  · rw [if_neg hd]; exact ⟨fun z => absurd z hd, fun z => absurd z (by decide)⟩
theorem nT_DH {s d : Nat} (h : DH W H K s (d + 1)) : nT W H K s d < 3 ∧ DH W H K (aft W H K s (nT W H K s d)) d := by
  obtain ⟨t, ht, hd⟩ := DH_step h
  have h1 : nT W H K s d < 3 := by
    unfold nT
    rw [ltn_lt]
    exact ⟨t, ht, if_pos hd⟩
  refine ⟨h1, ?_⟩
  have := ltn_at (show ltn (fun x => @ite _ (DH W H K x d) (Classical.propDecidable _) (0 : Int32) 1) W H K s 0 < 3 from h1)
  by_cases hd' : DH W H K (aft W H K s (nT W H K s d)) d
  · exact hd'
  · have e : (@ite _ (DH W H K (aft W H K s (nT W H K s d)) d) (Classical.propDecidable _) (0 : Int32) 1) = 0 := this
    rw [if_neg hd'] at e
    exact absurd e (by decide)
/-- the way's stances, and its turns -/
noncomputable def wyS (W H : Nat) (K : Nat → Nat) (s due : Nat) : Nat → Nat
  | 0 => s
  | i + 1 => aft W H K (wyS W H K s due i) (nT W H K (wyS W H K s due i) (due - i - 1))
noncomputable def wV (W H : Nat) (K : Nat → Nat) (s due i : Nat) : Nat := nT W H K (wyS W H K s due i) (due - i - 1)
theorem wyS_DH {s due : Nat} (h : DH W H K s due) : ∀ i, i ≤ due → DH W H K (wyS W H K s due i) (due - i)
  | 0, _ => h
  | i + 1, hi => by
    have := wyS_DH h i (by omega)
    rw [show due - i = (due - i - 1) + 1 by omega] at this
    have h2 := (nT_DH this).2
    rw [show due - (i + 1) = due - i - 1 by omega]
    exact h2
theorem wV_lt {s due : Nat} (h : DH W H K s due) {i : Nat} (hi : i < due) : wV W H K s due i < 3 := by
  have := wyS_DH h i (by omega)
  rw [show due - i = (due - i - 1) + 1 by omega] at this
  exact (nT_DH this).1
theorem way_l {g : Nat} (hg : 1000 ≤ g) (hR : RG p fe R) {s due : Nat} (hd : DH W H K s due) (hdue : due ≤ 144) : ∀ (f i : Nat) (I : MI) (L : ML), LKc W H K I → LA W H K I → (∀ x, x < 144 → HW W H K x (I 63 x)) → i ≤ due → i ≤ 10 → 10 < i + f → I 3 1 = nI i → (∀ j, j < i → L 4 j = (nI (wV W H K s due j)).toInt64) →
    wpo (l_GWL_way_41 g S1 R 0 (nI due) f I L (nI (wyS W H K s due i)) (nI (due - i))) (fun r => Fr [(3, some 1)] I r.1 ∧ FrL [(4, none)] L r.2 ∧ r.1 3 1 = nI (min due 10) ∧ ∀ j, j < min due 10 → r.2 4 j = (nI (wV W H K s due j)).toInt64) := by
  intro f
  induction f with
  | zero => intro i I L _ _ _ _ h1 h2; omega
  | succ f ih =>
    intro i I L hL hA hH h0 h1 h2 h3 h4
    have hN := hL.N36
    rw [l_GWL_way_41]
    by_cases e : i = due
    · rw [ifb_pos (by rw [show due - i = 0 by omega]; decide)]
      exact ⟨_, rfl, Fr.rf, FrL.rf, show I 3 1 = _ by rw [h3, Nat.min_eq_left (by omega), e], fun j hj => h4 j (by omega)⟩
    · rw [ifb_neg (by rw [nI0, le32 (by omega) (by omega)]; omega), pk_sub (by omega), show due - (due - i) = i by omega, show (10 : Int32) = nI 10 from rfl]
      by_cases e10 : i = 10
      · rw [ifb_pos (by rw [le32 (by omega) (by omega)]; omega)]
        exact ⟨_, rfl, Fr.rf, FrL.rf, show I 3 1 = _ by rw [h3, Nat.min_eq_right (by omega), e10], fun j hj => h4 j (by omega)⟩
      · have hD := wyS_DH hd i (by omega)
        have hs := rch_lt hD.1
        have hv := wV_lt hd (i := i) (by omega)
        have hlt : ltn (I 63) W H K (wyS W H K s due i) (nI (due - i - 1)) = wV W H K s due i := nT_eq (fun t ht => by
          have := @aft_lt W H K hL.1 (wyS W H K s due i) t hs
          exact HW_eq (hH _ (by omega)) (by omega))
        rw [ifb_neg (by rw [le32 (by omega) (by omega)]; omega), r_0_2 hR, bnd1_c, t_60, asrt_pos rfl, sub1 (by omega), turnT_c hg hN.2 hL.1 hA hR hs, hlt, if_neg (by omega), bnd1_c, r_0_1 hR, bnd1_c, t_3, asrt_pos rfl, add_c hR h3 (by omega), bnd2_c]
        have f1 : Fr [(3, some 1)] I (wI I 3 1 (nI (i + 1))) := Fr.w Fr.rf rfl
        rw [after_c hN.2 (hA.ag (f1.ag rfl)) hR hs hv, bnd1_c, show due - i = (due - (i + 1)) + 1 by omega, pk_m1]
        refine wpo_mono (ih (i + 1) _ (wL L 4 i _) (hL.ag (f1.ag rfl)) (hA.ag (f1.ag rfl)) (fun x hx => by rw [f1 63 x rfl]; exact hH x hx) (by omega) (by omega) (by omega) wI_s (fun j hj => ?_)) ?_
        · by_cases ej : j = i
          · subst ej; rw [wL_s]
          · rw [wL_n (by omega)]; exact h4 j (by omega)
        · rintro r ⟨a, b, c, d⟩
          exact ⟨f1.tr a, (FrL.w FrL.rf (by simp [inF])).tr b, c, d⟩
theorem find_l {s due i : Nat} (hM : LM W H K I) (hR : RG p fe R) (hF : ∀ x, x < 4 * (W * H) → FWy W H K x (I 100 x)) (hs : s < 4 * (W * H)) {d : Nat} (hd : d ≤ 143) (hv : nT W H K s d < 3) : ∀ (f t : Nat), t ≤ nT W H K s d → 3 < t + f →
    l_Mod_way_62 S1 R I 90 (nI due) (nI (s / 4)) (nI (s % 4)) (nI (d + 1)) f (nI t) = some (nI (nT W H K s d)) := by
  have hN := hM.N36
  have hz : 4 * (s / 4) + s % 4 = s := by omega
  intro f
  induction f with
  | zero => intro t h1 h2; omega
  | succ f ih =>
    intro t h1 h2
    have hlt := @aft_lt W H K hM.1 s t hs
    rw [l_Mod_way_62, farB_c hM hR (by omega) (by omega) (by omega), bnd1_c, hz, sub1 (by omega), Nat.add_sub_cancel]
    have hiff := FW_eq (hF _ hlt) (d := d) (by omega)
    by_cases e : t = nT W H K s d
    · have : DH W H K (aft W H K s t) d := by
        have h3 := ltn_at (show ltn (fun x => @ite _ (DH W H K x d) (Classical.propDecidable _) (0 : Int32) 1) W H K s 0 < 3 from hv)
        by_cases hd' : DH W H K (aft W H K s t) d
        · exact hd'
        · rw [e] at hd'
          have e2 : (@ite _ (DH W H K (aft W H K s (nT W H K s d)) d) (Classical.propDecidable _) (0 : Int32) 1) = 0 := h3
          rw [if_neg hd'] at e2
          exact absurd e2 (by decide)
      rw [ifb_pos (hiff.mpr this), e]
    · have : ¬ DH W H K (aft W H K s t) d := fun hdd => by
        have hle : nT W H K s d ≤ t := by
          unfold nT ltn
          have ht : t = 0 ∨ t = 1 ∨ t = 2 := by omega
          rcases ht with rfl | rfl | rfl
          · rw [if_pos (if_pos hdd)]; omega
          · by_cases h0 : (@ite _ (DH W H K (aft W H K s 0) d) (Classical.propDecidable _) (0 : Int32) 1) = 0
            · rw [if_pos h0]; omega
            · rw [if_neg h0, if_pos (if_pos hdd)]; omega
          · omega
        omega
      rw [ifb_neg (fun z => this (hiff.mp z)), nI_1]
      exact ih (t + 1) (by omega) (by omega)
theorem mway_l {g : Nat} (hg : 1000 ≤ g) (hR : RG p fe R) {s due : Nat} (hd : DH W H K s due) (hdue : due ≤ 144) : ∀ (f i : Nat) (I : MI) (L : ML), LM W H K I → (∀ x, x < 4 * (W * H) → FWy W H K x (I 100 x)) → i ≤ due → due < i + f → I 90 1 = nI (min i 10) → (∀ j, j < min i 10 → L 91 j = (nI (wV W H K s due j)).toInt64) →
    wpo (l_Mod_way_54 g S1 R 90 (nI due) f I L (nI (wyS W H K s due i / 4)) (nI (wyS W H K s due i % 4)) (nI (due - i))) (fun r => Fr [(90, some 1)] I r.1 ∧ FrL [(91, none)] L r.2 ∧ r.1 90 1 = nI (min due 10) ∧ ∀ j, j < min due 10 → r.2 91 j = (nI (wV W H K s due j)).toInt64) := by
  intro f
  induction f with
  | zero => intro i I L _ _ h1 h2; omega
  | succ f ih =>
    intro i I L hM hF h1 h2 h3 h4
    have hN := hM.N36
    rw [l_Mod_way_54]
    by_cases e : i = due
    · subst e
      rw [ifb_pos (by rw [Nat.sub_self]; decide)]
      exact ⟨_, rfl, Fr.rf, FrL.rf, h3, h4⟩
    · have hD := wyS_DH hd i (by omega)
      have hs := rch_lt hD.1
      have hv := wV_lt hd (i := i) (by omega)
      have hfind := find_l (due := due) (i := i) hM hR hF hs (d := due - i - 1) (by omega) hv g 0 (by omega) (by omega)
      rw [show due - i - 1 + 1 = due - i by omega] at hfind
      rw [ifb_neg (by rw [nI0, le32 (by omega) (by omega)]; omega), nI0, hfind, bnd1_c, pk_sub (by omega), show due - (due - i) = i by omega, show (10 : Int32) = nI 10 from rfl]
      have hstep : ∀ (J : MI) (M : ML), LM W H K J → (∀ x, x < 4 * (W * H) → FWy W H K x (J 100 x)) → J 90 1 = nI (min (i + 1) 10) → (∀ j, j < min (i + 1) 10 → M 91 j = (nI (wV W H K s due j)).toInt64) →
          wpo (bnd1 (f_Mod_turned (nI (wyS W H K s due i % 4)) (nI (nT W H K (wyS W H K s due i) (due - i - 1)))) fun x27 => bnd1 (f_Mod_cellBy S1 R J 90 (nI (wyS W H K s due i / 4)) x27) fun x29 => l_Mod_way_54 g S1 R 90 (nI due) f J M x29 x27 (nI (due - i) + (-1)))
            (fun r => Fr [(90, some 1)] J r.1 ∧ FrL [(91, none)] M r.2 ∧ r.1 90 1 = nI (min due 10) ∧ ∀ j, j < min due 10 → r.2 91 j = (nI (wV W H K s due j)).toInt64) := by
        intro J M hMJ hFJ h3J h4J
        have hq3 := @hd3_lt (wyS W H K s due i) (nT W H K (wyS W H K s due i) (due - i - 1))
        have hnx := @nxt_lt W H K hM.1 (wyS W H K s due i / 4) (hd3 (wyS W H K s due i) (nT W H K (wyS W H K s due i) (due - i - 1))) (by omega)
        have ea : wyS W H K s due (i + 1) = aft W H K (wyS W H K s due i) (nT W H K (wyS W H K s due i) (due - i - 1)) := rfl
        have hv' : nT W H K (wyS W H K s due i) (due - i - 1) < 3 := hv
        rw [turned_c (by omega) hv', bnd1_c, show (wyS W H K s due i % 4 + nT W H K (wyS W H K s due i) (due - i - 1) + 3) % 4 = hd3 (wyS W H K s due i) (nT W H K (wyS W H K s due i) (due - i - 1)) from rfl, cellBy_c hMJ hR (by omega) hq3, bnd1_c, show due - i = (due - (i + 1)) + 1 by omega, pk_m1]
        have := ih (i + 1) J M hMJ hFJ (by omega) (by omega) h3J h4J
        rw [ea] at this
        unfold aft at this
        rw [show (4 * nxt W H K (wyS W H K s due i / 4) (hd3 (wyS W H K s due i) (nT W H K (wyS W H K s due i) (due - i - 1))) + hd3 (wyS W H K s due i) (nT W H K (wyS W H K s due i) (due - i - 1))) / 4 = nxt W H K (wyS W H K s due i / 4) (hd3 (wyS W H K s due i) (nT W H K (wyS W H K s due i) (due - i - 1))) by omega,
          show (4 * nxt W H K (wyS W H K s due i / 4) (hd3 (wyS W H K s due i) (nT W H K (wyS W H K s due i) (due - i - 1))) + hd3 (wyS W H K s due i) (nT W H K (wyS W H K s due i) (due - i - 1))) % 4 = hd3 (wyS W H K s due i) (nT W H K (wyS W H K s due i) (due - i - 1)) by omega] at this
        exact this
      by_cases e10 : 10 ≤ i
      · rw [ifb_pos (by rw [le32 (by omega) (by omega)]; exact e10), bnd2_c]
        refine hstep I L hM hF (by rw [h3, Nat.min_eq_right e10, Nat.min_eq_right (by omega)]) (fun j hj => h4 j (by omega))
      · rw [ifb_neg (by rw [le32 (by omega) (by omega)]; exact e10), enters_c hR h3 (by omega), bnd2_c, bnd2_c, Nat.min_eq_left (show i ≤ 10 by omega)]
        have f1 : Fr [(90, some 1)] I (wI I 90 1 (nI (i + 1))) := Fr.w Fr.rf rfl
        refine wpo_mono (hstep (wI I 90 1 (nI (i + 1))) _ (hM.ag (f1.ag rfl)) (fun x hx => by rw [f1 100 x rfl]; exact hF x hx) (by rw [wI_s, Nat.min_eq_left (by omega)]) (fun j hj => ?_)) ?_
        · by_cases ej : j = i
          · subst ej; rw [wL_s]; rfl
          · rw [wL_n (by omega)]; exact h4 j (by omega)
        · rintro r ⟨a, b, c, d⟩
          exact ⟨f1.tr a, (FrL.w FrL.rf (by simp [inF])).tr b, c, d⟩
theorem op_way {g : Nat} (hg : 1000000000 ≤ g) (hC : Cp B I L R) : ∃ v I1 L1 I2 L2, f_GWL_way g S1 R I L 0 = some (v, I1, L1) ∧ f_Mod_way g S1 R I1 L1 90 = some (v, I2, L2) ∧ Cp (B + 1) I2 L2 R := by
  obtain ⟨⟨p, fe, hR⟩, hTx, hRw, hWg, hFe, hSh, hMk, W, H, K, hLn, hPt, hPs, hPr, hKp⟩ := hC
  obtain ⟨q, hq⟩ := id hPt
  obtain ⟨⟨⟨c, hc, k0⟩, ⟨h, hh, k1⟩, -⟩, c0, c1, -⟩ := hq.d
  have hN := hLn.1.N36
  have hs : 4 * c + h < 4 * (W * H) := by omega
  obtain ⟨I1, e1, a1, m1, d1⟩ := measure_c (by omega : 1000 ≤ g) hR hLn.1 hLn.2.2.1 hLn.2.2.2
  -- what Cp says of the memory behind both measures
  have hL1 : Lnd W H K I1 := ⟨hLn.1.ag (a1.ag rfl), hLn.2.1.ag (a1.ag rfl), hLn.2.2.1.ag (a1.ag rfl), Or.inr ⟨m1, d1⟩⟩
  have hb : ∀ s, s < 4 * (W * H) → (∃ d, d ≤ 144 ∧ DH W H K s d) ∨ ∀ d, ¬ rch W H K d s := fun s hs => HW_b (d1 s (by omega))
  have est : f_Party_stance S1 I1 64 = some (nI (4 * c + h)) := by
    unfold f_Party_stance
    rw [a1 64 0 rfl, c0.1, k0, a1 64 1 rfl, c1.1, k1, show (4 : Int32) = nI 4 from rfl, pk_mul, nI_add, lt_c, Nat.mul_comm]
  rcases hb (4 * c + h) hs with ⟨due, hdue, hD⟩ | hno
  rotate_left
  · have ev : I1 63 (4 * c + h) = -1 := (HW_m1 (d1 _ (by omega))).mpr hno
    have f2 : Fr [(63, none), (60, some 5), (90, some 0)] I (wI I1 90 0 0) := (a1.sub rfl).w rfl
    obtain ⟨I2, e2, a2, d2⟩ := measures_c hg hR (I := wI I1 90 0 0) (hLn.2.1.ag (f2.ag rfl)) hb
    have f3 : Fr [(63, none), (60, some 5), (90, some 0), (100, none)] I I2 := (f2.sub rfl).tr (a2.sub rfl)
    have ev2 : I2 100 (4 * c + h) = nI 1000000 := by
      rcases d2 _ hs with ⟨d, -, z, -⟩ | ⟨-, z⟩
      · exact absurd z.1 (hno d)
      · exact z
    refine ⟨-2, I1, L, I2, L, ?_, ?_, ?_⟩
    · unfold f_GWL_way
      rw [r_0_2 hR, bnd1_c, t_60, asrt_pos rfl, e1, bnd1_c, r_0_3 hR, bnd1_c, t_64, asrt_pos rfl, est, bnd1_c, stepsHome_c hR (by omega), ev, bnd1_c, ifb_pos rfl]
    · unfold f_Mod_way
      rw [lt_c, e2, bnd1_c, r_90_25 hR, bnd1_c, f3 90 7 rfl, c0.2, k0, f3 90 8 rfl, c1.2, k1, show (4 : Int32) = nI 4 from rfl, pk_mul, nI_add, lt_c, t_100, asrt_pos rfl, asrt_pos (vir (by omega) (by omega)), lt_c, cl32 (by omega), ev2, ifb_neg (by decide)]
    · have hL3 : Lnd W H K I2 := hL1.ag (Fr.ag (l := [(90, some 0), (100, none)]) ((Fr.w Fr.rf rfl).tr (a2.sub rfl)) rfl)
      refine ⟨⟨_, _, hR⟩, hTx.imp fun _ h => h.imp fun _ h => h.ag (f3.ag rfl), hRw.imp fun _ h => h.imp fun _ h => h.ag (f3.ag rfl) (fun _ _ _ => rfl), hWg.imp fun _ h => h.imp fun _ h => h.ag (f3.ag rfl), hFe.imp fun _ h => h.ag (f3.ag rfl), hSh.ag (f3.ag rfl), hMk.imp fun _ h => h.ag (f3.ag rfl), W, H, K, ?_, hPt.imp fun _ h => h.ag (f3.ag rfl), hPs.imp fun _ h => h.imp fun _ h => h.imp fun _ h => h.ag (f3.ag rfl), hPr.imp fun _ h => h.imp fun _ h => h.imp fun _ h => h.ag (f3.ag rfl), hKp.ag (f3.ag rfl)⟩
      exact hL3
  · have ev : I1 63 (4 * c + h) = nI due := (HW_eq (d1 _ (by omega)) hdue).mpr hD
    obtain ⟨⟨J1, M1⟩, e3, a3, b3, c3, d3⟩ := way_l (by omega : 1000 ≤ g) hR hD hdue g 0 (wI I1 3 1 0) L (hL1.1.ag (Fr.ag (l := [(3, some 1)]) (Fr.w Fr.rf rfl) rfl)) (hL1.2.2.1.ag (Fr.ag (l := [(3, some 1)]) (Fr.w Fr.rf rfl) rfl)) (fun x hx => by rw [wI_n (by omega)]; exact d1 x hx) (by omega) (by omega) (by omega) wI_s (fun j hj => by omega)
    simp only at a3 b3 c3 d3
    have f2 : Fr [(63, none), (60, some 5), (3, some 1), (90, some 0)] I (wI J1 90 0 0) := (((a1.sub rfl).tr (Fr.w Fr.rf rfl)).tr (a3.sub rfl)).w rfl
    obtain ⟨I2, e2, a2, d2⟩ := measures_c hg hR (I := wI J1 90 0 0) (hLn.2.1.ag (f2.ag rfl)) hb
    have f3 : Fr [(63, none), (60, some 5), (3, some 1), (90, some 0), (100, none)] I I2 := (f2.sub rfl).tr (a2.sub rfl)
    have ev2 : I2 100 (4 * c + h) = nI due := (FW_eq (d2 _ hs) hdue).mpr hD
    have hz1 : (4 * c + h) / 4 = c := by omega
    have hz2 : (4 * c + h) % 4 = h := by omega
    obtain ⟨⟨J2, M2⟩, e4, a4, b4, c4, d4⟩ := mway_l (by omega : 1000 ≤ g) hR hD hdue g 0 (wI I2 90 1 0) M1 (hLn.2.1.ag (Fr.ag (l := [(63, none), (60, some 5), (3, some 1), (90, some 0), (100, none), (90, some 1)]) ((f3.sub rfl).w rfl) rfl)) (fun x hx => by rw [wI_n (by omega)]; exact d2 x hx) (by omega) (by omega) wI_s (fun j hj => by omega)
    simp only at a4 b4 c4 d4
    have f4 : Fr [(63, none), (60, some 5), (3, some 1), (90, some 0), (100, none), (90, some 1)] I J2 := ((f3.sub rfl).w rfl).tr (a4.sub rfl)
    have f13 : Fr [(90, some 0), (100, none), (90, some 1)] J1 J2 := (((Fr.w Fr.rf rfl).tr (a2.sub rfl)).w rfl).tr (a4.sub rfl)
    refine ⟨nI due, J1, M1, J2, M2, ?_, ?_, ?_⟩
    · have e3' : l_GWL_way_41 g S1 R 0 (nI due) g (wI I1 3 1 0) L (nI (4 * c + h)) (nI due) = some (J1, M1) := e3
      unfold f_GWL_way f_Numbers_begin
      rw [r_0_2 hR, bnd1_c, t_60, asrt_pos rfl, e1, bnd1_c, r_0_3 hR, bnd1_c, t_64, asrt_pos rfl, est, bnd1_c, stepsHome_c hR (by omega), ev, bnd1_c, ifb_neg (nIm1 (by omega)), r_0_1 hR, bnd1_c, t_3, asrt_pos rfl, lt_c, bnd1_c, e3', bnd2_c]
    · have e4' : l_Mod_way_54 g S1 R 90 (nI due) g (wI I2 90 1 0) M1 (nI c) (nI h) (nI due) = some (J2, M2) := by
        have := e4
        rw [show wyS W H K (4 * c + h) due 0 = 4 * c + h from rfl, hz1, hz2, Nat.sub_zero] at this
        exact this
      unfold f_Mod_way
      rw [lt_c, e2, bnd1_c, r_90_25 hR, bnd1_c, f3 90 7 rfl, c0.2, k0, f3 90 8 rfl, c1.2, k1, show (4 : Int32) = nI 4 from rfl, pk_mul, nI_add, lt_c, t_100, asrt_pos rfl, asrt_pos (vir (by omega) (by omega)), lt_c, cl32 (by omega), ev2, ifb_pos (by rw [show (1000000 : Int32) = nI 1000000 from rfl, lt32 (by omega) (by omega)]; omega),
        lt_c, wI_n (by omega), f3 90 7 rfl, c0.2, k0, lt_c, wI_n (by omega), f3 90 8 rfl, c1.2, k1, lt_c, e4', bnd2_c]
    · have hL3 : Lnd W H K J2 := hL1.ag (Fr.ag (l := [(3, some 1), (90, some 0), (100, none), (90, some 1)]) (((Fr.w Fr.rf rfl).tr (a3.sub rfl)).tr (f13.sub rfl)) rfl)
      refine ⟨⟨_, _, hR⟩, hTx.imp fun _ h => h.imp fun _ h => h.ag (f4.ag rfl), ?_, hWg.imp fun _ h => h.imp fun _ h => h.ag (f4.ag rfl), hFe.imp fun _ h => h.ag (f4.ag rfl), hSh.ag (f4.ag rfl), hMk.imp fun _ h => h.ag (f4.ag rfl), W, H, K, ?_, hPt.imp fun _ h => h.ag (f4.ag rfl), hPs.imp fun _ h => h.imp fun _ h => h.imp fun _ h => h.ag (f4.ag rfl), hPr.imp fun _ h => h.imp fun _ h => h.imp fun _ h => h.ag (f4.ag rfl), hKp.ag (f4.ag rfl)⟩
      · exact ⟨min due 10, fun j => (nI (wV W H K (4 * c + h) due j)).toInt64, by omega, (f13 3 1 rfl).trans c3, c4, fun j hj => ⟨(b4 4 j rfl).trans (d3 j hj), d4 j hj⟩⟩
      · exact hL3
end WY
