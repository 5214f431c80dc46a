section TF
variable {W H B n : Nat} {K τ z w : Nat → Nat} {I I' : MI} {L : ML} {R : MR} {p : Bool} {fe : Nat} {q : Nat → Int32}
theorem lmJ_0 {k h t : Nat} : lmJ W H K w z 0 k h t = 0 := by
  unfold lmJ
  rw [if_neg (by omega)]
theorem LY0 : ∀ (r h : Nat), LY W H K z (lmJ W H K w z 0) n r h = if WY W H K z n r h = 0 then 1000000 else 0
  | 0, h => by rw [LY, WY, if_neg (by omega)]
  | r + 1, h => by
    have c : ∀ t, (@ite _ (ldp W H K z (n - 2 - r) h t) (Classical.propDecidable _) (lmJ W H K w z 0 (n - 2 - r) h t + LY W H K z (lmJ W H K w z 0) n r (tq h t)) 1000000) = if (@ite _ (ldp W H K z (n - 2 - r) h t) (Classical.propDecidable _) (WY W H K z n r (tq h t)) 0) = 0 then 1000000 else 0 := fun t => by
      by_cases hl : ldp W H K z (n - 2 - r) h t
      · rw [if_pos hl, if_pos hl, lmJ_0, Nat.zero_add, LY0 r (tq h t)]
      · rw [if_neg hl, if_neg hl, if_pos rfl]
    have c0 := c 0
    have c1 := c 1
    have c2 := c 2
    rw [LY, WY]
    unfold minN minN minN minN sumN sumN sumN sumN
    rw [c0, c1, c2]
    generalize (@ite _ (ldp W H K z (n - 2 - r) h 0) (Classical.propDecidable _) (WY W H K z n r (tq h 0)) 0) = x0 at *
    generalize (@ite _ (ldp W H K z (n - 2 - r) h 1) (Classical.propDecidable _) (WY W H K z n r (tq h 1)) 0) = x1 at *
    generalize (@ite _ (ldp W H K z (n - 2 - r) h 2) (Classical.propDecidable _) (WY W H K z n r (tq h 2)) 0) = x2 at *
    by_cases h0 : x0 = 0 <;> by_cases h1 : x1 = 0 <;> by_cases h2 : x2 = 0 <;> simp [h0, h1, h2]
theorem lN0 {a : Nat} (ha : a < 1000000) : lN a = 0 ↔ a = 0 := pk_lEQ (a := a) (b := 0) (by omega) (by omega)
theorem mrows_l {g h0 : Nat} (hg : 1000 ≤ g) (hR : RG p fe R) (hh0 : h0 < 4) (hf0 : LY W H K z (lmJ W H K w z 0) n (n - 1) h0 < 1000000) (hn0 : 0 < n) : ∀ (f i : Nat) (I : MI) (L : ML), LM W H K I → PrM W H n z I → I 90 43 = nI h0 → (∀ k, k < n → ∀ h, h < 4 → L 115 (4 * k + h) = lN (WY W H K z n (n - 1 - k) h)) → i < n → n < i + f → I 90 1 = nI i → (∀ j, j < i → L 91 j = (nI (phV W H K z (lmJ W H K w z 0) n h0 j)).toInt64) →
    wpo (l_Mod_rows_32 g S1 R 90 f I L (nI (phS W H K z (lmJ W H K w z 0) n h0 i)) (nI i)) (fun r => Fr [(90, some 1)] I r.1 ∧ FrL [(91, none)] L r.2 ∧ r.1 90 1 = nI (n - 1) ∧ ∀ j, j < n - 1 → r.2 91 j = (nI (phV W H K z (lmJ W H K w z 0) n h0 j)).toInt64) := by
  intro f
  induction f with
  | zero => intro i I L _ _ _ _ h1 h2; omega
  | succ f ih =>
    intro i I L hM hP h43 hT h1 h2 h3 h4
    have hn := hP.1
    rw [l_Mod_rows_32, hP.2.1, sub1 (by omega)]
    by_cases e : i = n - 1
    · subst e
      rw [ifb_pos (by rw [le32 (by omega) (by omega)]; omega)]
      exact ⟨_, rfl, Fr.rf, FrL.rf, h3, h4⟩
    · have hi : i + 1 < n := by omega
      have hph := @phS_lt W H n K z (lmJ W H K w z 0) h0 hh0 i
      have hfi := phS_ok hf0 i (by omega)
      have hlt3 : phV W H K z (lmJ W H K w z 0) n h0 i < 3 := by unfold phV tlT; exact ltP_lt
      have hw0 : WY W H K z n (n - 1) h0 ≠ 0 := fun e0 => by rw [LY0, if_pos e0] at hf0; omega
      have hwl := @WY_lt W H n K z (n - 1) h0 (by omega)
      have htop := hT 0 (by omega) h0 hh0
      rw [Nat.mul_zero, Nat.zero_add, Nat.sub_zero] at htop
      have hfind : l_Mod_rows_58 S1 R I L 90 (nI (phS W H K z (lmJ W H K w z 0) n h0 i)) (nI i) g 0 = some (nI (phV W H K z (lmJ W H K w z 0) n h0 i)) := by
        unfold phV tlT
        generalize phS W H K z (lmJ W H K w z 0) n h0 i = h at *
        have hYh : LY W H K z (lmJ W H K w z 0) n (n - 1 - i) h = 0 := by
          rw [LY0] at hfi ⊢
          by_cases e0 : WY W H K z n (n - 1 - i) h = 0
          · rw [if_pos e0] at hfi; omega
          · rw [if_neg e0]
        have hstep : ∀ f t, t < 3 → ldp W H K z i h t → l_Mod_rows_58 S1 R I L 90 (nI h) (nI i) (f + 1) (nI t) = ifb (lg_cmp (lN (WY W H K z n (n - 2 - i) (tq h t))) 0 = 0) (l_Mod_rows_58 S1 R I L 90 (nI h) (nI i) f (nI (t + 1))) (some (nI t)) := fun f t ht hl => by
          have h4' := tq_lt h t
          have hrow := hT (i + 1) hi _ h4'
          rw [show n - 1 - (i + 1) = n - 2 - i by omega] at hrow
          rw [l_Mod_rows_58, leads_c hM hR hP hi hph ht, bnd1_c, if_pos hl, ifb_neg (show ¬ (1 : Int32) = 0 by decide), r_90_45 hR, bnd1_c, turned_c hph ht, bnd1_c, show (h + t + 3) % 4 = tq h t from rfl, show (4 : Int32) = nI 4 from rfl, nI_1, pk_mul, nI_add, lt_c, t_115, asrt_pos rfl, asrt_pos (vir (by omega) (by omega)), cl32 (by omega), hrow, nI_1]
        have htL : ∀ t, tL W H K z (lmJ W H K w z 0) n i h t = LY W H K z (lmJ W H K w z 0) n (n - 1 - i) h ↔ ldp W H K z i h t ∧ WY W H K z n (n - 2 - i) (tq h t) ≠ 0 := fun t => by
          unfold tL
          rw [hYh]
          by_cases hl : ldp W H K z i h t
          · rw [if_pos hl, lmJ_0, Nat.zero_add, LY0]
            by_cases e0 : WY W H K z n (n - 2 - i) (tq h t) = 0
            · rw [if_pos e0]; exact ⟨fun z => by omega, fun z => absurd e0 z.2⟩
            · rw [if_neg e0]; exact ⟨fun _ => ⟨hl, e0⟩, fun _ => rfl⟩
          · rw [if_neg hl]; exact ⟨fun z => by omega, fun z => absurd z.1 hl⟩
        refine ltP_find (F := l_Mod_rows_58 S1 R I L 90 (nI h) (nI i)) (P := fun t => tL W H K z (lmJ W H K w z 0) n i h t = LY W H K z (lmJ W H K w z 0) n (n - 1 - i) h) (fun f t ht hp => ?_) (fun f t ht hp => ?_) (tlT_ex hi hfi) (by omega)
        · obtain ⟨hl, hw⟩ := (htL t).mp hp
          have := @WY_lt W H n K z (n - 2 - i) (tq h t) (by omega)
          rw [hstep f t ht hl, ifb_neg (by rw [lg_cmp_eq, lN0 (by omega)]; exact hw)]
        · by_cases hl : ldp W H K z i h t
          · have hw : WY W H K z n (n - 2 - i) (tq h t) = 0 := Classical.byContradiction fun hw => hp ((htL t).mpr ⟨hl, hw⟩)
            rw [hstep f t ht hl, ifb_pos (by rw [lg_cmp_eq, hw]; rfl)]
          · rw [l_Mod_rows_58, leads_c hM hR hP hi hph ht, bnd1_c, if_neg hl, ifb_pos rfl, nI_1]
      have hgt : ¬ lg_cmp (lN (WY W H K z n (n - 1) h0)) 0 ≤ 0 := by
        rw [lg_cmp_le, show (0 : Int64) = lN 0 from rfl, pk_lLE (by omega) (by omega)]
        omega
      rw [ifb_neg (by rw [le32 (by omega) (by omega)]; omega), r_90_45 hR, bnd1_c, h43, lt_c, t_115, asrt_pos rfl, asrt_pos (vir (by omega) (by omega)), cl32 (by omega), htop, ifb_neg hgt, hfind, bnd1_c, enters_c hR h3 (by omega), bnd2_c, turned_c hph hlt3, bnd1_c, nI_1]
      have f1 : Fr [(90, some 1)] I (wI I 90 1 (nI (i + 1))) := Fr.w Fr.rf rfl
      refine wpo_mono (ih (i + 1) _ _ (hM.ag (f1.ag rfl)) (hP.ag (f1.ag rfl)) ((f1 90 43 rfl).trans h43) (fun k b h c => ?_) hi (by omega) wI_s (fun j hj => ?_)) ?_
      · rw [wL_n (by omega)]
        exact hT k b h c
      · by_cases ej : j = i
        · subst ej; rw [wL_s]
        · rw [wL_n (by omega)]; exact h4 j (by omega)
      · rintro r ⟨a, b, c, d⟩
        exact ⟨f1.tr a, (FrL.w FrL.rf (by simp [inF])).tr b, c, d⟩
/-! both traces, whole -/
theorem traceC {g hd jd : Nat} (hg : 1000 ≤ g) (hR : RG p fe R) (hLn : Lnd W H K I) (hw : Wgt w hd I) (hP : PrC W H n z I) (hn0 : 0 < n) (hj : jd ≤ 1) : wpo (f_Prints_trace g S1 R I L 77 (nI jd)) (fun r => Fr [(77, some 7), (63, none), (60, some 5), (80, none)] I r.1 ∧ FrL [(79, none)] L r.2 ∧ r.1 77 7 = nI jd ∧ Lnd W H K r.1 ∧ (∀ x, x < 144 → HW W H K x (r.1 63 x)) ∧ TbC W H K w z n jd 0 r.1 r.2) := by
  have hn := hP.1
  have fa : Fr [(77, some 7)] I (wI I 77 7 (nI jd)) := Fr.w Fr.rf rfl
  have hLa := hLn.ag (fa.ag rfl)
  obtain ⟨I1, e1, a1, m1, d1⟩ := measure_c hg hR hLa.1 hLa.2.2.1 hLa.2.2.2
  have f1 : Fr [(77, some 7), (63, none), (60, some 5)] I I1 := (fa.sub rfl).tr (a1.sub rfl)
  have hL1 : Lnd W H K I1 := ⟨hLa.1.ag (a1.ag rfl), hLa.2.1.ag (a1.ag rfl), hLa.2.2.1.ag (a1.ag rfl), Or.inr ⟨m1, d1⟩⟩
  have hP1 : PrC W H n z I1 := hP.ag (f1.ag rfl)
  unfold f_Prints_trace
  have hj01 : nI jd = 0 ∨ nI jd = 1 := by
    have : jd = 0 ∨ jd = 1 := by omega
    rcases this with rfl | rfl
    · exact Or.inl rfl
    · exact Or.inr rfl
  rw [asrt_pos hj01, lt_c, r_77_0 hR, bnd1_c, t_60, asrt_pos rfl, e1, bnd1_c, hP1.2.1, sub1 (by omega), lt_c, wpo_b2]
  refine wpo_mono (trace19 (w := w) (hd := hd) (jd := jd) hg hR hj g (n - 1) I1 L hL1.1 hL1.2.2.1 (hw.ag (f1.ag rfl)) d1 hP1 (by rw [a1 77 7 rfl, wI_s]) (fun k a b => by omega) (by omega) (by omega)) ?_
  rintro ⟨J, M⟩ ⟨x, y, t⟩
  simp only at x y t
  refine wpo_some.mpr ⟨(f1.sub rfl).tr (x.sub rfl), y, ?_, hL1.ag (x.ag rfl), fun s hs => ?_, t⟩
  · show J 77 7 = _
    rw [x 77 7 rfl, a1 77 7 rfl, wI_s]
  · show HW W H K s (J 63 s)
    rw [x 63 s rfl]; exact d1 s hs
theorem traceM {g hd : Nat} (hg : 1000000000 ≤ g) (hR : RG p fe R) (hM : LM W H K I) (hw : Wgt w hd I) (hP : PrM W H n z I) (hn0 : 0 < n) (hb : ∀ s, s < 4 * (W * H) → (∃ d, d ≤ 144 ∧ DH W H K s d) ∨ ∀ d, ¬ rch W H K d s) : wpo (f_Mod_looksBack g S1 R I L 90) (fun r => Fr [(100, none), (116, none)] I r.1 ∧ FrL [(115, none)] L r.2 ∧ (∀ x, x < 4 * (W * H) → FWy W H K x (r.1 100 x)) ∧ TbM W H K w z n 0 r.1 r.2) := by
  have hn := hP.1
  obtain ⟨I1, e1, a1, d1⟩ := measures_c hg hR hM hb
  have hP1 : PrM W H n z I1 := hP.ag (a1.ag rfl)
  unfold f_Mod_looksBack
  rw [e1, bnd1_c, hP1.2.1, sub1 (by omega), lt_c, wpo_b2]
  refine wpo_mono (back11 (w := w) (hd := hd) (by omega) hR g (n - 1) I1 L (hM.ag (a1.ag rfl)) (hw.ag (a1.ag rfl)) d1 hP1 (fun k a b => by omega) (by omega) (by omega)) ?_
  rintro ⟨J, M⟩ ⟨x, y, t⟩
  simp only at x y t
  refine wpo_some.mpr ⟨(a1.sub rfl).tr (x.sub rfl), y, fun s hs => ?_, t⟩
  show FWy W H K s (J 100 s)
  rw [x 100 s rfl]; exact d1 s hs
theorem fewest_v {h0 jd : Nat} (hR : RG p fe R) (hn0 : 0 < n) (hh0 : h0 < 4) (h75 : I 77 5 = nI h0) (hT : TbC W H K w z n jd 0 I L) : f_Prints_fewestFalse S1 R I 77 = some (enc (LY W H K z (lmJ W H K w z jd) n (n - 1) h0)) := by
  have := (hT 0 (by omega) hn0 h0 hh0).1
  rw [Nat.mul_zero, Nat.zero_add, Nat.sub_zero] at this
  unfold f_Prints_fewestFalse
  rw [h75, ifb_neg (zn (by omega)), show (4 : Int32) = nI 4 from rfl, ifb_neg (by rw [le32 (by omega) (by omega)]; omega), r_77_4 hR, bnd1_c, lt_c, t_80, asrt_pos rfl, asrt_pos (vir (by omega) (by omega)), cl32 (by omega), this]
  rfl
theorem many_v {h0 jd : Nat} (hR : RG p fe R) (hn0 : 0 < n) (hh0 : h0 < 4) (h75 : I 77 5 = nI h0) (hT : TbC W H K w z n jd 0 I L) : f_Prints_manyRows S1 R I L 77 = some (lN (WY W H K z n (n - 1) h0)) := by
  have := (hT 0 (by omega) hn0 h0 hh0).2
  rw [Nat.mul_zero, Nat.zero_add, Nat.sub_zero] at this
  unfold f_Prints_manyRows
  rw [h75, ifb_neg (zn (by omega)), show (4 : Int32) = nI 4 from rfl, ifb_neg (by rw [le32 (by omega) (by omega)]; omega), r_77_3 hR, bnd1_c, lt_c, t_79, asrt_pos rfl, asrt_pos (vir (by omega) (by omega)), cl32 (by omega), this]
  rfl
end TF
