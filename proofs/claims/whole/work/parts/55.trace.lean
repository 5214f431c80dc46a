section TD
variable {W H B n : Nat} {K τ z w : Nat → Nat} {I I' : MI} {L : ML} {R : MR} {p : Bool} {fe : Nat} {q : Nat → Int32}
theorem LY_small {lm : Nat → Nat → Nat → Nat} (hlm : ∀ k h t, lm k h t ≤ 1) : ∀ (r h : Nat), LY W H K z lm n r h = 1000000 ∨ LY W H K z lm n r h ≤ r
  | 0, h => Or.inr (by rw [LY]; exact Nat.le_refl _)
  | r + 1, h => by
    rw [LY]
    have c : ∀ t, (@ite _ (ldp W H K z (n - 2 - r) h t) (Classical.propDecidable _) (lm (n - 2 - r) h t + LY W H K z lm n r (tq h t)) 1000000) ≥ 1000000 ∨ (@ite _ (ldp W H K z (n - 2 - r) h t) (Classical.propDecidable _) (lm (n - 2 - r) h t + LY W H K z lm n r (tq h t)) 1000000) ≤ r + 1 := fun t => by
      by_cases hl : ldp W H K z (n - 2 - r) h t
      · rw [if_pos hl]
        have := hlm (n - 2 - r) h t
        rcases LY_small hlm r (tq h t) with e | e <;> omega
      · rw [if_neg hl]; exact Or.inl (Nat.le_refl _)
    have c0 := c 0
    have c1 := c 1
    have c2 := c 2
    unfold minN minN minN minN
    generalize (@ite _ (ldp W H K z (n - 2 - r) h 0) (Classical.propDecidable _) (lm (n - 2 - r) h 0 + LY W H K z lm n r (tq h 0)) 1000000) = x0 at *
    generalize (@ite _ (ldp W H K z (n - 2 - r) h 1) (Classical.propDecidable _) (lm (n - 2 - r) h 1 + LY W H K z lm n r (tq h 1)) 1000000) = x1 at *
    generalize (@ite _ (ldp W H K z (n - 2 - r) h 2) (Classical.propDecidable _) (lm (n - 2 - r) h 2 + LY W H K z lm n r (tq h 2)) 1000000) = x2 at *
    omega
noncomputable def lmJ (W H : Nat) (K w z : Nat → Nat) (jd : Nat) (k h t : Nat) : Nat := if jd = 1 then lie W H K w z k h t else 0
theorem lmJ_le {jd k h t : Nat} : lmJ W H K w z jd k h t ≤ 1 := by
  unfold lmJ
  split
  · exact lie_le
  · omega
theorem lie_z {k h t : Nat} : lie W H K w (fun _ => z k) 0 h t = lie W H K w z k h t := rfl
/-- what one turn brings: rows, false calls -/
noncomputable def tW (W H : Nat) (K z : Nat → Nat) (n i h t : Nat) : Nat := @ite _ (ldp W H K z i h t) (Classical.propDecidable _) (WY W H K z n (n - 2 - i) (tq h t)) 0
noncomputable def tL (W H : Nat) (K z : Nat → Nat) (lm : Nat → Nat → Nat → Nat) (n i h t : Nat) : Nat := @ite _ (ldp W H K z i h t) (Classical.propDecidable _) (lm i h t + LY W H K z lm n (n - 2 - i) (tq h t)) 1000000
theorem WY_s {i h : Nat} (hi : i + 1 < n) : WY W H K z n (n - 1 - i) h = sumN (tW W H K z n i h) 3 := by
  rw [show n - 1 - i = (n - 2 - i) + 1 by omega, WY, show n - 2 - (n - 2 - i) = i by omega]
  rfl
theorem LY_s {lm : Nat → Nat → Nat → Nat} {i h : Nat} (hi : i + 1 < n) : LY W H K z lm n (n - 1 - i) h = minN (tL W H K z lm n i h) 3 := by
  rw [show n - 1 - i = (n - 2 - i) + 1 by omega, LY, show n - 2 - (n - 2 - i) = i by omega]
  rfl
theorem falseC_c {hd jd : Nat} (hL : LKc W H K I) (hA : LA W H K I) (hR : RG p fe R) (hw : Wgt w hd I) (hH : ∀ x, x < 144 → HW W H K x (I 63 x)) (hP : PrC W H n z I) (hj : jd ≤ 1) (h77 : I 77 7 = nI jd) {i h t : Nat} (hi : i + 1 < n) (hh : h < 4) (ht : t < 3)
    (h80 : ∀ h', h' < 4 → I 80 (4 * (i + 1) + h') = enc (LY W H K z (lmJ W H K w z jd) n (n - 2 - i) h')) : f_Prints_falseCalls S1 R I 77 (nI i) (nI h) (nI t) = some (enc (tL W H K z (lmJ W H K w z jd) n i h t)) := by
  have hn := hP.1
  have h4 := tq_lt h t
  unfold f_Prints_falseCalls tL
  rw [place_c hL hA hR hP hi hh ht, bnd1_c]
  by_cases hl : ldp W H K z i h t
  · rw [if_pos hl, if_pos hl, ifb_neg (zn (by omega)), r_77_4 hR, bnd1_c, t_80, asrt_pos rfl, show Int32.ofNat (20, 48).2 = nI 48 from rfl, ifb_neg (by rw [le32 (by omega) (by omega)]; omega), asrt_pos (vir (by omega) (by omega)), cl32 (by omega), h80 _ h4]
    have hs := LY_small (W := W) (H := H) (K := K) (z := z) (n := n) (lm := lmJ W H K w z jd) (fun _ _ _ => lmJ_le) (n - 2 - i) (tq h t)
    have hll := @lmJ_le W H K z w jd i h t
    by_cases hf : LY W H K z (lmJ W H K w z jd) n (n - 2 - i) (tq h t) = 1000000
    · rw [ifb_pos (enc_m1.mpr (by omega))]
      have : enc (lmJ W H K w z jd i h t + LY W H K z (lmJ W H K w z jd) n (n - 2 - i) (tq h t)) = -1 := enc_m1.mpr (by omega)
      rw [this]
    · rw [ifb_neg (fun q => hf (by have := enc_m1.mp q; omega)), asrt_pos (vir (by omega) (by omega)), h77]
      have eL : ∀ {β : Type} (gg : Int32 → Option β), bnd1 (ifb (nI jd = 0) (some (0 : Int32)) (bnd1 (f_Prints_cellAt S1 R I 77 (nI i)) fun x14 => bnd1 (f_Prints_isFalse S1 R I 77 ((x14 * 4) + nI h) (nI t)) fun x16 => ifb (x16 = 0) (some 0) (some 1))) gg = gg (nI (lmJ W H K w z jd i h t)) := fun gg => by
        unfold lmJ
        by_cases hj0 : jd = 0
        · rw [ifb_pos (by rw [hj0]; rfl), if_neg (by omega)]; rfl
        · have hz := hP.2.2 i (by omega)
          have hle := @lie_le W H K z w i h t
          rw [ifb_neg (by rw [nI0, eq32 (by omega) (by omega)]; exact hj0), cellAt_c hR (k := i) hP.2.1 hP.1 (by omega) hz.2, bnd1_c, show (4 : Int32) = nI 4 from rfl, pk_mul, nI_add, Nat.mul_comm (z i) 4, isFalse_c (z := fun _ => z i) hL hA hR hw hH hz.1 hh ht hl.1 rfl, bnd1_c, lie_z, if_pos (by omega)]
          have : lie W H K w z i h t = 0 ∨ lie W H K w z i h t = 1 := by omega
          rcases this with e | e <;> rw [e]
          · rw [ifb_pos (by decide)]; rfl
          · rw [ifb_neg (by decide)]; rfl
      rw [eL, lt_c]
      unfold enc
      rw [if_pos (by omega), if_pos (by omega), nI_add, Nat.add_comm]
  · rw [if_neg hl, if_neg hl, ifb_pos (by decide)]; rfl
theorem traceOn_c {hd jd : Nat} (hL : LKc W H K I) (hA : LA W H K I) (hR : RG p fe R) (hw : Wgt w hd I) (hH : ∀ x, x < 144 → HW W H K x (I 63 x)) (hP : PrC W H n z I) (hj : jd ≤ 1) (h77 : I 77 7 = nI jd) {i h t a m : Nat} (hi : i + 1 < n) (hh : h < 4) (ht : t < 3)
    (h80 : ∀ h', h' < 4 → I 80 (4 * (i + 1) + h') = enc (LY W H K z (lmJ W H K w z jd) n (n - 2 - i) h')) (h79 : ∀ h', h' < 4 → L 79 (4 * (i + 1) + h') = lN (WY W H K z n (n - 2 - i) h')) (hm : m ≤ 1000000) (e80 : I 80 (4 * i + h) = enc m) (e79 : L 79 (4 * i + h) = lN a) :
    wpo (f_Prints_traceOn S1 R I L 77 (nI i) (nI h) (nI t)) (fun r => Fr [(80, none)] I r.1 ∧ FrL [(79, none)] L r.2 ∧ (∀ j, j ≠ 4 * i + h → r.1 80 j = I 80 j ∧ r.2 79 j = L 79 j) ∧ r.1 80 (4 * i + h) = enc (min m (tL W H K z (lmJ W H K w z jd) n i h t)) ∧ r.2 79 (4 * i + h) = lN (a + tW W H K z n i h t)) := by
  have hn := hP.1
  have h4 := tq_lt h t
  have hfc := falseC_c hL hA hR hw hH hP hj h77 hi hh ht h80
  unfold f_Prints_traceOn
  rw [show (4 : Int32) = nI 4 from rfl, pk_mul, nI_add, lt_c, Nat.mul_comm i 4, place_c hL hA hR hP hi hh ht, bnd1_c, r_77_3 hR, bnd1_c, t_79, asrt_pos rfl, show Int32.ofNat (21, 48).2 = nI 48 from rfl, ifb_neg (by rw [le32 (by omega) (by omega)]; omega)]
  by_cases hl : ldp W H K z i h t
  · have hW : tW W H K z n i h t = WY W H K z n (n - 2 - i) (tq h t) := by unfold tW; rw [if_pos hl]
    rw [if_pos hl, ifb_neg (zn (by omega)), ifb_neg (by rw [le32 (by omega) (by omega)]; omega), asrt_pos (vir (by omega) (by omega)), asrt_pos (vir (by omega) (by omega)), cl32 (by omega), cl32 (by omega), e79, h79 _ h4, lN_add, lt_c, asrt_pos (vir (by omega) (by omega)), lt_c, hfc, bnd1_c, ← hW]
    have fL : FrL [(79, none)] L (wL L 79 (4 * i + h) (lN (a + tW W H K z n i h t))) := FrL.w FrL.rf (by simp [inF])
    generalize tL W H K z (lmJ W H K w z jd) n i h t = c at *
    by_cases hc : 1000000 ≤ c
    · rw [ifb_pos (enc_m1.mpr hc), bnd2_c]
      refine wpo_some.mpr ⟨Fr.rf, fL, fun j hj => ⟨rfl, wL_n (by omega)⟩, ?_, wL_s⟩
      rw [Nat.min_eq_left (by omega)]
      exact e80
    · have ec : enc c = nI c := by unfold enc; rw [if_pos (by omega)]
      rw [ifb_neg (fun q => hc (enc_m1.mp q)), r_77_4 hR, bnd1_c, t_80, asrt_pos rfl, asrt_pos (vir (by omega) (by omega)), e80, asrt_pos (vir (by omega) (by omega)), asrt_pos (vir (by omega) (by omega))]
      by_cases hm0 : 1000000 ≤ m
      · rw [ifb_pos (enc_m1.mpr hm0), lt_c, bnd2_c]
        refine wpo_some.mpr ⟨Fr.w Fr.rf (by simp [inF]), fL, fun j hj => ⟨wI_n (by omega), wL_n (by omega)⟩, ?_, wL_s⟩
        show wI I 80 (4 * i + h) (enc c) 80 (4 * i + h) = _
        rw [wI_s, Nat.min_eq_right (by omega)]
      · have em : enc m = nI m := by unfold enc; rw [if_pos (by omega)]
        rw [ifb_neg (fun q => hm0 (enc_m1.mp q)), em, ec]
        by_cases hle : m ≤ c
        · rw [ifb_pos (by rw [le32 (by omega) (by omega)]; exact hle), bnd2_c]
          refine wpo_some.mpr ⟨Fr.rf, fL, fun j hj => ⟨rfl, wL_n (by omega)⟩, ?_, wL_s⟩
          rw [Nat.min_eq_left hle, em]
          exact e80.trans em
        · rw [ifb_neg (by rw [le32 (by omega) (by omega)]; exact hle), lt_c, bnd2_c]
          refine wpo_some.mpr ⟨Fr.w Fr.rf (by simp [inF]), fL, fun j hj => ⟨wI_n (by omega), wL_n (by omega)⟩, ?_, wL_s⟩
          show wI I 80 (4 * i + h) (nI c) 80 (4 * i + h) = _
          rw [wI_s, Nat.min_eq_right (by omega), ec]
  · rw [if_neg hl, ifb_pos (by decide), bnd2_c]
    refine wpo_some.mpr ⟨Fr.rf, FrL.rf, fun j hj => ⟨rfl, rfl⟩, ?_, ?_⟩
    · unfold tL
      rw [if_neg hl, Nat.min_eq_left hm]
      exact e80
    · unfold tW
      rw [if_neg hl, Nat.add_zero]
      exact e79
theorem trace89 {hd jd : Nat} (hR : RG p fe R) (hj : jd ≤ 1) {i h : Nat} (hi : i + 1 < n) (hh : h < 4) : ∀ (f t : Nat) (I : MI) (L : ML), LKc W H K I → LA W H K I → Wgt w hd I → (∀ x, x < 144 → HW W H K x (I 63 x)) → PrC W H n z I → I 77 7 = nI jd →
    (∀ h', h' < 4 → I 80 (4 * (i + 1) + h') = enc (LY W H K z (lmJ W H K w z jd) n (n - 2 - i) h')) → (∀ h', h' < 4 → L 79 (4 * (i + 1) + h') = lN (WY W H K z n (n - 2 - i) h')) → t ≤ 3 → 3 < t + f →
    I 80 (4 * i + h) = enc (minN (tL W H K z (lmJ W H K w z jd) n i h) t) → L 79 (4 * i + h) = lN (sumN (tW W H K z n i h) t) →
    wpo (l_Prints_trace_89 S1 R 77 (nI i) (nI h) f I L (nI t)) (fun r => Fr [(80, none)] I r.1 ∧ FrL [(79, none)] L r.2 ∧ (∀ j, j ≠ 4 * i + h → r.1 80 j = I 80 j ∧ r.2 79 j = L 79 j) ∧ r.1 80 (4 * i + h) = enc (LY W H K z (lmJ W H K w z jd) n (n - 1 - i) h) ∧ r.2 79 (4 * i + h) = lN (WY W H K z n (n - 1 - i) h)) := by
  intro f
  induction f with
  | zero => intro t I L _ _ _ _ _ _ _ _ h1 h2; omega
  | succ f ih =>
    intro t I L hL hA hw hH hP h77 h80 h79 h1 h2 e80 e79
    have hn := hP.1
    rw [l_Prints_trace_89, show (3 : Int32) = nI 3 from rfl]
    by_cases e : t = 3
    · subst e
      rw [ifb_pos (by decide)]
      refine ⟨_, rfl, Fr.rf, FrL.rf, fun j _ => ⟨rfl, rfl⟩, ?_, ?_⟩
      · rw [LY_s hi]; exact e80
      · rw [WY_s hi]; exact e79
    · rw [ifb_neg (by rw [le32 (by omega) (by omega)]; omega), hP.2.1, sub1 (by omega), ifb_neg (by rw [le32 (by omega) (by omega)]; omega), wpo_b2, nI_1]
      refine wpo_mono (traceOn_c hL hA hR hw hH hP hj h77 hi hh (by omega) h80 h79 (minN_le _ _) e80 e79) ?_
      rintro ⟨I1, L1⟩ ⟨a, b, c, d, d2⟩
      simp only at a b c d d2
      refine wpo_mono (ih (t + 1) I1 L1 (hL.ag (a.ag rfl)) (hA.ag (a.ag rfl)) (hw.ag (a.ag rfl)) (fun x hx => by rw [a 63 x rfl]; exact hH x hx) (hP.ag (a.ag rfl)) ((a 77 7 rfl).trans h77) (fun h' hh' => by rw [(c _ (by omega)).1]; exact h80 h' hh') (fun h' hh' => by rw [(c _ (by omega)).2]; exact h79 h' hh') (by omega) (by omega) d d2) ?_
      rintro r ⟨a1, b1, c1, d1, d3⟩
      exact ⟨a.tr a1, b.tr b1, fun j hj => ⟨(c1 j hj).1.trans (c j hj).1, (c1 j hj).2.trans (c j hj).2⟩, d1, d3⟩
theorem trace31 {g hd jd : Nat} (hg : 1000 ≤ g) (hR : RG p fe R) (hj : jd ≤ 1) {i : Nat} (hi : i < n) : ∀ (f h : Nat) (I : MI) (L : ML), LKc W H K I → LA W H K I → Wgt w hd I → (∀ x, x < 144 → HW W H K x (I 63 x)) → PrC W H n z I → I 77 7 = nI jd →
    (i + 1 < n → ∀ h', h' < 4 → I 80 (4 * (i + 1) + h') = enc (LY W H K z (lmJ W H K w z jd) n (n - 2 - i) h') ∧ L 79 (4 * (i + 1) + h') = lN (WY W H K z n (n - 2 - i) h')) → h ≤ 4 → 4 < h + f →
    wpo (l_Prints_trace_31 g S1 R 77 (nI i) f I L (nI h)) (fun r => Fr [(80, none)] I r.1 ∧ FrL [(79, none)] L r.2 ∧ (∀ j, (j < 4 * i + h ∨ 4 * i + 4 ≤ j) → r.1 80 j = I 80 j ∧ r.2 79 j = L 79 j) ∧ ∀ h', h ≤ h' → h' < 4 → r.1 80 (4 * i + h') = enc (LY W H K z (lmJ W H K w z jd) n (n - 1 - i) h') ∧ r.2 79 (4 * i + h') = lN (WY W H K z n (n - 1 - i) h')) := by
  intro f
  induction f with
  | zero => intro h I L _ _ _ _ _ _ _ h1 h2; omega
  | succ f ih =>
    intro h I L hL hA hw hH hP h77 hrow h1 h2
    have hn := hP.1
    rw [l_Prints_trace_31, show (4 : Int32) = nI 4 from rfl]
    by_cases e : h = 4
    · subst e
      rw [ifb_pos (by decide)]
      exact ⟨_, rfl, Fr.rf, FrL.rf, fun j _ => ⟨rfl, rfl⟩, fun h' a b => by omega⟩
    · have fin : ∀ (I1 : MI) (L1 : ML), Fr [(80, none)] I I1 → FrL [(79, none)] L L1 → (∀ j, j ≠ 4 * i + h → I1 80 j = I 80 j ∧ L1 79 j = L 79 j) → I1 80 (4 * i + h) = enc (LY W H K z (lmJ W H K w z jd) n (n - 1 - i) h) → L1 79 (4 * i + h) = lN (WY W H K z n (n - 1 - i) h) →
          wpo (l_Prints_trace_31 g S1 R 77 (nI i) f I1 L1 (nI (h + 1))) (fun r => Fr [(80, none)] I r.1 ∧ FrL [(79, none)] L r.2 ∧ (∀ j, (j < 4 * i + h ∨ 4 * i + 4 ≤ j) → r.1 80 j = I 80 j ∧ r.2 79 j = L 79 j) ∧ ∀ h', h ≤ h' → h' < 4 → r.1 80 (4 * i + h') = enc (LY W H K z (lmJ W H K w z jd) n (n - 1 - i) h') ∧ r.2 79 (4 * i + h') = lN (WY W H K z n (n - 1 - i) h')) := by
        intro I1 L1 a b c d d2
        refine wpo_mono (ih (h + 1) I1 L1 (hL.ag (a.ag rfl)) (hA.ag (a.ag rfl)) (hw.ag (a.ag rfl)) (fun x hx => by rw [a 63 x rfl]; exact hH x hx) (hP.ag (a.ag rfl)) ((a 77 7 rfl).trans h77) (fun hi' h' hh' => by rw [(c _ (by omega)).1, (c _ (by omega)).2]; exact hrow hi' h' hh') (by omega) (by omega)) ?_
        rintro r ⟨a1, b1, c1, d1⟩
        refine ⟨a.tr a1, b.tr b1, fun j hj => ⟨(c1 j (by omega)).1.trans (c j (by omega)).1, (c1 j (by omega)).2.trans (c j (by omega)).2⟩, fun h' x1 x2 => ?_⟩
        by_cases eh : h' = h
        · subst eh
          exact ⟨(c1 _ (by omega)).1.trans d, (c1 _ (by omega)).2.trans d2⟩
        · exact d1 h' (by omega) x2
      rw [ifb_neg (by rw [le32 (by omega) (by omega)]; omega), r_77_3 hR, bnd1_c, hP.2.1, sub1 (by omega), nI_1]
      by_cases hl : i = n - 1
      · subst hl
        rw [ifb_pos rfl, bnd1_c, t_79, asrt_pos rfl, pk_mul, nI_add, asrt_pos (vir (by omega) (by omega)), lt_c, r_77_4 hR, bnd1_c, ifb_pos rfl, bnd1_c, t_80, asrt_pos rfl, asrt_pos (vir (by omega) (by omega)), lt_c, cl32 (by omega), Nat.mul_comm (n - 1) 4]
        have e89 : l_Prints_trace_89 S1 R 77 (nI (n - 1)) (nI h) g (wI I 80 (4 * (n - 1) + h) 0) (wL L 79 (4 * (n - 1) + h) 1) 0 = some (wI I 80 (4 * (n - 1) + h) 0, wL L 79 (4 * (n - 1) + h) 1) := by
          obtain ⟨g, rfl⟩ : ∃ g', g = g' + 1 := ⟨g - 1, by omega⟩
          rw [l_Prints_trace_89, ifb_neg (by decide), wI_n (by omega), hP.2.1, sub1 (by omega), ifb_pos (by rw [le32 (by omega) (by omega)]; omega)]
        rw [e89, bnd2_c]
        refine fin _ _ (Fr.w Fr.rf (by simp [inF])) (FrL.w FrL.rf (by simp [inF])) (fun j hj => ⟨wI_n (by omega), wL_n (by omega)⟩) ?_ ?_
        · rw [wI_s, show n - 1 - (n - 1) = 0 by omega, LY]; rfl
        · rw [wL_s, show n - 1 - (n - 1) = 0 by omega, WY]; rfl
      · have hi1 : i + 1 < n := by omega
        have hne : ¬ nI i = nI (n - 1) := by rw [eq32 (by omega) (by omega)]; exact hl
        rw [ifb_neg hne, bnd1_c, t_79, asrt_pos rfl, pk_mul, nI_add, asrt_pos (vir (by omega) (by omega)), lt_c, r_77_4 hR, bnd1_c, ifb_neg hne, bnd1_c, t_80, asrt_pos rfl, asrt_pos (vir (by omega) (by omega)), lt_c, cl32 (by omega), Nat.mul_comm i 4, wpo_b2, nI0]
        have f1 : Fr [(80, none)] I (wI I 80 (4 * i + h) (-1)) := Fr.w Fr.rf (by simp [inF])
        have f1L : FrL [(79, none)] L (wL L 79 (4 * i + h) 0) := FrL.w FrL.rf (by simp [inF])
        refine wpo_mono (trace89 (i := i) (h := h) hR hj hi1 (by omega) g 0 _ _ (hL.ag (f1.ag rfl)) (hA.ag (f1.ag rfl)) (hw.ag (f1.ag rfl)) (fun x hx => by rw [f1 63 x rfl]; exact hH x hx) (hP.ag (f1.ag rfl)) ((f1 77 7 rfl).trans h77) (fun h' hh' => by rw [wI_n (by omega)]; exact (hrow hi1 h' hh').1) (fun h' hh' => by rw [wL_n (by omega)]; exact (hrow hi1 h' hh').2) (by omega) (by omega) (by rw [wI_s]; rfl) (by rw [wL_s]; rfl)) ?_
        rintro ⟨I1, L1⟩ ⟨a, b, c, d, d2⟩
        exact fin I1 L1 (f1.tr a) (f1L.tr b) (fun j hj => ⟨(c j hj).1.trans (wI_n (by omega)), (c j hj).2.trans (wL_n (by omega))⟩) d d2
/-- the class's tables, from print k on -/
def TbC (W H : Nat) (K w z : Nat → Nat) (n jd k0 : Nat) (I : MI) (L : ML) : Prop := ∀ k, k0 ≤ k → k < n → ∀ h, h < 4 → I 80 (4 * k + h) = enc (LY W H K z (lmJ W H K w z jd) n (n - 1 - k) h) ∧ L 79 (4 * k + h) = lN (WY W H K z n (n - 1 - k) h)
theorem trace19 {g hd jd : Nat} (hg : 1000 ≤ g) (hR : RG p fe R) (hj : jd ≤ 1) : ∀ (f i : Nat) (I : MI) (L : ML), LKc W H K I → LA W H K I → Wgt w hd I → (∀ x, x < 144 → HW W H K x (I 63 x)) → PrC W H n z I → I 77 7 = nI jd → TbC W H K w z n jd (i + 1) I L → i < n → i + 2 < f →
    wpo (l_Prints_trace_19 g S1 R 77 f I L (nI i)) (fun r => Fr [(80, none)] I r.1 ∧ FrL [(79, none)] L r.2 ∧ TbC W H K w z n jd 0 r.1 r.2) := by
  intro f
  induction f with
  | zero => intro i I L _ _ _ _ _ _ _ h1 h2; omega
  | succ f ih =>
    intro i I L hL hA hw hH hP h77 hT h1 h2
    have hn := hP.1
    rw [l_Prints_trace_19, ifb_neg (zn (by omega)), show (12 : Int32) = nI 12 from rfl, ifb_neg (by rw [le32 (by omega) (by omega)]; omega), wpo_b2, nI0]
    refine wpo_mono (trace31 hg hR hj (i := i) h1 g 0 I L hL hA hw hH hP h77 (fun hi1 h' hh' => by
      have := hT (i + 1) (Nat.le_refl _) hi1 h' hh'
      rw [show n - 1 - (i + 1) = n - 2 - i by omega] at this
      exact this) (by omega) (by omega)) ?_
    rintro ⟨I1, L1⟩ ⟨a, b, c, d⟩
    simp only at a b c d
    have hT' : TbC W H K w z n jd i I1 L1 := fun k hk hkn h hh => by
      by_cases e : k = i
      · subst e
        exact d h (by omega) hh
      · rw [(c _ (by omega)).1, (c _ (by omega)).2]
        exact hT k (by omega) hkn h hh
    cases i with
    | zero =>
      obtain ⟨f, rfl⟩ : ∃ f', f = f' + 1 := ⟨f - 1, by omega⟩
      rw [l_Prints_trace_19, ifb_pos (by decide)]
      exact ⟨_, rfl, a, b, hT'⟩
    | succ i =>
      simp only
      rw [pk_m1]
      refine wpo_mono (ih i I1 L1 (hL.ag (a.ag rfl)) (hA.ag (a.ag rfl)) (hw.ag (a.ag rfl)) (fun x hx => by rw [a 63 x rfl]; exact hH x hx) (hP.ag (a.ag rfl)) ((a 77 7 rfl).trans h77) hT' (by omega) (by omega)) ?_
      rintro r ⟨x1, x2, x3⟩
      exact ⟨a.tr x1, b.tr x2, x3⟩
end TD
