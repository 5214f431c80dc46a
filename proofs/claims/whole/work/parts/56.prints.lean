section TE
variable {W H B n : Nat} {K τ z w : Nat → Nat} {I I' : MI} {L : ML} {R : MR} {p : Bool} {fe : Nat} {q : Nat → Int32}
theorem lmJ_1 : lmJ W H K w z 1 = lie W H K w z := by
  funext k h t
  unfold lmJ
  rw [if_pos rfl]
theorem back60 {g hd : Nat} (hR : RG p fe R) {k h : Nat} (hk : k + 1 < n) (hh : h < 4) (hM : LM W H K I) (hw : Wgt w hd I) (hF : ∀ x, x < 4 * (W * H) → FWy W H K x (I 100 x)) (hP : PrM W H n z I)
    (hrow : ∀ h', h' < 4 → I 116 (4 * (k + 1) + h') = nI (LY W H K z (lie W H K w z) n (n - 2 - k) h') ∧ L 115 (4 * (k + 1) + h') = lN (WY W H K z n (n - 2 - k) h')) : ∀ (f t : Nat), t ≤ 3 → 3 < t + f →
    l_Mod_looksBack_60 S1 R I L 90 (nI k) (nI h) f (lN (sumN (tW W H K z n k h) t)) (nI (minN (tL W H K z (lie W H K w z) n k h) t)) (nI t) = some (lN (WY W H K z n (n - 1 - k) h), nI (LY W H K z (lie W H K w z) n (n - 1 - k) h)) := by
  have hn := hP.1
  intro f
  induction f with
  | zero => intro t h1 h2; omega
  | succ f ih =>
    intro t h1 h2
    rw [l_Mod_looksBack_60, show (3 : Int32) = nI 3 from rfl]
    by_cases e : t = 3
    · subst e
      rw [ifb_pos (by decide), ← WY_s hk, ← LY_s hk]
    · have h4 := tq_lt h t
      have hml := minN_le (tL W H K z (lie W H K w z) n k h) t
      rw [ifb_neg (by rw [le32 (by omega) (by omega)]; omega), hP.2.1, sub1 (by omega), ifb_neg (by rw [le32 (by omega) (by omega)]; omega), leads_c hM hR hP hk hh (by omega), bnd1_c, nI_1]
      have hgo := ih (t + 1) (by omega) (by omega)
      have es : sumN (tW W H K z n k h) (t + 1) = sumN (tW W H K z n k h) t + tW W H K z n k h t := rfl
      have em : minN (tL W H K z (lie W H K w z) n k h) (t + 1) = min (minN (tL W H K z (lie W H K w z) n k h) t) (tL W H K z (lie W H K w z) n k h t) := rfl
      rw [es, em] at hgo
      by_cases hl : ldp W H K z k h t
      · have hle := @lie_le W H K z w k h t
        have hLL := @LY_le W H n K z (lie W H K w z) (n - 2 - k) (tq h t)
        have e1 : tW W H K z n k h t = WY W H K z n (n - 2 - k) (tq h t) := by unfold tW; rw [if_pos hl]
        have e2 : tL W H K z (lie W H K w z) n k h t = lie W H K w z k h t + LY W H K z (lie W H K w z) n (n - 2 - k) (tq h t) := by unfold tL; rw [if_pos hl]
        rw [if_pos hl, ifb_neg (show ¬ (1 : Int32) = 0 by decide), turned_c hh (by omega), bnd1_c, show (h + t + 3) % 4 = tq h t from rfl, show (4 : Int32) = nI 4 from rfl, nI_1, pk_mul, nI_add, lt_c, r_90_45 hR, bnd1_c, t_115, asrt_pos rfl, asrt_pos (vir (by omega) (by omega)), cl32 (by omega), (hrow _ h4).2, lN_add, lt_c, isLie_c hM hR hw hF hP (by omega) hh (by omega) hl.1, bnd1_c]
        have ef : f_Mod_flag (nI (lie W H K w z k h t)) = some (nI (lie W H K w z k h t)) := by
          have : lie W H K w z k h t = 0 ∨ lie W H K w z k h t = 1 := by omega
          rcases this with e | e <;> rw [e]
          · exact flag_0
          · exact flag_1
        rw [ef, bnd1_c, r_90_46 hR, bnd1_c, t_116, asrt_pos rfl, asrt_pos (vir (by omega) (by omega)), (hrow _ h4).1, nI_add, min_c (by omega) (by omega), bnd1_c, bnd2_c, ← e1, ← e2]
        exact hgo
      · have e1 : tW W H K z n k h t = 0 := by unfold tW; rw [if_neg hl]
        have e2 : tL W H K z (lie W H K w z) n k h t = 1000000 := by unfold tL; rw [if_neg hl]
        rw [if_neg hl, ifb_pos rfl, bnd2_c, nI_1]
        rw [e1, e2, Nat.add_zero, Nat.min_eq_left hml] at hgo
        exact hgo
theorem back17 {g hd : Nat} (hg : 1000 ≤ g) (hR : RG p fe R) {k : Nat} (hk : k < n) : ∀ (f h : Nat) (I : MI) (L : ML), LM W H K I → Wgt w hd I → (∀ x, x < 4 * (W * H) → FWy W H K x (I 100 x)) → PrM W H n z I →
    (k + 1 < n → ∀ h', h' < 4 → I 116 (4 * (k + 1) + h') = nI (LY W H K z (lie W H K w z) n (n - 2 - k) h') ∧ L 115 (4 * (k + 1) + h') = lN (WY W H K z n (n - 2 - k) h')) → h ≤ 4 → 4 < h + f →
    wpo (l_Mod_looksBack_17 g S1 R 90 (nI k) f I L (nI h)) (fun r => Fr [(116, none)] I r.1 ∧ FrL [(115, none)] L r.2 ∧ (∀ j, (j < 4 * k + h ∨ 4 * k + 4 ≤ j) → r.1 116 j = I 116 j ∧ r.2 115 j = L 115 j) ∧ ∀ h', h ≤ h' → h' < 4 → r.1 116 (4 * k + h') = nI (LY W H K z (lie W H K w z) n (n - 1 - k) h') ∧ r.2 115 (4 * k + h') = lN (WY W H K z n (n - 1 - k) h')) := by
  intro f
  induction f with
  | zero => intro h I L _ _ _ _ _ h1 h2; omega
  | succ f ih =>
    intro h I L hM hw hF hP hrow h1 h2
    have hn := hP.1
    rw [l_Mod_looksBack_17, show (4 : Int32) = nI 4 from rfl]
    by_cases e : h = 4
    · subst e
      rw [ifb_pos (by decide)]
      exact ⟨_, rfl, Fr.rf, FrL.rf, fun j _ => ⟨rfl, rfl⟩, fun h' a b => by omega⟩
    · have hLL := @LY_le W H n K z (lie W H K w z) (n - 1 - k) h
      have e60 : ∀ {β : Type} (gg : Int64 → Int32 → Option β), bnd1 (ifb (nI k = nI (n - 1)) (some (1 : Int64)) (some 0)) (fun y7 => bnd1 (ifb (nI k = nI (n - 1)) (some (0 : Int32)) (some 1000000)) fun y11 => bnd2 (l_Mod_looksBack_60 S1 R I L 90 (nI k) (nI h) g y7 y11 0) gg) = gg (lN (WY W H K z n (n - 1 - k) h)) (nI (LY W H K z (lie W H K w z) n (n - 1 - k) h)) := fun gg => by
        by_cases hl : k = n - 1
        · obtain ⟨g, rfl⟩ : ∃ g', g = g' + 1 := ⟨g - 1, by omega⟩
          have ek : nI k = nI (n - 1) := by rw [hl]
          rw [ifb_pos ek, bnd1_c, ifb_pos ek, bnd1_c, l_Mod_looksBack_60, ifb_neg (by decide), hP.2.1, sub1 (by omega), ifb_pos (by rw [le32 (by omega) (by omega)]; omega), bnd2_c, show n - 1 - k = 0 by omega, WY, LY]; rfl
        · have ek : ¬ nI k = nI (n - 1) := by rw [eq32 (by omega) (by omega)]; exact hl
          rw [ifb_neg ek, bnd1_c, ifb_neg ek, bnd1_c, show l_Mod_looksBack_60 S1 R I L 90 (nI k) (nI h) g 0 1000000 0 = _ from back60 (g := g) hR (by omega : k + 1 < n) (by omega : h < 4) hM hw hF hP (hrow (by omega)) g 0 (by omega) (by omega), bnd2_c]
      rw [ifb_neg (by rw [le32 (by omega) (by omega)]; omega), hP.2.1, sub1 (by omega), e60, r_90_45 hR, bnd1_c, t_115, asrt_pos rfl, pk_mul, nI_add, asrt_pos (vir (by omega) (by omega)), lt_c, r_90_46 hR, bnd1_c, show (1000000 : Int32) = nI 1000000 from rfl, min_c (by omega) (by omega), bnd1_c, t_116, asrt_pos rfl, asrt_pos (vir (by omega) (by omega)), lt_c, cl32 (by omega), nI_1, Nat.min_eq_right hLL]
      have f1 : Fr [(116, none)] I (wI I 116 (4 * k + h) (nI (LY W H K z (lie W H K w z) n (n - 1 - k) h))) := Fr.w Fr.rf (by simp [inF])
      refine wpo_mono (ih (h + 1) _ (wL L 115 (4 * k + h) (lN (WY W H K z n (n - 1 - k) h))) (hM.ag (f1.ag rfl)) (hw.ag (f1.ag rfl)) (fun x hx => by rw [f1 100 x rfl]; exact hF x hx) (hP.ag (f1.ag rfl)) (fun hk1 h' hh' => by rw [wI_n (by omega), wL_n (by omega)]; exact hrow hk1 h' hh') (by omega) (by omega)) ?_
      rintro r ⟨a, b, c, d⟩
      refine ⟨f1.tr a, (FrL.w FrL.rf (by simp [inF])).tr b, fun j hj => ⟨(c j (by omega)).1.trans (wI_n (by omega)), (c j (by omega)).2.trans (wL_n (by omega))⟩, fun h' x1 x2 => ?_⟩
      by_cases eh : h' = h
      · subst eh
        exact ⟨(c _ (by omega)).1.trans wI_s, (c _ (by omega)).2.trans wL_s⟩
      · exact d h' (by omega) x2
def TbM (W H : Nat) (K w z : Nat → Nat) (n k0 : Nat) (I : MI) (L : ML) : Prop := ∀ k, k0 ≤ k → k < n → ∀ h, h < 4 → I 116 (4 * k + h) = nI (LY W H K z (lie W H K w z) n (n - 1 - k) h) ∧ L 115 (4 * k + h) = lN (WY W H K z n (n - 1 - k) h)
theorem back11 {g hd : Nat} (hg : 1000 ≤ g) (hR : RG p fe R) : ∀ (f i : Nat) (I : MI) (L : ML), LM W H K I → Wgt w hd I → (∀ x, x < 4 * (W * H) → FWy W H K x (I 100 x)) → PrM W H n z I → TbM W H K w z n (i + 1) I L → i < n → i + 2 < f →
    wpo (l_Mod_looksBack_11 g S1 R 90 f I L (nI i)) (fun r => Fr [(116, none)] I r.1 ∧ FrL [(115, none)] L r.2 ∧ TbM W H K w z n 0 r.1 r.2) := by
  intro f
  induction f with
  | zero => intro i I L _ _ _ _ _ h1 h2; omega
  | succ f ih =>
    intro i I L hM hw hF hP hT h1 h2
    have hn := hP.1
    rw [l_Mod_looksBack_11, ifb_neg (zn (by omega)), wpo_b2, nI0]
    refine wpo_mono (back17 hg hR (k := i) h1 g 0 I L hM hw hF hP (fun hi1 h' hh' => by
      have := hT (i + 1) (Nat.le_refl _) hi1 h' hh'
      rw [show n - 1 - (i + 1) = n - 2 - i by omega] at this
      exact this) (by omega) (by omega)) ?_
    rintro ⟨I1, L1⟩ ⟨a, b, c, d⟩
    simp only at a b c d
    have hT' : TbM W H K w z n i I1 L1 := fun k hk hkn h hh => by
      by_cases e : k = i
      · subst e
        exact d h (by omega) hh
      · rw [(c _ (by omega)).1, (c _ (by omega)).2]
        exact hT k (by omega) hkn h hh
    cases i with
    | zero =>
      obtain ⟨f, rfl⟩ : ∃ f', f = f' + 1 := ⟨f - 1, by omega⟩
      rw [l_Mod_looksBack_11, ifb_pos (by decide)]
      exact ⟨_, rfl, a, b, hT'⟩
    | succ i =>
      simp only
      rw [pk_m1]
      refine wpo_mono (ih i I1 L1 (hM.ag (a.ag rfl)) (hw.ag (a.ag rfl)) (fun x hx => by rw [a 100 x rfl]; exact hF x hx) (hP.ag (a.ag rfl)) hT' (by omega) (by omega)) ?_
      rintro r ⟨x1, x2, x3⟩
      exact ⟨a.tr x1, b.tr x2, x3⟩
/-! the least row -/
noncomputable def ltP (P : Nat → Prop) : Nat := @ite _ (P 0) (Classical.propDecidable _) 0 (@ite _ (P 1) (Classical.propDecidable _) 1 2)
theorem ltP_lt {P : Nat → Prop} : ltP P < 3 := by
  unfold ltP
  by_cases h0 : P 0
  · rw [if_pos h0]; omega
  · rw [if_neg h0]
    by_cases h1 : P 1
    · rw [if_pos h1]; omega
    · rw [if_neg h1]; omega
theorem ltP_P {P : Nat → Prop} (h : ∃ t, t < 3 ∧ P t) : P (ltP P) := by
  unfold ltP
  by_cases h0 : P 0
  · rw [if_pos h0]; exact h0
  · rw [if_neg h0]
    by_cases h1 : P 1
    · rw [if_pos h1]; exact h1
    · rw [if_neg h1]
      obtain ⟨t, ht, hp⟩ := h
      have : t = 0 ∨ t = 1 ∨ t = 2 := by omega
      rcases this with rfl | rfl | rfl
      · exact absurd hp h0
      · exact absurd hp h1
      · exact hp
theorem ltP_find {P : Nat → Prop} {F : Nat → Int32 → Option Int32} (ht : ∀ f t, t < 3 → P t → F (f + 1) (nI t) = some (nI t)) (hf : ∀ f t, t < 3 → ¬ P t → F (f + 1) (nI t) = F f (nI (t + 1))) (h : ∃ t, t < 3 ∧ P t) {g : Nat} (hg : 4 ≤ g) : F g 0 = some (nI (ltP P)) := by
  obtain ⟨g, rfl⟩ : ∃ g', g = g' + 3 := ⟨g - 3, by omega⟩
  have hp := ltP_P h
  unfold ltP at hp ⊢
  by_cases h0 : P 0
  · rw [if_pos h0]; exact ht _ 0 (by omega) h0
  · rw [if_neg h0] at hp ⊢
    have e0 : F (g + 3) 0 = F (g + 2) (nI 1) := hf _ 0 (by omega) h0
    rw [e0]
    by_cases h1 : P 1
    · rw [if_pos h1]; exact ht _ 1 (by omega) h1
    · rw [if_neg h1] at hp ⊢
      rw [hf _ 1 (by omega) h1]
      exact ht _ 2 (by omega) hp
/-- the turn taken at print i, and the heading there -/
noncomputable def tlT (W H : Nat) (K z : Nat → Nat) (lm : Nat → Nat → Nat → Nat) (n i h : Nat) : Nat := ltP (fun t => tL W H K z lm n i h t = LY W H K z lm n (n - 1 - i) h)
noncomputable def phS (W H : Nat) (K z : Nat → Nat) (lm : Nat → Nat → Nat → Nat) (n h0 : Nat) : Nat → Nat
  | 0 => h0
  | i + 1 => tq (phS W H K z lm n h0 i) (tlT W H K z lm n i (phS W H K z lm n h0 i))
noncomputable def phV (W H : Nat) (K z : Nat → Nat) (lm : Nat → Nat → Nat → Nat) (n h0 i : Nat) : Nat := tlT W H K z lm n i (phS W H K z lm n h0 i)
theorem phS_lt {lm : Nat → Nat → Nat → Nat} {h0 : Nat} (hh : h0 < 4) : ∀ i, phS W H K z lm n h0 i < 4
  | 0 => hh
  | i + 1 => tq_lt _ _
theorem minN_ex {f : Nat → Nat} (h : minN f 3 < 1000000) : ∃ t, t < 3 ∧ f t = minN f 3 := by
  unfold minN minN minN minN at h ⊢
  by_cases h0 : f 0 = min (min (min 1000000 (f 0)) (f 1)) (f 2)
  · exact ⟨0, by omega, h0⟩
  · by_cases h1 : f 1 = min (min (min 1000000 (f 0)) (f 1)) (f 2)
    · exact ⟨1, by omega, h1⟩
    · exact ⟨2, by omega, by omega⟩
theorem tlT_ex {lm : Nat → Nat → Nat → Nat} {i h : Nat} (hi : i + 1 < n) (hf : LY W H K z lm n (n - 1 - i) h < 1000000) : ∃ t, t < 3 ∧ tL W H K z lm n i h t = LY W H K z lm n (n - 1 - i) h := by
  rw [LY_s hi] at hf ⊢
  exact minN_ex hf
theorem tlT_ok {lm : Nat → Nat → Nat → Nat} {i h : Nat} (hi : i + 1 < n) (hf : LY W H K z lm n (n - 1 - i) h < 1000000) : ldp W H K z i h (tlT W H K z lm n i h) ∧ LY W H K z lm n (n - 2 - i) (tq h (tlT W H K z lm n i h)) < 1000000 := by
  have hp := ltP_P (tlT_ex hi hf)
  have e : tL W H K z lm n i h (tlT W H K z lm n i h) = LY W H K z lm n (n - 1 - i) h := hp
  unfold tL at e
  by_cases hl : ldp W H K z i h (tlT W H K z lm n i h)
  · rw [if_pos hl] at e
    exact ⟨hl, by omega⟩
  · rw [if_neg hl] at e
    omega
theorem phS_ok {lm : Nat → Nat → Nat → Nat} {h0 : Nat} (hf : LY W H K z lm n (n - 1) h0 < 1000000) : ∀ i, i < n → LY W H K z lm n (n - 1 - i) (phS W H K z lm n h0 i) < 1000000
  | 0, _ => hf
  | i + 1, hi => by
    have := (tlT_ok hi (phS_ok hf i (by omega))).2
    rw [show n - 1 - (i + 1) = n - 2 - i by omega]
    exact this
theorem tell_l {g hd jd h0 : Nat} (hg : 1000 ≤ g) (hR : RG p fe R) (hj : jd ≤ 1) (hh0 : h0 < 4) (hf0 : LY W H K z (lmJ W H K w z jd) n (n - 1) h0 < 1000000) (hn0 : 0 < n) : ∀ (f i : Nat) (I : MI) (L : ML), LKc W H K I → LA W H K I → Wgt w hd I → (∀ x, x < 144 → HW W H K x (I 63 x)) → PrC W H n z I → I 77 7 = nI jd → I 77 5 = nI h0 → TbC W H K w z n jd 0 I L → i < n → n < i + f → I 3 1 = nI i → (∀ j, j < i → L 4 j = (nI (phV W H K z (lmJ W H K w z jd) n h0 j)).toInt64) →
    wpo (l_Prints_tellLeast_7 g S1 R 77 3 f I L (nI (phS W H K z (lmJ W H K w z jd) n h0 i)) (nI i)) (fun r => Fr [(3, some 1)] I r.1 ∧ FrL [(4, none)] L r.2 ∧ r.1 3 1 = nI (n - 1) ∧ ∀ j, j < n - 1 → r.2 4 j = (nI (phV W H K z (lmJ W H K w z jd) n h0 j)).toInt64) := by
  intro f
  induction f with
  | zero => intro i I L _ _ _ _ _ _ _ _ h1 h2; omega
  | succ f ih =>
    intro i I L hL hA hw hH hP h77 h75 hT h1 h2 h3 h4
    have hn := hP.1
    rw [l_Prints_tellLeast_7, hP.2.1, sub1 (by omega)]
    by_cases e : i = n - 1
    · subst e
      rw [ifb_pos (by rw [le32 (by omega) (by omega)]; omega)]
      exact ⟨_, rfl, Fr.rf, FrL.rf, h3, h4⟩
    · have hi : i + 1 < n := by omega
      have hfe : f_Prints_fewestFalse S1 R I 77 = some (enc (LY W H K z (lmJ W H K w z jd) n (n - 1) h0)) := by
        have := (hT 0 (by omega) hn0 h0 hh0).1
        rw [Nat.mul_zero, Nat.zero_add, Nat.sub_zero] at this
        unfold f_Prints_fewestFalse
        rw [h75, ifb_neg (zn (by omega)), show (4 : Int32) = nI 4 from rfl, ifb_neg (by rw [le32 (by omega) (by omega)]; omega), r_77_4 hR, bnd1_c, lt_c, t_80, asrt_pos rfl, asrt_pos (vir (by omega) (by omega)), cl32 (by omega), this]
        rfl
      have hph := @phS_lt W H n K z (lmJ W H K w z jd) h0 hh0 i
      have hfi := phS_ok hf0 i (by omega)
      have h80 : ∀ h', h' < 4 → I 80 (4 * (i + 1) + h') = enc (LY W H K z (lmJ W H K w z jd) n (n - 2 - i) h') := fun h' hh' => by
        have := (hT (i + 1) (by omega) hi h' hh').1
        rw [show n - 1 - (i + 1) = n - 2 - i by omega] at this
        exact this
      have hlt : f_Prints_leastTurn g S1 R I 77 (nI i) (nI (phS W H K z (lmJ W H K w z jd) n h0 i)) = some (nI (phV W H K z (lmJ W H K w z jd) n h0 i)) := by
        unfold f_Prints_leastTurn phV tlT
        rw [show (4 : Int32) = nI 4 from rfl, pk_mul, nI_add, lt_c]
        have here := (hT i (by omega) (by omega) _ hph).1
        generalize phS W H K z (lmJ W H K w z jd) n h0 i = h at *
        have e80 : I 80 (i * 4 + h) = enc (LY W H K z (lmJ W H K w z jd) n (n - 1 - i) h) := by rw [Nat.mul_comm]; exact here
        refine ltP_find (F := l_Prints_leastTurn_9 S1 R I 77 (nI i) (nI h) (nI (i * 4 + h))) (P := fun t => tL W H K z (lmJ W H K w z jd) n i h t = LY W H K z (lmJ W H K w z jd) n (n - 1 - i) h) (fun f t ht hp => ?_) (fun f t ht hp => ?_) (tlT_ex hi hfi) (by omega)
        · rw [l_Prints_leastTurn_9, show (3 : Int32) = nI 3 from rfl, ifb_neg (by rw [le32 (by omega) (by omega)]; omega), falseC_c hL hA hR hw hH hP hj h77 hi hph ht h80, bnd1_c, hp, ifb_neg (fun q => by have := enc_m1.mp q; omega), ifb_neg (zn (by omega)), r_77_4 hR, bnd1_c, t_80, asrt_pos rfl, show Int32.ofNat (20, 48).2 = nI 48 from rfl, ifb_neg (by rw [le32 (by omega) (by omega)]; omega), asrt_pos (vir (by omega) (by omega)), cl32 (by omega), e80, ifb_pos rfl]
        · have hne : ¬ enc (tL W H K z (lmJ W H K w z jd) n i h t) = enc (LY W H K z (lmJ W H K w z jd) n (n - 1 - i) h) ∨ enc (tL W H K z (lmJ W H K w z jd) n i h t) = -1 := by
            by_cases hm : 1000000 ≤ tL W H K z (lmJ W H K w z jd) n i h t
            · exact Or.inr (enc_m1.mpr hm)
            · left
              unfold enc
              rw [if_pos (by omega), if_pos hfi, eq32 (by omega) (by omega)]
              exact hp
          rw [l_Prints_leastTurn_9, show (3 : Int32) = nI 3 from rfl, ifb_neg (by rw [le32 (by omega) (by omega)]; omega), falseC_c hL hA hR hw hH hP hj h77 hi hph ht h80, bnd1_c, nI_1]
          by_cases hm1 : enc (tL W H K z (lmJ W H K w z jd) n i h t) = -1
          · rw [ifb_pos hm1]
          · rw [ifb_neg hm1, ifb_neg (zn (by omega)), r_77_4 hR, bnd1_c, t_80, asrt_pos rfl, show Int32.ofNat (20, 48).2 = nI 48 from rfl, ifb_neg (by rw [le32 (by omega) (by omega)]; omega), asrt_pos (vir (by omega) (by omega)), cl32 (by omega), e80, ifb_neg (hne.resolve_right hm1)]
      have htq : ((nI (phS W H K z (lmJ W H K w z jd) n h0 i) + nI (phV W H K z (lmJ W H K w z jd) n h0 i)) + 3) &&& 3 = nI (phS W H K z (lmJ W H K w z jd) n h0 (i + 1)) := by
        have : phV W H K z (lmJ W H K w z jd) n h0 i < 3 := by unfold phV tlT; exact ltP_lt
        rw [nI_add, show (3 : Int32) = nI 3 from rfl, nI_add, show nI 3 = (3 : Int32) from rfl, and3 (by omega)]
        rfl
      rw [ifb_neg (by rw [le32 (by omega) (by omega)]; omega), hfe, bnd1_c, ifb_neg (fun q => by have := enc_m1.mp q; omega), hlt, bnd1_c, t_3, asrt_pos rfl, add_c hR h3 (by omega), bnd2_c, htq, lt_c, nI_1]
      have f1 : Fr [(3, some 1)] I (wI I 3 1 (nI (i + 1))) := Fr.w Fr.rf rfl
      refine wpo_mono (ih (i + 1) _ _ (hL.ag (f1.ag rfl)) (hA.ag (f1.ag rfl)) (hw.ag (f1.ag rfl)) (fun x hx => by rw [f1 63 x rfl]; exact hH x hx) (hP.ag (f1.ag rfl)) ((f1 77 7 rfl).trans h77) ((f1 77 5 rfl).trans h75) (fun k a b h c => ?_) hi (by omega) wI_s (fun j hj => ?_)) ?_
      · rw [f1 80 _ rfl, wL_n (by omega)]
        exact hT k a b h c
      · by_cases ej : j = i
        · subst ej; rw [wL_s]
        · rw [wL_n (by omega)]; exact h4 j (by omega)
      · rintro r ⟨a, b, c, d⟩
        exact ⟨f1.tr a, (FrL.w FrL.rf (by simp [inF])).tr b, c, d⟩
theorem mlies_l {g hd h0 : Nat} (hg : 1000 ≤ g) (hR : RG p fe R) (hh0 : h0 < 4) (hf0 : LY W H K z (lie W H K w z) n (n - 1) h0 < 1000000) {v1 : Int32} : ∀ (f i : Nat) (I : MI) (L : ML), LM W H K I → Wgt w hd I → (∀ x, x < 4 * (W * H) → FWy W H K x (I 100 x)) → PrM W H n z I → TbM W H K w z n 0 I L → i < n → n < i + f → I 90 1 = nI i → (∀ j, j < i → L 91 j = (nI (phV W H K z (lie W H K w z) n h0 j)).toInt64) →
    wpo (l_Mod_lies_50 g S1 R 90 v1 f I L (nI (phS W H K z (lie W H K w z) n h0 i)) (nI i)) (fun r => Fr [(90, some 1)] I r.1 ∧ FrL [(91, none)] L r.2 ∧ r.1 90 1 = nI (n - 1) ∧ ∀ j, j < n - 1 → r.2 91 j = (nI (phV W H K z (lie W H K w z) n h0 j)).toInt64) := by
  intro f
  induction f with
  | zero => intro i I L _ _ _ _ _ h1 h2; omega
  | succ f ih =>
    intro i I L hM hw hF hP hT h1 h2 h3 h4
    have hn := hP.1
    rw [l_Mod_lies_50, hP.2.1, sub1 (by omega)]
    by_cases e : i = n - 1
    · subst e
      rw [ifb_pos (by rw [le32 (by omega) (by omega)]; omega)]
      exact ⟨_, rfl, Fr.rf, FrL.rf, h3, h4⟩
    · have hi : i + 1 < n := by omega
      have hph := @phS_lt W H n K z (lie W H K w z) h0 hh0 i
      have hfi := phS_ok hf0 i (by omega)
      have here := (hT i (by omega) (by omega) _ hph).1
      have hlt3 : phV W H K z (lie W H K w z) n h0 i < 3 := by unfold phV tlT; exact ltP_lt
      have hfind : l_Mod_lies_75 S1 R I 90 v1 (nI (phS W H K z (lie W H K w z) n h0 i)) (nI i) (nI (LY W H K z (lie W H K w z) n (n - 1 - i) (phS W H K z (lie W H K w z) n h0 i))) g 0 = some (nI (phV W H K z (lie W H K w z) n h0 i)) := by
        unfold phV tlT
        generalize phS W H K z (lie W H K w z) n h0 i = h at *
        have ef : ∀ t, f_Mod_flag (nI (lie W H K w z i h t)) = some (nI (lie W H K w z i h t)) := fun t => by
          have := @lie_le W H K z w i h t
          have : lie W H K w z i h t = 0 ∨ lie W H K w z i h t = 1 := by omega
          rcases this with e | e <;> rw [e]
          · exact flag_0
          · exact flag_1
        have hstep : ∀ f t, t < 3 → ldp W H K z i h t → l_Mod_lies_75 S1 R I 90 v1 (nI h) (nI i) (nI (LY W H K z (lie W H K w z) n (n - 1 - i) h)) (f + 1) (nI t) = ifb (nI (lie W H K w z i h t + LY W H K z (lie W H K w z) n (n - 2 - i) (tq h t)) = nI (LY W H K z (lie W H K w z) n (n - 1 - i) h)) (some (nI t)) (l_Mod_lies_75 S1 R I 90 v1 (nI h) (nI i) (nI (LY W H K z (lie W H K w z) n (n - 1 - i) h)) f (nI (t + 1))) := fun f t ht hl => by
          have h4' := tq_lt h t
          have hrow := (hT (i + 1) (by omega) hi _ h4').1
          rw [show n - 1 - (i + 1) = n - 2 - i by omega] at hrow
          rw [l_Mod_lies_75, leads_c hM hR hP hi hph ht, bnd1_c, if_pos hl, ifb_neg (show ¬ (1 : Int32) = 0 by decide), isLie_c hM hR hw hF hP (by omega) hph ht hl.1, bnd1_c, ef, bnd1_c, r_90_46 hR, bnd1_c, turned_c hph ht, bnd1_c, show (h + t + 3) % 4 = tq h t from rfl, show (4 : Int32) = nI 4 from rfl, nI_1, pk_mul, nI_add, lt_c, t_116, asrt_pos rfl, asrt_pos (vir (by omega) (by omega)), cl32 (by omega), hrow, nI_add, nI_1]
        refine ltP_find (F := l_Mod_lies_75 S1 R I 90 v1 (nI h) (nI i) (nI (LY W H K z (lie W H K w z) n (n - 1 - i) h))) (P := fun t => tL W H K z (lie W H K w z) n i h t = LY W H K z (lie W H K w z) n (n - 1 - i) h) (fun f t ht hp => ?_) (fun f t ht hp => ?_) (tlT_ex hi hfi) (by omega)
        · have hl : ldp W H K z i h t := Classical.byContradiction fun hl => by
            have hp' : tL W H K z (lie W H K w z) n i h t = LY W H K z (lie W H K w z) n (n - 1 - i) h := hp
            unfold tL at hp'
            rw [if_neg hl] at hp'
            omega
          have hp' : tL W H K z (lie W H K w z) n i h t = LY W H K z (lie W H K w z) n (n - 1 - i) h := hp
          unfold tL at hp'
          rw [if_pos hl] at hp'
          rw [hstep f t ht hl, hp', ifb_pos rfl]
        · by_cases hl : ldp W H K z i h t
          · have hp' : ¬ tL W H K z (lie W H K w z) n i h t = LY W H K z (lie W H K w z) n (n - 1 - i) h := hp
            unfold tL at hp'
            rw [if_pos hl] at hp'
            have := @lie_le W H K z w i h t
            have := @LY_le W H n K z (lie W H K w z) (n - 2 - i) (tq h t)
            rw [hstep f t ht hl, ifb_neg (by rw [eq32 (by omega) (by omega)]; exact hp')]
          · rw [l_Mod_lies_75, leads_c hM hR hP hi hph ht, bnd1_c, if_neg hl, ifb_pos rfl, nI_1]
      rw [ifb_neg (by rw [le32 (by omega) (by omega)]; omega), r_90_46 hR, bnd1_c, show (4 : Int32) = nI 4 from rfl, pk_mul, nI_add, lt_c, t_116, asrt_pos rfl, asrt_pos (vir (by omega) (by omega)), lt_c, cl32 (by omega), here, hfind, bnd1_c, enters_c hR h3 (by omega), bnd2_c, turned_c hph hlt3, bnd1_c, nI_1]
      have f1 : Fr [(90, some 1)] I (wI I 90 1 (nI (i + 1))) := Fr.w Fr.rf rfl
      refine wpo_mono (ih (i + 1) _ _ (hM.ag (f1.ag rfl)) (hw.ag (f1.ag rfl)) (fun x hx => by rw [f1 100 x rfl]; exact hF x hx) (hP.ag (f1.ag rfl)) (fun k a b h c => ?_) hi (by omega) wI_s (fun j hj => ?_)) ?_
      · rw [f1 116 _ rfl, wL_n (by omega)]
        exact hT k a b h c
      · by_cases ej : j = i
        · subst ej; rw [wL_s]
        · rw [wL_n (by omega)]; exact h4 j (by omega)
      · rintro r ⟨a, b, c, d⟩
        exact ⟨f1.tr a, (FrL.w FrL.rf (by simp [inF])).tr b, c, d⟩
end TE
