section WM
variable {W H m s0 n k hd h0 N b q : Nat} {K w : Nat → Nat} {l : Nat → Int} {I I' : MI} {L L' L0 : ML} {R : MR} {p : Bool} {fe : Nat}
theorem ptn_sum (hw : w 0 + w 1 + w 2 = 10) (hh : hd ≤ 10) {u : Nat} (hu : u < 4) : ptn w hd 0 u + ptn w hd 1 u + ptn w hd 2 u = 100 := by
  have h1 : (10 - hd) * w 0 + (10 - hd) * w 1 + (10 - hd) * w 2 = (10 - hd) * 10 := by rw [← Nat.mul_add, ← Nat.mul_add, hw]
  unfold ptn
  have : u = 0 ∨ u = 1 ∨ u = 2 ∨ u = 3 := by omega
  rcases this with rfl | rfl | rfl | rfl <;> simp <;> omega
theorem wmB {A : Nat → Int} {X : Int} (hw : w 0 + w 1 + w 2 = 10) (hh : hd ≤ 10) {u : Nat} (hu : u < 4) (s : Nat) (h : ∀ t, t < 3 → -X ≤ A (aft W H K s t) ∧ A (aft W H K s t) ≤ X) : -(100 * X) ≤ wm W H K w hd u A s ∧ wm W H K w hd u A s ≤ 100 * X := by
  have h0 := mulB (x := (ptn w hd 0 u : Nat)) (by omega) (h 0 (by omega)).1 (h 0 (by omega)).2
  have h1 := mulB (x := (ptn w hd 1 u : Nat)) (by omega) (h 1 (by omega)).1 (h 1 (by omega)).2
  have h2 := mulB (x := (ptn w hd 2 u : Nat)) (by omega) (h 2 (by omega)).1 (h 2 (by omega)).2
  have hp := ptn_sum hw hh hu
  have hs : (100 : Int) * X = (ptn w hd 0 u : Nat) * X + (ptn w hd 1 u : Nat) * X + (ptn w hd 2 u : Nat) * X := by
    rw [← Int.add_mul, ← Int.add_mul]
    congr 1
    omega
  unfold wm
  omega
theorem mxJ_c {a b : Int} (ha : B63 a) (hb : B63 b) : f_JMath_max_JJ (iL a) (iL b) = some (iL (max a b)) := by
  unfold f_JMath_max_JJ
  by_cases h : a < b
  · rw [ifb_pos (by rw [lg_cmp_lt, iL_lt ha hb]; exact h), bnd1_c, Int.max_eq_right (by omega)]
  · rw [ifb_neg (by rw [lg_cmp_lt, iL_lt ha hb]; exact h), bnd1_c, Int.max_eq_left (by omega)]
/-- the model's best chance: q says whether calls are open -/
def mW (W H : Nat) (K w : Nat → Nat) (hd : Nat) (l : Nat → Int) (q : Nat) : Nat → Nat → Nat → Int
  | 0, s, _ => l (s / 4)
  | k + 1, s, v => if isE (K (s / 4)) = true then 100 * mW W H K w hd l q k s v else
    if q = 0 ∨ v = 0 then wm W H K w hd 3 (fun r => mW W H K w hd l q k r v) s else
      max (max (max (wm W H K w hd 3 (fun r => mW W H K w hd l q k r v) s) (wm W H K w hd 0 (fun r => mW W H K w hd l q k r (v - 1)) s)) (wm W H K w hd 1 (fun r => mW W H K w hd l q k r (v - 1)) s)) (wm W H K w hd 2 (fun r => mW W H K w hd l q k r (v - 1)) s)
theorem mW_in (hw : w 0 + w 1 + w 2 = 10) (hh : hd ≤ 10) (hl : ∀ c, -1 ≤ l c ∧ l c ≤ 1) : ∀ k s v, -(100 ^ k) ≤ mW W H K w hd l q k s v ∧ mW W H K w hd l q k s v ≤ 100 ^ k := by
  intro k
  induction k with
  | zero => intro s v; have := hl (s / 4); unfold mW; simp; omega
  | succ k ih =>
    intro s v
    have h4 : (100 : Int) ^ (k + 1) = 100 ^ k * 100 := Int.pow_succ ..
    have b := fun u v (hu : u < 4) => wmB (W := W) (H := H) (K := K) (X := 100 ^ k) (A := fun r => mW W H K w hd l q k r v) hw hh hu s (fun t _ => ih _ _)
    have b0 := b 3 v (by omega)
    have b1 := b 0 (v - 1) (by omega)
    have b2 := b 1 (v - 1) (by omega)
    have b3 := b 2 (v - 1) (by omega)
    have i0 := ih s v
    unfold mW
    split
    · omega
    · split
      · omega
      · omega
def fM2 : FT := [(103, none), (104, none)]
theorem goes_c {g : Nat} (hg : 1500 ≤ g) (hR : RG p fe R) (hH : MH W H K w hd I) (hq : q < 2) (hl : ∀ c, -1 ≤ l c ∧ l c ≤ 1) (hk : k < 8) (hL : ∀ s v, s < 4 * (W * H) → v < 10 → L 103 (10 * s + v) = iL (mW W H K w hd l q k s v)) :
    ∃ L', f_Mod_goesBack g S1 R I L 90 (nI q) = some L' ∧ FrL fM2 L L' ∧ ∀ s v, s < 4 * (W * H) → v < 10 → L' 103 (10 * s + v) = iL (mW W H K w hd l q (k + 1) s v) := by
  have hN := hH.1.N36
  have hW := hH.1.1
  have hin := mW_in (W := W) (H := H) (K := K) (q := q) hH.2.1.1 hH.2.2.1 hl
  have hbd : ∀ k, k ≤ 8 → ∀ z : Int, -(100 ^ k) ≤ z → z ≤ 100 ^ k → B63 z := by
    intro k hk z h1 h2
    have := h16 k hk
    unfold B63
    omega
  have val : ∀ s v, s < 4 * (W * H) → v < 10 → (fun i => mW W H K w hd l q (k + 1) (i / 10) (i % 10)) (10 * s + v) = mW W H K w hd l q (k + 1) s v := by
    intro s v h1 h2
    show mW W H K w hd l q (k + 1) ((10 * s + v) / 10) ((10 * s + v) % 10) = _
    rw [show (10 * s + v) / 10 = s by omega, show (10 * s + v) % 10 = v by omega]
  have keep : ∀ L1 T, Iv 104 L (fun i => mW W H K w hd l q (k + 1) (i / 10) (i % 10)) T L1 → ∀ s v, s < 4 * (W * H) → v < 10 → L1 103 (10 * s + v) = iL (mW W H K w hd l q k s v) := fun L1 T h s v a b => (h.1 103 _ rfl).trans (hL s v a b)
  have inn : ∀ F s v L1, s < 4 * (W * H) → v ≤ 10 → 10 < v + F → Iv 104 L (fun i => mW W H K w hd l q (k + 1) (i / 10) (i % 10)) (10 * s + v) L1 → ∃ L2, l_Mod_goesBack_20 g S1 R I 90 (nI q) (nI (s / 4)) (nI (s % 4)) F L1 (nI v) = some L2 ∧ Iv 104 L (fun i => mW W H K w hd l q (k + 1) (i / 10) (i % 10)) (10 * s + 10) L2 := by
    intro F
    induction F with
    | zero => intro s v L1 h1 h2; omega
    | succ F ih =>
      intro s v L1 h1 h2 h3 h4
      rw [l_Mod_goesBack_20]
      by_cases hv : v = 10
      · subst hv
        exact ⟨L1, by rw [ifb_pos (by decide)], h4⟩
      have hv10 : v < 10 := by omega
      have hL1 := keep L1 _ h4
      have h5 := h4.wr
      rw [show (10 * s + v) / 10 = s by omega, show (10 * s + v) % 10 = v by omega] at h5
      obtain ⟨L2, e2, i2⟩ := ih s (v + 1) _ h1 (by omega) (by omega) h5
      refine ⟨L2, ?_, i2⟩
      rw [ifb_neg (by rw [show (10 : Int32) = nI 10 from rfl, le32 (by omega) (by omega)]; omega), stateOf_c (by omega) hv10, bnd1_c, isEnd_in hH.1 hR (by omega), bnd1_c]
      cases c2 : isE (K (s / 4))
      · have eA := comesOf_c (g := g) (b := 103) (u := 3) (v := v) (A := fun r => mW W H K w hd l q k r v) (L := L1) (by omega) hR hH rfl h1 (by omega) hv10 (by omega) (fun t ht => hL1 _ _ (aft_lt hW h1) hv10)
        have eB := fun u (hu : u < 3) (hv0 : 0 < v) => comesOf_c (g := g) (b := 103) (u := u) (v := v) (A := fun r => mW W H K w hd l q k r (v - 1)) (L := L1) (by omega) hR hH rfl h1 (by omega) hv10 (fun _ => hv0) (fun t ht => by
          rw [if_neg (by omega)]
          exact hL1 _ _ (aft_lt hW h1) (by omega))
        have e3 : (3 : Int32) = nI 3 := rfl
        have wA := wmB (W := W) (H := H) (K := K) (X := 100 ^ k) (A := fun r => mW W H K w hd l q k r v) hH.2.1.1 hH.2.2.1 (u := 3) (by omega) s (fun t _ => hin k _ _)
        have wB := fun u (hu : u < 4) => wmB (W := W) (H := H) (K := K) (X := 100 ^ k) (A := fun r => mW W H K w hd l q k r (v - 1)) hH.2.1.1 hH.2.2.1 (u := u) hu s (fun t _ => hin k _ _)
        have w0 := wB 0 (by omega)
        have w1 := wB 1 (by omega)
        have w2 := wB 2 (by omega)
        have h4p : (100 : Int) ^ (k + 1) = 100 ^ k * 100 := Int.pow_succ ..
        have hb8 := hbd (k + 1) (by omega)
        have hmw : mW W H K w hd l q (k + 1) s v = if q = 0 ∨ v = 0 then wm W H K w hd 3 (fun r => mW W H K w hd l q k r v) s else
            max (max (max (wm W H K w hd 3 (fun r => mW W H K w hd l q k r v) s) (wm W H K w hd 0 (fun r => mW W H K w hd l q k r (v - 1)) s)) (wm W H K w hd 1 (fun r => mW W H K w hd l q k r (v - 1)) s)) (wm W H K w hd 2 (fun r => mW W H K w hd l q k r (v - 1)) s) := by
          rw [mW, c2, if_neg (by simp)]
        obtain ⟨g, rfl⟩ : ∃ g', g = g' + 4 := ⟨g - 4, by omega⟩
        have goal84 : l_Mod_goesBack_84 (g + 4) S1 R I L1 90 (nI q) (nI (s / 4)) (nI (s % 4)) (nI v) (nI (10 * s + v)) (g + 4) (iL (wm W H K w hd 3 (fun r => mW W H K w hd l q k r v) s)) (nI 0) = some (iL (mW W H K w hd l q (k + 1) s v)) := by
          rw [hmw]
          by_cases hq0 : q = 0
          · rw [l_Mod_goesBack_84, ifb_neg (by decide), ifb_pos (by rw [hq0]; rfl), if_pos (Or.inl hq0)]
          by_cases hv0 : v = 0
          · rw [l_Mod_goesBack_84, ifb_neg (by decide), ifb_neg (by rw [nI0, eq32 (by omega) (by omega)]; exact hq0), ifb_pos (by rw [hv0]; decide), if_pos (Or.inr hv0)]
          rw [if_neg (by omega)]
          have stp : ∀ u F z, u < 3 → B63 z → l_Mod_goesBack_84 (g + 4) S1 R I L1 90 (nI q) (nI (s / 4)) (nI (s % 4)) (nI v) (nI (10 * s + v)) (F + 1) (iL z) (nI u) = l_Mod_goesBack_84 (g + 4) S1 R I L1 90 (nI q) (nI (s / 4)) (nI (s % 4)) (nI v) (nI (10 * s + v)) F (iL (max z (wm W H K w hd u (fun r => mW W H K w hd l q k r (v - 1)) s))) (nI (u + 1)) := by
            intro u F z hu hz
            have wu := wB u (by omega)
            rw [l_Mod_goesBack_84, ifb_neg (by rw [show (3 : Int32) = nI 3 from rfl, le32 (by omega) (by omega)]; omega), ifb_neg (by rw [nI0, eq32 (by omega) (by omega)]; exact hq0), ifb_neg (by rw [nI0, le32 (by omega) (by omega)]; omega), r_90_28 hR, bnd1_c, eB u hu (by omega), bnd1_c, mxJ_c hz (hb8 _ (by omega) (by omega)), bnd1_c, nI_1]
          refine (stp 0 (g + 3) _ (by omega) (hb8 _ (by omega) (by omega))).trans ((stp 1 (g + 2) _ (by omega) (hb8 _ (by omega) (by omega))).trans ((stp 2 (g + 1) _ (by omega) (hb8 _ (by omega) (by omega))).trans ?_))
          rw [l_Mod_goesBack_84, ifb_pos (by decide)]
        rw [show eb (K (s / 4)) = 0 by unfold eb; rw [c2]; rfl, ifb_pos rfl, r_90_28 hR, bnd1_c, e3, eA, bnd1_c, show l_Mod_goesBack_84 (g + 4) S1 R I L1 90 (nI q) (nI (s / 4)) (nI (s % 4)) (nI v) (nI (10 * s + v)) (g + 4) (iL (wm W H K w hd 3 (fun r => mW W H K w hd l q k r v) s)) 0 = _ from goal84, bnd1_c, r_90_29 hR, bnd1_c, t_104, asrt_pos rfl, asrt_pos (vir (by omega) (by omega)), cl32 (by omega), lt_c, bnd1_c, nI_1]
        exact e2
      · rw [show eb (K (s / 4)) = 1 by unfold eb; rw [c2]; rfl, ifb_neg (by decide), r_90_29 hR, bnd1_c, r_90_28 hR, bnd1_c, t_103, asrt_pos rfl, asrt_pos (vir (by omega) (by omega)), cl32 (by omega), hL1 s v h1 hv10, show (100 : Int64) = iL 100 from rfl, iL_mul, lt_c, t_104, asrt_pos rfl, asrt_pos (vir (by omega) (by omega)), lt_c, bnd1_c, nI_1, show (100 : Int) * mW W H K w hd l q k s v = mW W H K w hd l q (k + 1) s v by rw [mW, if_pos c2]]
        exact e2
  have mid : ∀ F c h L1, c < W * H → h ≤ 4 → 4 < h + F → Iv 104 L (fun i => mW W H K w hd l q (k + 1) (i / 10) (i % 10)) (10 * (4 * c + h)) L1 → ∃ L2, l_Mod_goesBack_12 g S1 R I 90 (nI q) (nI c) F L1 (nI h) = some L2 ∧ Iv 104 L (fun i => mW W H K w hd l q (k + 1) (i / 10) (i % 10)) (10 * (4 * c + 4)) L2 := by
    intro F
    induction F with
    | zero => intro c h L1 h1 h2; omega
    | succ F ih =>
      intro c h L1 h1 h2 h3 h4
      rw [l_Mod_goesBack_12]
      by_cases hv : h = 4
      · subst hv
        exact ⟨L1, by rw [ifb_pos (by decide)], h4⟩
      obtain ⟨L2, e2, i2⟩ := inn g (4 * c + h) 0 L1 (by omega) (by omega) (by omega) h4
      rw [show (4 * c + h) / 4 = c by omega, show (4 * c + h) % 4 = h by omega] at e2
      rw [ifb_neg (by rw [show (4 : Int32) = nI 4 from rfl, le32 (by omega) (by omega)]; omega), show l_Mod_goesBack_20 g S1 R I 90 (nI q) (nI c) (nI h) g L1 0 = some L2 from e2, bnd1_c, nI_1]
      exact ih c (h + 1) L2 h1 (by omega) (by omega) i2
  have out : ∀ F c L1, c ≤ W * H → W * H < c + F → Iv 104 L (fun i => mW W H K w hd l q (k + 1) (i / 10) (i % 10)) (10 * (4 * c)) L1 → ∃ L2, l_Mod_goesBack_2 g S1 R I 90 (nI q) F L1 (nI c) = some L2 ∧ Iv 104 L (fun i => mW W H K w hd l q (k + 1) (i / 10) (i % 10)) (10 * (4 * (W * H))) L2 := by
    intro F
    induction F with
    | zero => intro c L1 h1 h2; omega
    | succ F ih =>
      intro c L1 h1 h3 h4
      rw [l_Mod_goesBack_2, cells_c hH.1, bnd1_c]
      by_cases hv : c = W * H
      · subst hv
        exact ⟨L1, by rw [ifb_pos (by rw [le32 (by omega) (by omega)]; omega)], h4⟩
      obtain ⟨L2, e2, i2⟩ := mid g c 0 L1 (by omega) (by omega) (by omega) h4
      rw [ifb_neg (by rw [le32 (by omega) (by omega)]; omega), show l_Mod_goesBack_12 g S1 R I 90 (nI q) (nI c) g L1 0 = some L2 from e2, bnd1_c, nI_1]
      exact ih (c + 1) L2 (by omega) (by omega) i2
  obtain ⟨L2, e, i2⟩ := out g 0 L (by omega) (by omega) ⟨FrL.rf, fun i hi => by omega⟩
  have cpy : ∀ F i L1, i ≤ 1440 → 1440 < i + F → FrL [(103, none)] L2 L1 → (∀ j, j < i → L1 103 j = L2 104 j) → ∃ L3, l_Mod_goesBack_155 S1 R 90 F L1 (nI i) = some L3 ∧ FrL [(103, none)] L2 L3 ∧ ∀ j, j < 1440 → L3 103 j = L2 104 j := by
    intro F
    induction F with
    | zero => intro i L1 h1 h2; omega
    | succ F ih =>
      intro i L1 h1 h2 h3 h4
      rw [l_Mod_goesBack_155]
      by_cases hv : i = 1440
      · subst hv
        exact ⟨L1, by rw [ifb_pos (by decide)], h3, h4⟩
      have e104 : L1 104 i = L2 104 i := h3 104 i rfl
      rw [ifb_neg (by rw [show (1440 : Int32) = nI 1440 from rfl, le32 (by omega) (by omega)]; omega), r_90_28 hR, bnd1_c, r_90_29 hR, bnd1_c, t_104, asrt_pos rfl, asrt_pos (vir (by omega) (by omega)), cl32 (by omega), lt_c, t_103, asrt_pos rfl, asrt_pos (vir (by omega) (by omega)), lt_c, nI_1]
      refine ih (i + 1) _ (by omega) (by omega) (FrL.w h3 rfl) (fun j hj => ?_)
      by_cases ej : j = i
      · subst ej; rw [wL_s, e104]
      · rw [wL_n (by omega)]; exact h4 j (by omega)
  obtain ⟨L3, e3, f3, c3⟩ := cpy g 0 L2 (by omega) (by omega) FrL.rf (fun j hj => by omega)
  refine ⟨L3, ?_, (i2.1.sub rfl).tr (f3.sub rfl), fun s v a b => ?_⟩
  · unfold f_Mod_goesBack
    rw [show l_Mod_goesBack_2 g S1 R I 90 (nI q) g L 0 = some L2 from e, bnd1_c, show l_Mod_goesBack_155 S1 R 90 g L2 0 = some L3 from e3, bnd1_c]
  · rw [c3 _ (by omega), i2.2 _ (by omega), val s v a b]
theorem works_c {g c : Nat} (hg : 1500 ≤ g) (hR : RG p fe R) (hH : MH W H K w hd I) (hq : q < 2) (hc : c < 2) (hn : n ≤ 8) :
    ∃ L', f_Mod_works g S1 R I L 90 (nI n) (nI c) (nI q) = some L' ∧ FrL fM2 L L' ∧ ∀ s v, s < 4 * (W * H) → v < 10 → L' 103 (10 * s + v) = iL (mW W H K w hd (lay K c) q n s v) := by
  have hN := hH.1.N36
  obtain ⟨L1, e1, i1⟩ := lays_c (L := L) (g := g) (q := c) (by omega) hR hH.1 hc
  have hl : ∀ z, -1 ≤ lay K c z ∧ lay K c z ≤ 1 := by
    intro z
    unfold lay
    repeat' split
    all_goals omega
  have loop : ∀ F k L1, k ≤ n → n < k + F → (∀ s v, s < 4 * (W * H) → v < 10 → L1 103 (10 * s + v) = iL (mW W H K w hd (lay K c) q k s v)) → ∃ L2, l_Mod_works_8 g S1 R I 90 (nI n) (nI q) F L1 (nI k) = some L2 ∧ FrL fM2 L1 L2 ∧ ∀ s v, s < 4 * (W * H) → v < 10 → L2 103 (10 * s + v) = iL (mW W H K w hd (lay K c) q n s v) := by
    intro F
    induction F with
    | zero => intro k L1 h1 h2; omega
    | succ F ih =>
      intro k L1 h1 h2 h3
      rw [l_Mod_works_8]
      by_cases hk : k = n
      · subst hk
        exact ⟨L1, by rw [ifb_pos (by rw [le32 (by omega) (by omega)]; omega)], FrL.rf, h3⟩
      obtain ⟨L2, e2, f2, c2⟩ := goes_c hg hR hH hq hl (by omega) h3
      obtain ⟨L3, e3, f3, c3⟩ := ih (k + 1) L2 (by omega) (by omega) c2
      refine ⟨L3, ?_, f2.tr f3, c3⟩
      rw [ifb_neg (by rw [le32 (by omega) (by omega)]; omega), e2, bnd1_c, nI_1]
      exact e3
  obtain ⟨L2, e2, f2, c2⟩ := loop g 0 L1 (by omega) (by omega) (fun s v a b => by
    rw [i1.2 _ (by omega)]
    show iL (lay K c ((10 * s + v) / 10 / 4)) = _
    rw [show (10 * s + v) / 10 = s by omega]
    rfl)
  refine ⟨L2, ?_, (i1.1.sub rfl).tr f2, c2⟩
  unfold f_Mod_works
  rw [e1, bnd1_c, show l_Mod_works_8 g S1 R I 90 (nI n) (nI q) g L1 0 = some L2 from e2, bnd1_c]
end WM
