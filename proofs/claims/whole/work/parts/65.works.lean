section WK
variable {W H m s0 n k hd h0 N b : Nat} {K w : Nat → Nat} {l : Nat → Int} {I I' : MI} {L L' L0 : ML} {R : MR} {p : Bool} {fe : Nat}
/-- how many hundredths the turn t has, where the turn u is called (3: none is) -/
def ptn (w : Nat → Nat) (hd t u : Nat) : Nat := if u = 3 then 10 * w t else (10 - hd) * w t + (if t = u then 10 * hd else 0)
def wm (W H : Nat) (K w : Nat → Nat) (hd u : Nat) (A : Nat → Int) (s : Nat) : Int := (ptn w hd 0 u : Nat) * A (aft W H K s 0) + (ptn w hd 1 u : Nat) * A (aft W H K s 1) + (ptn w hd 2 u : Nat) * A (aft W H K s 2)
/-- what a model's chance goes by, all through -/
def MH (W H : Nat) (K w : Nat → Nat) (hd : Nat) (I : MI) : Prop := LM W H K I ∧ (w 0 + w 1 + w 2 = 10 ∧ ∀ t, t < 3 → I 93 t = nI (w t)) ∧ hd ≤ 10 ∧ I 90 11 = nI hd
theorem partOf_c (hR : RG p fe R) (hH : MH W H K w hd I) {t u : Nat} (ht : t < 3) (hu : u < 4) : f_Mod_partOf S1 R I 90 (nI t) (nI u) = some (nI (ptn w hd t u)) := by
  obtain ⟨hL, ⟨hw, hw'⟩, hh, h11⟩ := hH
  unfold f_Mod_partOf ptn
  by_cases h3 : u = 3
  · rw [ifb_pos (by rw [h3]; rfl), r_90_9 hR, bnd1_c, t_93, asrt_pos rfl, asrt_pos (vir (by omega) (by omega)), cl32 (by omega), hw' t ht, show (10 : Int32) = nI 10 from rfl, pk_mul, lt_c, if_pos h3]
  · rw [ifb_neg (by rw [show (3 : Int32) = nI 3 from rfl, eq32 (by omega) (by omega)]; exact h3), r_90_9 hR, bnd1_c, t_93, asrt_pos rfl, asrt_pos (vir (by omega) (by omega)), cl32 (by omega), hw' t ht, h11, show (10 : Int32) = nI 10 from rfl, pk_mul, pk_sub hh, pk_mul, if_neg h3]
    by_cases e : t = u
    · rw [ifb_pos (by rw [e]), bnd1_c, nI_add, lt_c, if_pos e]
    · rw [ifb_neg (by rw [eq32 (by omega) (by omega)]; exact e), bnd1_c, nI0, nI_add, lt_c, if_neg e]
theorem ptn_lt (hw : w 0 + w 1 + w 2 = 10) (hh : hd ≤ 10) {t u : Nat} (ht : t < 3) : ptn w hd t u < 1000 := by
  have h1 : w t ≤ 10 := by
    have : t = 0 ∨ t = 1 ∨ t = 2 := by omega
    rcases this with rfl | rfl | rfl <;> omega
  have h2 : (10 - hd) * w t ≤ 10 * 10 := Nat.mul_le_mul (by omega) h1
  unfold ptn
  repeat' split
  all_goals omega
theorem stateOf_c {s v : Nat} (hs : s < 144) (hv : v < 10) : f_Mod_stateOf 90 (nI (s / 4)) (nI (s % 4)) (nI v) = some (nI (10 * s + v)) := by
  unfold f_Mod_stateOf
  rw [show (10 : Int32) = nI 10 from rfl, show (4 : Int32) = nI 4 from rfl, pk_mul, nI_add, pk_mul, nI_add, lt_c, show 4 * (s / 4) + s % 4 = s by omega]
theorem comesOf_c {g : Nat} (hg : 4 ≤ g) (hR : RG p fe R) (hH : MH W H K w hd I) {s v u b : Nat} (hb : S1 b = (21, 1440)) (hs : s < 4 * (W * H)) (hu : u < 4) (hv : v < 10) (hv0 : u < 3 → 0 < v) {A : Nat → Int} (h : ∀ t, t < 3 → L b (10 * aft W H K s t + (if u = 3 then v else v - 1)) = iL (A (aft W H K s t))) :
    f_Mod_comesOf g S1 R I L 90 (nI (s / 4)) (nI (s % 4)) (nI v) (nI u) b = some (iL (wm W H K w hd u A s)) := by
  have hN := hH.1.N36
  have hW := hH.1.1
  have stp : ∀ t f (z : Int), t < 3 → l_Mod_comesOf_6 S1 R I L 90 (nI (s / 4)) (nI (s % 4)) (nI v) (nI u) b (f + 1) (iL z) (nI t) = l_Mod_comesOf_6 S1 R I L 90 (nI (s / 4)) (nI (s % 4)) (nI v) (nI u) b f (iL (z + (ptn w hd t u : Nat) * A (aft W H K s t))) (nI (t + 1)) := by
    intro t f z ht
    have ha := @aft_lt W H K hW s t hs
    have h4 := @hd3_lt s t
    have e1 : aft W H K s t / 4 = nxt W H K (s / 4) (hd3 s t) := by unfold aft; omega
    have e2 : aft W H K s t % 4 = hd3 s t := by unfold aft; omega
    have ey : bnd1 (ifb (nI u = 3) (some (nI v)) (some (nI v - 1))) = bnd1 (some (nI (if u = 3 then v else v - 1))) (β := Int64) := by
      by_cases h3 : u = 3
      · rw [ifb_pos (by rw [h3]; rfl), if_pos h3]
      · rw [ifb_neg (by rw [show (3 : Int32) = nI 3 from rfl, eq32 (by omega) (by omega)]; exact h3), if_neg h3, sub1 (hv0 (by omega))]
    have hv' : (if u = 3 then v else v - 1) < 10 := by split <;> omega
    rw [l_Mod_comesOf_6, ifb_neg (by rw [show (3 : Int32) = nI 3 from rfl, le32 (by omega) (by omega)]; omega), turned_c (by omega) ht, bnd1_c, show (s % 4 + t + 3) % 4 = hd3 s t from rfl, cellBy_c hH.1 hR (by omega) h4, bnd1_c, ey, bnd1_c, ← e1, ← e2, stateOf_c (by omega) hv', bnd1_c, partOf_c hR hH ht hu, bnd1_c, hb, asrt_pos rfl, asrt_pos (vir (by omega) (by omega)), cl32 (by omega), h t ht, show Int32.toInt64 (nI (ptn w hd t u)) = lN (ptn w hd t u) from nI_l (by have := @ptn_lt hd w hH.2.1.1 hH.2.2.1 t u ht; omega), iL_N, iL_mul, iL_add, lt_c, nI_1]
  obtain ⟨g, rfl⟩ : ∃ g', g = g' + 4 := ⟨g - 4, by omega⟩
  unfold f_Mod_comesOf
  rw [show l_Mod_comesOf_6 S1 R I L 90 (nI (s / 4)) (nI (s % 4)) (nI v) (nI u) b (g + 4) 0 0 = some (iL (wm W H K w hd u A s)) by
    refine (stp 0 (g + 3) 0 (by omega)).trans ((stp 1 (g + 2) _ (by omega)).trans ((stp 2 (g + 1) _ (by omega)).trans ?_))
    rw [l_Mod_comesOf_6, ifb_pos (by decide)]
    unfold wm
    congr 2
    omega, bnd1_c]
/-- a row of longs as far as it is written -/
def Iv (b : Nat) (L0 : ML) (val : Nat → Int) (T : Nat) (L : ML) : Prop := FrL [(b, none)] L0 L ∧ ∀ i, i < T → L b i = iL (val i)
theorem Iv.wr {val : Nat → Int} {T : Nat} (h : Iv b L0 val T L) : Iv b L0 val (T + 1) (wL L b T (iL (val T))) := by
  refine ⟨fun a k q => ?_, fun i hi => ?_⟩
  · have : a ≠ b := by rintro rfl; simp [inF] at q
    rw [wL_n (fun z => this z.1)]
    exact h.1 a k q
  · by_cases e : i = T
    · subst e; exact wL_s
    · rw [wL_n (fun z => e z.2)]; exact h.2 i (by omega)
theorem cells_c (h : LM W H K I) : f_Mod_cells S1 I 90 = some (nI (W * H)) := by
  unfold f_Mod_cells
  rw [h.2.2.2.1, h.2.2.2.2.1, pk_mul, lt_c]
/-- what a place is worth at the end of a walk: only home, or all that isn't sunk -/
def lay (K : Nat → Nat) (q : Nat) (c : Nat) : Int := if K c = 3 then 1 else if q = 0 then 0 else if K c = 1 then 0 else 1
theorem lays_c {g q : Nat} (hg : 1000 ≤ g) (hR : RG p fe R) (hL : LM W H K I) (hq : q < 2) : ∃ L', f_Mod_laysOut g S1 R I L 90 (nI q) = some L' ∧ Iv 103 L (fun i => lay K q (i / 10 / 4)) (10 * (4 * (W * H))) L' := by
  have hN := hL.N36
  have inn : ∀ F s v L1, s < 4 * (W * H) → v ≤ 10 → 10 < v + F → Iv 103 L (fun i => lay K q (i / 10 / 4)) (10 * s + v) L1 → ∃ L2, l_Mod_laysOut_20 S1 R I 90 (nI q) (nI (s / 4)) (nI (s % 4)) F L1 (nI v) = some L2 ∧ Iv 103 L (fun i => lay K q (i / 10 / 4)) (10 * s + 10) L2 := by
    intro F
    induction F with
    | zero => intro s v L1 h1 h2; omega
    | succ F ih =>
      intro s v L1 h1 h2 h3 h4
      rw [l_Mod_laysOut_20]
      by_cases hv : v = 10
      · subst hv
        exact ⟨L1, by rw [ifb_pos (by decide)], h4⟩
      have hK := hL.2.2.1 (s / 4)
      have h92 := hL.2.2.2.2.2 (s / 4) (by omega)
      have key : ∀ X : Int32 → Option ML, bnd1 (ifb (I 92 (s / 4) = 3) (some 1) (ifb (nI q = 0) (some 0) (asrt (vp_in (nI (s / 4)) 36) <| ifb (I 92 (s / 4) = 1) (some 0) (some 1)))) X = X (if lay K q (s / 4) = 0 then 0 else 1) := by
        intro X
        unfold lay
        rw [h92]
        by_cases q3 : K (s / 4) = 3
        · rw [ifb_pos (by rw [q3]; rfl), bnd1_c, if_pos q3, if_neg (by decide)]
        rw [ifb_neg (by rw [show (3 : Int32) = nI 3 from rfl, eq32 (by omega) (by omega)]; exact q3), if_neg q3]
        by_cases q0 : q = 0
        · rw [ifb_pos (by rw [q0]; rfl), bnd1_c, if_pos q0, if_pos rfl]
        rw [ifb_neg (by rw [nI0, eq32 (by omega) (by omega)]; exact q0), if_neg q0, asrt_pos (vir (by omega) (by omega))]
        by_cases q1 : K (s / 4) = 1
        · rw [ifb_pos (by rw [q1]; rfl), bnd1_c, if_pos q1, if_pos rfl]
        · rw [ifb_neg (by rw [show (1 : Int32) = nI 1 from rfl, eq32 (by omega) (by omega)]; exact q1), bnd1_c, if_neg q1, if_neg (by decide)]
      rw [ifb_neg (by rw [show (10 : Int32) = nI 10 from rfl, le32 (by omega) (by omega)]; omega), r_90_5 hR, bnd1_c, t_92, asrt_pos rfl, asrt_pos (vir (by omega) (by omega)), cl32 (by omega)]
      rw [key, r_90_28 hR, bnd1_c, stateOf_c (by omega) (by omega), bnd1_c]
      have hval : lay K q ((10 * s + v) / 10 / 4) = lay K q (s / 4) := by rw [show (10 * s + v) / 10 = s by omega]
      have h01 : lay K q (s / 4) = 0 ∨ lay K q (s / 4) = 1 := by
        unfold lay
        repeat' split
        all_goals simp
      have efl : f_Mod_flag (if lay K q (s / 4) = 0 then 0 else 1) = some (if lay K q (s / 4) = 0 then 0 else 1) := by
        split
        · exact flag_0
        · exact flag_1
      have el : Int32.toInt64 (if lay K q (s / 4) = 0 then 0 else 1) = iL (lay K q (s / 4)) := by
        rcases h01 with e | e <;> rw [e] <;> rfl
      rw [efl, bnd1_c, el, lt_c, t_103, asrt_pos rfl, asrt_pos (vir (by omega) (by omega)), cl32 (by omega), lt_c, nI_1]
      have h5 := h4.wr
      simp only [hval] at h5
      exact ih s (v + 1) _ h1 (by omega) (by omega) h5
  have mid : ∀ F c h L1, c < W * H → h ≤ 4 → 4 < h + F → Iv 103 L (fun i => lay K q (i / 10 / 4)) (10 * (4 * c + h)) L1 → ∃ L2, l_Mod_laysOut_12 g S1 R I 90 (nI q) (nI c) F L1 (nI h) = some L2 ∧ Iv 103 L (fun i => lay K q (i / 10 / 4)) (10 * (4 * c + 4)) L2 := by
    intro F
    induction F with
    | zero => intro c h L1 h1 h2; omega
    | succ F ih =>
      intro c h L1 h1 h2 h3 h4
      rw [l_Mod_laysOut_12]
      by_cases hv : h = 4
      · subst hv
        exact ⟨L1, by rw [ifb_pos (by decide)], h4⟩
      obtain ⟨L2, e2, i2⟩ := inn g (4 * c + h) 0 L1 (by omega) (by omega) (by omega) h4
      rw [show (4 * c + h) / 4 = c by omega, show (4 * c + h) % 4 = h by omega] at e2
      rw [ifb_neg (by rw [show (4 : Int32) = nI 4 from rfl, le32 (by omega) (by omega)]; omega), show l_Mod_laysOut_20 S1 R I 90 (nI q) (nI c) (nI h) g L1 0 = some L2 from e2, bnd1_c, nI_1]
      exact ih c (h + 1) L2 h1 (by omega) (by omega) i2
  have out : ∀ F c L1, c ≤ W * H → W * H < c + F → Iv 103 L (fun i => lay K q (i / 10 / 4)) (10 * (4 * c)) L1 → ∃ L2, l_Mod_laysOut_2 g S1 R I 90 (nI q) F L1 (nI c) = some L2 ∧ Iv 103 L (fun i => lay K q (i / 10 / 4)) (10 * (4 * (W * H))) L2 := by
    intro F
    induction F with
    | zero => intro c L1 h1 h2; omega
    | succ F ih =>
      intro c L1 h1 h3 h4
      rw [l_Mod_laysOut_2, cells_c hL, bnd1_c]
      by_cases hv : c = W * H
      · subst hv
        exact ⟨L1, by rw [ifb_pos (by rw [le32 (by omega) (by omega)]; omega)], h4⟩
      obtain ⟨L2, e2, i2⟩ := mid g c 0 L1 (by omega) (by omega) (by omega) h4
      rw [ifb_neg (by rw [le32 (by omega) (by omega)]; omega), show l_Mod_laysOut_12 g S1 R I 90 (nI q) (nI c) g L1 0 = some L2 from e2, bnd1_c, nI_1]
      exact ih (c + 1) L2 (by omega) (by omega) i2
  obtain ⟨L2, e, i⟩ := out g 0 L (by omega) (by omega) ⟨FrL.rf, fun i hi => by omega⟩
  unfold f_Mod_laysOut
  exact ⟨L2, by rw [show l_Mod_laysOut_2 g S1 R I 90 (nI q) g L 0 = some L2 from e, bnd1_c], i⟩
end WK
