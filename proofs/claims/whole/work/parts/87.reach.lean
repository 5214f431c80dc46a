section RE
variable {W H m s0 n k hd h0 N b c h s B lim M q a : Nat} {K w : Nat → Nat} {I I' : MI} {L L' L0 : ML} {R : MR} {p : Bool} {fe : Nat} {S T T' Z : Nat → Bool} {o d : Nat → Nat}
def Zs (S : Nat → Bool) (K : Nat → Nat) (q c : Nat) : Bool := (S (4 * c) || S (4 * c + 1) || S (4 * c + 2) || S (4 * c + 3)) && (decide (q = 0) || decide (K c = 1))
theorem ts26 {g : Nat} (hg : 10 ≤ g) (hR : RG p fe R) (hS : Sn 101 S I) (hc : c < 36) {v1 v6 : Int32} {v2 v4 : Int64} : l_Mod_tellsSeen_26 S1 R I 90 v1 v2 v4 v6 (nI c) g 0 0 = some (bI (S (4 * c) || S (4 * c + 1) || S (4 * c + 2) || S (4 * c + 3))) := by
  have stp : ∀ h F (z : Bool), h < 4 → l_Mod_tellsSeen_26 S1 R I 90 v1 v2 v4 v6 (nI c) (F + 1) (bI z) (nI h) = l_Mod_tellsSeen_26 S1 R I 90 v1 v2 v4 v6 (nI c) F (bI (z || S (4 * c + h))) (nI (h + 1)) := by
    intro h F z hh
    rw [l_Mod_tellsSeen_26, ifb_neg (by rw [show (4 : Int32) = nI 4 from rfl, le32 (by omega) (by omega)]; omega)]
    cases z
    · rw [ifb_pos (show bI false = 0 from rfl), r_90_26 hR, bnd1_c, show (4 : Int32) = nI 4 from rfl, pk_mul, nI_add, lt_c, t_101, asrt_pos rfl, asrt_pos (vir (by omega) (by omega)), cl32 (by omega), hS _ (by omega), Bool.false_or]
      cases hb : S (4 * c + h)
      · rw [ifb_pos (show bI false = 0 from rfl), bnd1_c, nI_1]; rfl
      · rw [ifb_neg (show ¬ bI true = 0 by decide), bnd1_c, nI_1]; rfl
    · rw [ifb_neg (show ¬ bI true = 0 by decide), bnd1_c, nI_1, Bool.true_or]; rfl
  obtain ⟨g, rfl⟩ : ∃ g', g = g' + 5 := ⟨g - 5, by omega⟩
  refine (stp 0 (g + 4) false (by omega)).trans ((stp 1 (g + 3) _ (by omega)).trans ((stp 2 (g + 2) _ (by omega)).trans ((stp 3 (g + 1) _ (by omega)).trans ?_)))
  rw [l_Mod_tellsSeen_26, ifb_pos (by decide), Nat.add_zero, Bool.false_or]
def LoZ (Z : Nat → Bool) (k : Nat) (x : Int64) : Prop := ∀ c, c < 64 → b64 x c = (decide (c < 18 ∧ c < k) && Z c)
def HiZ (Z : Nat → Bool) (k : Nat) (x : Int64) : Prop := ∀ c, c < 64 → b64 x c = (decide (c + 18 < k) && Z (c + 18))
theorem loz_f {x : Int64} (h : LoZ Z k x) (hz : Z k = false ∨ 18 ≤ k) : LoZ Z (k + 1) x := by
  intro c hc
  rw [h c hc]
  by_cases e : c = k
  · subst e
    rcases hz with hz | hz
    · rw [hz, Bool.and_false, Bool.and_false]
    · rw [decide_eq_false (by omega), decide_eq_false (by omega)]
  · have : (c < 18 ∧ c < k) ↔ (c < 18 ∧ c < k + 1) := by omega
    rw [decide_eq_decide.mpr this]
theorem hiz_f {x : Int64} (h : HiZ Z k x) (hz : Z k = false ∨ k < 18) : HiZ Z (k + 1) x := by
  intro c hc
  rw [h c hc]
  by_cases e : c + 18 = k
  · rcases hz with hz | hz
    · rw [e, hz, Bool.and_false, Bool.and_false]
    · omega
  · have : (c + 18 < k) ↔ (c + 18 < k + 1) := by omega
    rw [decide_eq_decide.mpr this]
theorem loz_t {x : Int64} (h : LoZ Z k x) (hz : Z k = true) (hk : k < 18) : LoZ Z (k + 1) (x ||| lsl 1 (nI k)) := by
  intro c hc
  rw [b64_or, h c hc, b64_1 (by omega)]
  by_cases e : c = k
  · subst e
    rw [decide_eq_true rfl, Bool.or_true, hz, Bool.and_true, decide_eq_true (by omega)]
  · have : (c < 18 ∧ c < k) ↔ (c < 18 ∧ c < k + 1) := by omega
    rw [decide_eq_false e, Bool.or_false, decide_eq_decide.mpr this]
theorem hiz_t {x : Int64} (h : HiZ Z k x) (hz : Z k = true) (hk : 18 ≤ k) (hk2 : k < 64) : HiZ Z (k + 1) (x ||| lsl 1 (nI (k - 18))) := by
  intro c hc
  rw [b64_or, h c hc, b64_1 (by omega)]
  by_cases e : c = k - 18
  · have e' : c + 18 = k := by omega
    rw [decide_eq_true e, Bool.or_true, e', hz, Bool.and_true, decide_eq_true (by omega)]
  · have : (c + 18 < k) ↔ (c + 18 < k + 1) := by omega
    rw [decide_eq_false e, Bool.or_false, decide_eq_decide.mpr this]
theorem or0_64 (x : Int64) : x ||| 0 = x := ext64 fun c _ => by rw [b64_or, b64_0, Bool.or_false]
theorem ts11 {g : Nat} (hg : 10 ≤ g) (hR : RG p fe R) (hL : LM W H K I) (hS : Sn 101 S I) (hq : q < 2) : ∀ F k (lo hi : Int64), k ≤ W * H → W * H < k + F → LoZ (Zs S K q) k lo → HiZ (Zs S K q) k hi →
    ∃ lo' hi', l_Mod_tellsSeen_11 g S1 R I 90 (nI q) F lo hi (nI (cnt (Zs S K q) k)) (nI k) = some (lo', hi', nI (cnt (Zs S K q) (W * H))) ∧ LoZ (Zs S K q) (W * H) lo' ∧ HiZ (Zs S K q) (W * H) hi' := by
  have hN := hL.N36
  intro F
  induction F with
  | zero => intro k lo hi h1 h2; omega
  | succ F ih =>
    intro k lo hi h1 h2 hlo hhi
    rw [l_Mod_tellsSeen_11, cells_c hL, bnd1_c]
    by_cases hk : k = W * H
    · subst hk
      exact ⟨lo, hi, by rw [ifb_pos (by rw [le32 (by omega) (by omega)]; omega)], hlo, hhi⟩
    rw [ifb_neg (by rw [le32 (by omega) (by omega)]; omega), ts26 hg hR hS (by omega), bnd1_c]
    have hcn : cnt (Zs S K q) (k + 1) = cnt (Zs S K q) k + (if Zs S K q k = true then 1 else 0) := rfl
    have hcl := @cnt_le (Zs S K q) k
    have no : Zs S K q k = false → ∃ lo' hi', l_Mod_tellsSeen_11 g S1 R I 90 (nI q) F lo hi (nI (cnt (Zs S K q) k)) (nI k + 1) = some (lo', hi', nI (cnt (Zs S K q) (W * H))) ∧ LoZ (Zs S K q) (W * H) lo' ∧ HiZ (Zs S K q) (W * H) hi' := by
      intro hz
      have hcn' : cnt (Zs S K q) (k + 1) = cnt (Zs S K q) k := by rw [hcn, if_neg (by rw [hz]; decide), Nat.add_zero]
      rw [nI_1, ← hcn']
      exact ih (k + 1) lo hi (by omega) (by omega) (loz_f hlo (Or.inl hz)) (hiz_f hhi (Or.inl hz))
    have yes : Zs S K q k = true → ∃ lo1 hi1, (∀ v6 : Int32, (bnd1 (ifb (18 ≤ nI k) (some 0) (some (lsl 1 (nI k)))) fun (y24 : Int64) => lt (lo ||| y24) fun (x27 : Int64) => bnd1 (ifb (18 ≤ nI k) (some (lsl 1 (nI k - 18))) (some 0)) fun (y29 : Int64) => lt (hi ||| y29) fun (x32 : Int64) => some (x27, x32, v6)) = some (lo1, hi1, v6)) ∧ ∃ lo' hi', l_Mod_tellsSeen_11 g S1 R I 90 (nI q) F lo1 hi1 (nI (cnt (Zs S K q) k + 1)) (nI k + 1) = some (lo', hi', nI (cnt (Zs S K q) (W * H))) ∧ LoZ (Zs S K q) (W * H) lo' ∧ HiZ (Zs S K q) (W * H) hi' := by
      intro hz
      have hcn' : cnt (Zs S K q) (k + 1) = cnt (Zs S K q) k + 1 := by rw [hcn, if_pos hz]
      by_cases h18 : 18 ≤ k
      · refine ⟨lo, hi ||| lsl 1 (nI (k - 18)), fun v6 => ?_, ?_⟩
        · rw [ifb_pos (by rw [show (18 : Int32) = nI 18 from rfl, le32 (by omega) (by omega)]; exact h18), bnd1_c, or0_64, lt_c, ifb_pos (by rw [show (18 : Int32) = nI 18 from rfl, le32 (by omega) (by omega)]; exact h18), bnd1_c, show (18 : Int32) = nI 18 from rfl, pk_sub h18, lt_c]
        · rw [nI_1, ← hcn']
          exact ih (k + 1) _ _ (by omega) (by omega) (loz_f hlo (Or.inr h18)) (hiz_t hhi hz h18 (by omega))
      · refine ⟨lo ||| lsl 1 (nI k), hi, fun v6 => ?_, ?_⟩
        · rw [ifb_neg (by rw [show (18 : Int32) = nI 18 from rfl, le32 (by omega) (by omega)]; exact h18), bnd1_c, lt_c, ifb_neg (by rw [show (18 : Int32) = nI 18 from rfl, le32 (by omega) (by omega)]; exact h18), bnd1_c, or0_64, lt_c]
        · rw [nI_1, ← hcn']
          exact ih (k + 1) _ _ (by omega) (by omega) (loz_t hlo hz (by omega)) (hiz_f hhi (Or.inr (by omega)))
    cases hseen : (S (4 * k) || S (4 * k + 1) || S (4 * k + 2) || S (4 * k + 3))
    · rw [ifb_pos (show bI false = 0 from rfl), bnd3_c]
      exact no (by unfold Zs; rw [hseen, Bool.false_and])
    rw [ifb_neg (show ¬ bI true = 0 by decide)]
    by_cases hq0 : q = 0
    · obtain ⟨lo1, hi1, e1, lo', hi', e, r⟩ := yes (by unfold Zs; rw [hseen, decide_eq_true hq0]; rfl)
      refine ⟨lo', hi', ?_, r⟩
      rw [ifb_pos (by rw [hq0]; rfl), e1, bnd3_c, nI_1 (cnt (Zs S K q) k)]
      exact e
    · rw [ifb_neg (by rw [nI0, eq32 (by omega) (by omega)]; exact hq0), r_90_5 hR, bnd1_c, t_92, asrt_pos rfl, asrt_pos (vir (by omega) (by omega)), cl32 (by omega), hL.2.2.2.2.2 k (by omega)]
      have hK := hL.2.2.1 k
      by_cases hK1 : K k = 1
      · obtain ⟨lo1, hi1, e1, lo', hi', e, r⟩ := yes (by unfold Zs; rw [hseen, decide_eq_true hK1, Bool.or_true]; rfl)
        refine ⟨lo', hi', ?_, r⟩
        rw [ifb_pos (by rw [hK1]; rfl), e1, bnd3_c, nI_1 (cnt (Zs S K q) k)]
        exact e
      · rw [ifb_neg (by rw [show (1 : Int32) = nI 1 from rfl, eq32 (by omega) (by omega)]; exact hK1), bnd3_c]
        exact no (by unfold Zs; rw [decide_eq_false hq0, decide_eq_false hK1, Bool.or_false, Bool.and_false])
theorem tellsSeen_c {g : Nat} (hg : 1000 ≤ g) (hR : RG p fe R) (hL : LM W H K I) (hS : Sn 101 S I) (hq : q < 2) : ∃ lo hi, f_Mod_tellsSeen g S1 R I L 90 (nI q) = some (nI (cnt (Zs S K q) (W * H)), wI (wI (wI I 90 1 0) 90 1 (nI 1)) 90 1 (nI 2), wL (wL L 91 0 lo) 91 1 hi) ∧ LoZ (Zs S K q) (W * H) lo ∧ HiZ (Zs S K q) (W * H) hi := by
  have hN := hL.N36
  obtain ⟨lo, hi, e, h1, h2⟩ := ts11 (g := g) (by omega) hR hL hS hq g 0 0 0 (by omega) (by omega) (fun c _ => by rw [b64_0, decide_eq_false (by omega)]; rfl) (fun c _ => by rw [b64_0, decide_eq_false (by omega)]; rfl)
  refine ⟨lo, hi, ?_, h1, h2⟩
  unfold f_Mod_tellsSeen
  rw [show l_Mod_tellsSeen_11 g S1 R I 90 (nI q) g 0 0 0 0 = some (lo, hi, nI (cnt (Zs S K q) (W * H))) from e, bnd3_c, lt_c, enters_0 hR, bnd2_c, enters_c (k := 1) hR wI_s (by omega), bnd2_c]
theorem tellCells_c (hR : RG p fe R) (x : Int64) : f_GWL_tellCells S1 R I L 0 x = some (nI (cnt (b64 x) 64), wI (wI (wI I 3 1 0) 3 1 (nI 1)) 3 1 (nI 2), wL (wL L 4 0 (x &&& 262143)) 4 1 (lus x 18)) := by
  unfold f_GWL_tellCells f_Numbers_begin
  rw [r_0_1 hR, bnd1_c, t_3, asrt_pos rfl, lt_c, bnd1_c, add_0 hR, bnd2_c, add_c (k := 1) hR wI_s (by omega), bnd2_c, lbit_e, bnd1_c]
theorem b18 : ∀ c, c < 64 → b64 262143 c = decide (c < 18) := by decide +kernel
theorem tell_eq {x lo hi : Int64} (hN : N ≤ 36) (key : ∀ c, c < 64 → b64 x c = (decide (c < N) && Z c)) (hlo : LoZ Z N lo) (hhi : HiZ Z N hi) : x &&& 262143 = lo ∧ lus x 18 = hi ∧ cnt (b64 x) 64 = cnt Z N := by
  refine ⟨ext64 fun c hc => ?_, ext64 fun c hc => ?_, ?_⟩
  · rw [b64_and, key c hc, b18 c hc, hlo c hc]
    have : decide (c < 18 ∧ c < N) = (decide (c < 18) && decide (c < N)) := Bool.decide_and _ _
    rw [this]
    cases decide (c < 18) <;> cases decide (c < N) <;> cases Z c <;> rfl
  · have e : b64 (lus x 18) c = b64 x (c + 18) := by
      unfold b64
      rw [show (18 : Int32) = nI 18 from rfl, lus_b x (by omega), BitVec.getLsbD_ushiftRight, Nat.add_comm]
    rw [e, hhi c hc]
    by_cases h : c + 18 < 64
    · exact key (c + 18) h
    · rw [decide_eq_false (by omega), Bool.false_and]
      unfold b64
      exact BitVec.getLsbD_of_ge _ _ (by omega)
  · rw [cnt_0 64 N (by omega) (fun i h1 h2 => by rw [key i h2, decide_eq_false (by omega), Bool.false_and])]
    exact cnt_eq N (fun i hi => by rw [key i (by omega), decide_eq_true hi, Bool.true_and])
theorem SPR_iff (hQ : SPR a W H K s0 M lim m o d I) : (∃ i, i < m ∧ o i = s) ↔ RQ W H K s0 M lim s := by
  obtain ⟨⟨-, h2, -, -⟩, -, hp, hc, hm, o0, d0⟩ := hQ
  constructor
  · rintro ⟨i, hi, rfl⟩
    exact ⟨d (o i), (h2 i hi).2.2.2, hp i hi⟩
  · rintro ⟨j, hj, hpj⟩
    have key : ∀ j s, j ≤ lim → pth W H K s0 M j s → ∃ i, i < m ∧ o i = s ∧ d s ≤ j := by
      intro j
      induction j with
      | zero => intro s _ h; rw [pth] at h; subst h; exact ⟨0, hm, o0, by omega⟩
      | succ j ih =>
        intro s hj h
        rw [pth] at h
        obtain ⟨r, t, z1, z2, z3, z4, rfl⟩ := h
        obtain ⟨i, hi, ei, hd⟩ := ih r (by omega) z1
        obtain ⟨i', hi', ei', hd'⟩ := hc i hi (by rw [ei]; omega) (by rw [ei]; exact z2) t z3 z4
        rw [ei] at ei' hd'
        exact ⟨i', hi', ei', by rw [ei'] at hd'; omega⟩
    obtain ⟨i, hi, ei, -⟩ := key j s hj hpj
    exact ⟨i, hi, ei⟩
theorem SB54 (hR : RG p fe R) : SB 54 R := ⟨r_54_0 hR, r_54_1 hR, rfl, rfl⟩
theorem cellsS_c {g : Nat} (hg : 1000 ≤ g) (hR : RG p fe R) (hN : N ≤ 36) (hC : SC 54 N lim m o d I) : ∃ x, f_Spread_cells g S1 R I 54 = some x ∧ ∀ c, c < 64 → (b64 x c = true ↔ ∃ i, i < m ∧ o i / 4 = c) := by
  have hm := hC.le
  have loop : ∀ F i (x : Int64), i ≤ m → m < i + F → (∀ c, c < 64 → (b64 x c = true ↔ ∃ j, j < i ∧ o j / 4 = c)) → ∃ x', l_Spread_cells_4 S1 R I 54 F x (nI i) = some x' ∧ ∀ c, c < 64 → (b64 x' c = true ↔ ∃ i, i < m ∧ o i / 4 = c) := by
    intro F
    induction F with
    | zero => intro i x h1 h2; omega
    | succ F ih =>
      intro i x h1 h2 h3
      rw [l_Spread_cells_4, hC.1]
      by_cases hi : i = m
      · subst hi
        exact ⟨x, by rw [ifb_pos (by rw [le32 (by omega) (by omega)]; omega)], h3⟩
      have ho := hC.2.1 i (by omega)
      obtain ⟨x', e, q⟩ := ih (i + 1) (x ||| lsl 1 (nI (o i / 4))) (by omega) (by omega) (fun c hc => by
        rw [b64_or, b64_1 (by omega), Bool.or_eq_true, h3 c hc, decide_eq_true_eq]
        constructor
        · rintro (⟨j, hj, e⟩ | e)
          · exact ⟨j, by omega, e⟩
          · exact ⟨i, by omega, e.symm⟩
        · rintro ⟨j, hj, e⟩
          by_cases ej : j = i
          · subst ej; exact Or.inr e.symm
          · exact Or.inl ⟨j, by omega, e⟩)
      refine ⟨x', ?_, q⟩
      rw [ifb_neg (by rw [le32 (by omega) (by omega)]; omega), ifb_neg (by rw [show (144 : Int32) = nI 144 from rfl, le32 (by omega) (by omega)]; omega), (SB54 hR).1, bnd1_c, (SB54 hR).2.2.1, asrt_pos rfl, asrt_pos (vir (by omega) (by omega)), cl32 (by omega), ho.2.1, cellOf_c (by omega), bnd1_c, lt_c, nI_1]
      exact e
  obtain ⟨x, e, q⟩ := loop g 0 0 (by omega) (by omega) (fun c _ => by rw [b64_0]; exact ⟨(fun z => by cases z), fun ⟨j, hj, _⟩ => by omega⟩)
  unfold f_Spread_cells
  exact ⟨x, by rw [show l_Spread_cells_4 S1 R I 54 g 0 0 = some x from e, bnd1_c], q⟩
theorem thatAre_c {g : Nat} (hg : 1000 ≤ g) (hR : RG p fe R) (hL : LKc W H K I) : ∃ x, f_Land_cellsThatAre g S1 R I 60 1 = some x ∧ ∀ c, c < 64 → (b64 x c = true ↔ c < W * H ∧ K c = 1) := by
  have hN := hL.N36
  have loop : ∀ F i (x : Int64), i ≤ W * H → W * H < i + F → (∀ c, c < 64 → (b64 x c = true ↔ c < i ∧ K c = 1)) → ∃ x', l_Land_cellsThatAre_5 S1 R I 60 1 F x (nI i) = some x' ∧ ∀ c, c < 64 → (b64 x' c = true ↔ c < W * H ∧ K c = 1) := by
    intro F
    induction F with
    | zero => intro i x h1 h2; omega
    | succ F ih =>
      intro i x h1 h2 h3
      rw [l_Land_cellsThatAre_5, hL.2.2.2.1, hL.2.2.2.2.1, pk_mul]
      by_cases hi : i = W * H
      · subst hi
        exact ⟨x, by rw [ifb_pos (by rw [le32 (by omega) (by omega)]; omega)], h3⟩
      have hK := hL.2.2.1 i
      rw [ifb_neg (by rw [le32 (by omega) (by omega)]; omega), kindOf_in hL hR (by omega), bnd1_c]
      by_cases hK1 : K i = 1
      · obtain ⟨x', e, q⟩ := ih (i + 1) (x ||| lsl 1 (nI i)) (by omega) (by omega) (fun c hc => by
          rw [b64_or, b64_1 (by omega), Bool.or_eq_true, h3 c hc, decide_eq_true_eq]
          constructor
          · rintro (⟨z1, z2⟩ | rfl)
            · exact ⟨by omega, z2⟩
            · exact ⟨by omega, hK1⟩
          · rintro ⟨z1, z2⟩
            by_cases ec : c = i
            · exact Or.inr ec
            · exact Or.inl ⟨by omega, z2⟩)
        refine ⟨x', ?_, q⟩
        rw [ifb_pos (by rw [hK1]; rfl), bnd1_c, lt_c, nI_1]
        exact e
      · obtain ⟨x', e, q⟩ := ih (i + 1) x (by omega) (by omega) (fun c hc => by
          rw [h3 c hc]
          constructor
          · rintro ⟨z1, z2⟩; exact ⟨by omega, z2⟩
          · rintro ⟨z1, z2⟩
            refine ⟨?_, z2⟩
            by_cases ec : c = i
            · subst ec; exact absurd z2 hK1
            · omega)
        refine ⟨x', ?_, q⟩
        rw [ifb_neg (by rw [show (1 : Int32) = nI 1 from rfl, eq32 (by omega) (by omega)]; exact hK1), bnd1_c, or0_64, lt_c, nI_1]
        exact e
  obtain ⟨x, e, q⟩ := loop g 0 0 (by omega) (by omega) (fun c _ => by rw [b64_0]; exact ⟨(fun z => by cases z), fun ⟨z, _⟩ => by omega⟩)
  unfold f_Land_cellsThatAre
  exact ⟨x, by rw [show l_Land_cellsThatAre_5 S1 R I 60 1 g 0 0 = some x from e, bnd1_c], q⟩
def Mw (w : Nat → Nat) : Nat := (if 0 < w 0 then 1 else 0) + (if 0 < w 1 then 2 else 0) + (if 0 < w 2 then 4 else 0)
theorem Mw_lt : Mw w < 8 := by unfold Mw; split <;> split <;> split <;> omega
theorem Mw_t {t : Nat} (ht : t < 3) : (Mw w).testBit t = true ↔ 0 < w t := by
  have : t = 0 ∨ t = 1 ∨ t = 2 := by omega
  unfold Mw
  rcases this with rfl | rfl | rfl
  all_goals
    by_cases h0 : 0 < w 0 <;> by_cases h1 : 0 < w 1 <;> by_cases h2 : 0 < w 2 <;> simp [h0, h1, h2] <;> decide
theorem turnsW_c {g : Nat} (hg : 10 ≤ g) (hR : RG p fe R) (hw : ∀ t, t < 3 → w t ≤ 10 ∧ I 66 t = nI (w t)) : f_GWL_turnsWithWeight g S1 R I 0 = some (nI (Mw w)) := by
  have stp : ∀ t F (z : Nat), t < 3 → l_GWL_turnsWithWeight_4 S1 R I 0 (F + 1) (nI z) (nI t) = l_GWL_turnsWithWeight_4 S1 R I 0 F (nI (z ||| (if 0 < w t then 2 ^ t else 0))) (nI (t + 1)) := by
    intro t F z ht
    have hwt := hw t ht
    rw [l_GWL_turnsWithWeight_4, ifb_neg (by rw [show (3 : Int32) = nI 3 from rfl, le32 (by omega) (by omega)]; omega), r_0_5 hR, bnd1_c, tenthsOf_c (by omega) hwt.2, bnd1_c]
    by_cases h : 0 < w t
    · rw [ifb_neg (by rw [nI0, le32 (by omega) (by omega)]; omega), isl1_k t (by omega), bnd1_c, nI_or, lt_c, if_pos h, nI_1]
    · rw [ifb_pos (by rw [nI0, le32 (by omega) (by omega)]; omega), bnd1_c, nI0, nI_or, lt_c, if_neg h, nI_1]
  obtain ⟨g, rfl⟩ : ∃ g', g = g' + 4 := ⟨g - 4, by omega⟩
  unfold f_GWL_turnsWithWeight
  rw [show l_GWL_turnsWithWeight_4 S1 R I 0 (g + 4) 0 0 = some (nI (Mw w)) by
    refine (stp 0 (g + 3) 0 (by omega)).trans ((stp 1 (g + 2) _ (by omega)).trans ((stp 2 (g + 1) _ (by omega)).trans ?_))
    rw [l_GWL_turnsWithWeight_4, ifb_pos (by decide)]
    unfold Mw
    by_cases h0 : 0 < w 0 <;> by_cases h1 : 0 < w 1 <;> by_cases h2 : 0 < w 2 <;> simp [h0, h1, h2], bnd1_c]
end RE
