section HJ
variable {W H n B r h i j s k : Nat} {K y : Nat → Nat} {I I' J : MI} {L L' : ML} {R : MR} {p : Bool} {fe : Nat} {mu : Int32} {F : Nat → Int}
/-! the class's table -/
def MkA (n : Nat) (y : Nat → Nat) (mu : Int32) (t : Nat) (I : MI) : Prop := I 57 3 = mu ∧ (∀ k, k < 25 → I 58 k = nI (y k)) ∧ ∀ h, t ≤ h → h < 2 ^ n → I 59 h = iI (bv n y mu (n - pc5 h) h)
theorem mostBy_c (hR : RG p fe R) (hn : n ≤ 5) (hA : MkA n y mu (h + 1) I) (hh : h < 2 ^ n) (hi : i < n) : f_Market_mostBy S1 R I 57 (nI i) (nI h) = some (if h.testBit i = true then -1 else iI (FvH n y mu (n - pc5 h - 1) h i)) := by
  have h32 := fnH5 n (by omega)
  obtain ⟨f4, f4'⟩ := fnH4 i (by omega) h (by omega)
  obtain ⟨hA1, hA2, hA3⟩ := hA
  have hp6 := pc5_lt h
  unfold f_Market_mostBy
  rw [bitc_e, bnd1_c, hdc5 h (by omega), show (5 : Int32) = nI 5 from rfl, pk_mul, nI_add, lt_c, isl1_32 i (by omega), nI_or, lt_c]
  cases hb : h.testBit i
  rotate_left
  · rw [ifb_pos (congrArg nI (f4.mpr hb)), if_pos rfl]
  obtain ⟨g1, g2, g3⟩ := fnH1 n (by omega) h (by omega) hh i hi hb
  have hpn : pc5 h < n := by
    have := fnH3 n (by omega) h (by omega) hh
    by_cases e : pc5 h = n
    · have := this.2 e i hi
      rw [hb] at this
      cases this
    · omega
  have hpi : i * 5 + pc5 h < 25 := by omega
  rw [ifb_neg (fun z => by rw [eq32 (by omega) (by omega)] at z; rw [f4.mp z] at hb; cases hb), r_57_0 hR, bnd1_c, t_58, asrt_pos rfl, ifb_neg (show ¬ Int32.ofNat ((20, 25) : Nat × Nat).snd ≤ nI (i * 5 + pc5 h) from fun z => absurd ((le32 (a := 25) (b := (i * 5 + pc5 h)) (by omega) (by omega)).mp z) (by omega)), r_57_1 hR, bnd1_c, t_59, asrt_pos rfl, ifb_pos (show nI (h ||| 2 ^ i) < Int32.ofNat ((20, 32) : Nat × Nat).snd from (lt32 (a := h ||| 2 ^ i) (b := 32) (by omega) (by omega)).mpr (by omega)), asrt_pos (vir (by omega) (by omega)), hA1, if_neg (by decide)]
  have hm := hA3 (h ||| 2 ^ i) (by omega) g1
  rw [g2, show n - (pc5 h + 1) = n - pc5 h - 1 by omega] at hm
  unfold FvH val
  rw [show n - (n - pc5 h - 1 + 1) = pc5 h by omega]
  by_cases hmu : nI i = mu
  · rw [ifb_pos hmu, if_pos hmu, bnd1_c, cl32 (by omega), hm, lt_c, a0', show ((0 : Nat) : Int) + bv n y mu (n - pc5 h - 1) (h ||| 2 ^ i) = bv n y mu (n - pc5 h - 1) (h ||| 2 ^ i) by omega]
  · rw [ifb_neg hmu, if_neg hmu, asrt_pos (vir (by omega) (by omega)), cl32 (by omega), hA2 _ hpi, bnd1_c, cl32 (by omega), hm, lt_c, iI_N, iI_add, Int.add_comm, show i * 5 = 5 * i by omega]
theorem bv_max (hy : ∀ k, k < 25 → y k ≤ 99) (hn : n ≤ 5) (hh : h < 2 ^ n) : max 0 (mxF (FvH n y mu (n - pc5 h - 1) h) h n) = bv n y mu (n - pc5 h) h := by
  have h32 := fnH5 n (by omega)
  have h3 := fnH3 n (by omega) h (by omega) hh
  by_cases e : pc5 h = n
  · rw [mxF_all n (h3.2 e), e, Nat.sub_self, bv]; rfl
  · have h1 := bv_in (mu := mu) hy hn (n - pc5 h - 1 + 1) h hh (by omega)
    rw [bv_s] at h1
    rw [show n - pc5 h = n - pc5 h - 1 + 1 by omega, bv_s, show n - pc5 h - 1 + 1 - 1 = n - pc5 h - 1 by omega]
    omega
theorem FvH_b (hy : ∀ k, k < 25 → y k ≤ 99) (hn : n ≤ 5) (hh : h < 2 ^ n) (hi : i < n) (hb : h.testBit i = false) : 0 ≤ FvH n y mu (n - pc5 h - 1) h i ∧ FvH n y mu (n - pc5 h - 1) h i ≤ 1000 := by
  have h32 := fnH5 n (by omega)
  have h3 := fnH3 n (by omega) h (by omega) hh
  by_cases e : pc5 h = n
  · have := h3.2 e i hi
    rw [hb] at this
    cases this
  · have := FvH_in (mu := mu) (r := n - pc5 h - 1) hy hn hh (by omega) hi hb
    omega
theorem most45 (hR : RG p fe R) (hy : ∀ k, k < 25 → y k ≤ 99) (hn : n ≤ 5) (hh : h < 2 ^ n) : ∀ F j (I : MI), j ≤ n → n < j + F → MkA n y mu (h + 1) I → I 59 h = iI (max 0 (mxF (FvH n y mu (n - pc5 h - 1) h) h j)) →
    ∃ I', l_Market_most_45 S1 R 57 (nI n) (nI h) F I (nI j) = some I' ∧ Fr [(59, none)] I I' ∧ MkA n y mu (h + 1) I' ∧ I' 59 h = iI (max 0 (mxF (FvH n y mu (n - pc5 h - 1) h) h n)) := by
  have h32 := fnH5 n (by omega)
  intro F
  induction F with
  | zero => intro j I h1 h2; omega
  | succ F ih =>
    intro j I h1 h2 hA hc
    rw [l_Market_most_45]
    by_cases hj : j = n
    · subst hj
      exact ⟨I, by rw [ifb_pos ((le32 (by omega) (by omega)).mpr (Nat.le_refl _))], Fr.rf, hA, hc⟩
    have hml : mxF (FvH n y mu (n - pc5 h - 1) h) h j ≤ 1000 := mxF_le (by omega) j (fun i hi hb => (FvH_b hy hn hh (by omega) hb).2)
    have hmm := mxF_m1 (F := FvH n y mu (n - pc5 h - 1) h) (h := h) j
    rw [ifb_neg (by rw [le32 (by omega) (by omega)]; omega), r_57_1 hR, bnd1_c, t_59, asrt_pos rfl, asrt_pos (vir (by omega) (by omega)), mostBy_c hR hn hA hh (by omega), bnd1_c, cl32 (by omega), hc]
    have fin : ∀ v : Int, max 0 (mxF (FvH n y mu (n - pc5 h - 1) h) h (j + 1)) = v → ∃ I', l_Market_most_45 S1 R 57 (nI n) (nI h) F (wI I 59 h (iI v)) (nI (j + 1)) = some I' ∧ Fr [(59, none)] I I' ∧ MkA n y mu (h + 1) I' ∧ I' 59 h = iI (max 0 (mxF (FvH n y mu (n - pc5 h - 1) h) h n)) := by
      intro v hv
      obtain ⟨I', e, f1, a1, a2⟩ := ih (j + 1) (wI I 59 h (iI v)) (by omega) (by omega) ⟨(wI_n (by omega)).trans hA.1, fun k hk => (wI_n (by omega)).trans (hA.2.1 k hk), fun q hq hq2 => (wI_n (by omega)).trans (hA.2.2 q hq hq2)⟩ (by rw [wI_s, hv])
      exact ⟨I', e, (Fr.w Fr.rf rfl).tr f1, a1, a2⟩
    cases hb : h.testBit j
    · have hFj := FvH_b (mu := mu) hy hn hh (i := j) (by omega) hb
      rw [if_neg (by decide), mxI_c (by omega) (by omega), bnd1_c, asrt_pos (vir (by omega) (by omega)), lt_c, nI_1]
      exact fin _ (by rw [mxF, if_neg (by rw [hb]; decide)]; omega)
    · rw [if_pos rfl, show (-1 : Int32) = iI (-1) from rfl, mxI_c (by omega) (by omega), bnd1_c, asrt_pos (vir (by omega) (by omega)), lt_c, nI_1]
      exact fin _ (by rw [mxF, if_pos hb]; omega)
theorem dec_k : ∀ t, t < 64 → nI (t + 1) + (-1) = nI t := by decide +kernel
theorem all_k : ∀ n, n < 6 → (isl 1 (nI n)) - 1 = nI (2 ^ n) + (-1) := by decide +kernel
theorem most19 {g : Nat} (hg : 100 ≤ g) (hR : RG p fe R) (hy : ∀ k, k < 25 → y k ≤ 99) (hn : n ≤ 5) : ∀ t F (I : MI), t ≤ 2 ^ n → t < F → MkA n y mu t I → ∃ I', l_Market_most_19 g S1 R 57 (nI n) F I (nI t + (-1)) = some I' ∧ Fr [(59, none)] I I' ∧ MkA n y mu 0 I' := by
  have h32 := fnH5 n (by omega)
  intro t
  induction t with
  | zero =>
    intro F I h1 h2 hA
    cases F with
    | zero => omega
    | succ F => exact ⟨I, by rw [l_Market_most_19, ifb_pos (by decide)], Fr.rf, hA⟩
  | succ t ih =>
    intro F I h1 h2 hA
    cases F with
    | zero => omega
    | succ F =>
      obtain ⟨I20, e1, f1, a1, a2⟩ := most45 (h := t) (mu := mu) hR hy hn (by omega) g 0 (wI I 59 t 0) (by omega) (by omega) ⟨(wI_n (by omega)).trans hA.1, fun k hk => (wI_n (by omega)).trans (hA.2.1 k hk), fun q hq hq2 => (wI_n (by omega)).trans (hA.2.2 q hq hq2)⟩ (by rw [wI_s, mxF]; rfl)
      rw [bv_max hy hn (by omega)] at a2
      obtain ⟨I', e2, f2, a3⟩ := ih F I20 (by omega) (by omega) ⟨a1.1, a1.2.1, fun q hq hq2 => by
        by_cases e : q = t
        · subst e; exact a2
        · exact a1.2.2 q (by omega) hq2⟩
      refine ⟨I', ?_, ((Fr.w Fr.rf rfl).tr f1).tr f2, a3⟩
      rw [l_Market_most_19, dec_k t (by omega), ifb_neg (zn (by omega)), r_57_1 hR, bnd1_c, t_59, asrt_pos rfl, ifb_neg (show ¬ Int32.ofNat ((20, 32) : Nat × Nat).snd ≤ nI t from fun z => absurd ((le32 (a := 32) (b := t) (by omega) (by omega)).mp z) (by omega)), asrt_pos (vir (by omega) (by omega)), cl32 (by omega), lt_c, show l_Market_most_45 S1 R 57 (nI n) (nI t) g (wI I 59 t 0) 0 = some I20 from e1, bnd1_c]
      exact e2
def fMo : FT := [(57, some 2), (57, some 3), (59, none)]
theorem most_c {g : Nat} (hg : 100 ≤ g) (hR : RG p fe R) (hy : ∀ k, k < 25 → y k ≤ 99) (hn : n ≤ 5) (h58 : ∀ k, k < 25 → I 58 k = nI (y k)) (mu : Int32) : ∃ I', f_Market_most g S1 R I 57 (nI n) mu = some (iI (bv n y mu n 0), I') ∧ Fr fMo I I' ∧ I' 57 2 = nI n ∧ MkA n y mu 0 I' := by
  have h32 := fnH5 n (by omega)
  have hp : 0 < 2 ^ n := Nat.two_pow_pos n
  obtain ⟨I', e, f1, a1⟩ := most19 (mu := mu) (g := g) hg hR hy hn (2 ^ n) g (wI (wI I 57 2 (nI n)) 57 3 mu) (Nat.le_refl _) (by omega) ⟨wI_s, fun k hk => by rw [wI_n (by omega), wI_n (by omega)]; exact h58 k hk, fun q hq hq2 => by omega⟩
  refine ⟨I', ?_, ((Fr.w Fr.rf rfl).w rfl).tr (f1.sub rfl), (f1 57 2 rfl).trans (by rw [wI_n (by omega), wI_s]), a1⟩
  have h0 := a1.2.2 0 (by omega) hp
  rw [show pc5 0 = 0 by decide, Nat.sub_zero] at h0
  unfold f_Market_most
  rw [lt_c, lt_c, all_k n (by omega), lt_c, e, bnd1_c, r_57_1 hR, bnd1_c, t_59, asrt_pos rfl, asrt_pos (pk_in 0 32 (by omega)), show Int32.toNatClampNeg 0 = 0 by decide, h0, lt_c]
theorem least_c {g : Nat} (hg : 100 ≤ g) (hR : RG p fe R) (hy : ∀ k, k < 25 → y k ≤ 99) (hn : n ≤ 5) (hA : MkA n y mu 0 I) (h2 : I 57 2 = nI n) (hh : h < 2 ^ n) (hp : pc5 h + (r + 1) = n) :
    f_Market_leastGuide g S1 R I 57 (nI h) = some (nI (agF (FvH n y mu r h) h n)) ∧ agF (FvH n y mu r h) h n < n ∧ h.testBit (agF (FvH n y mu r h) h n) = false := by
  have h32 := fnH5 n (by omega)
  have hbv := bv_in (mu := mu) hy hn (r + 1) h hh hp
  rw [bv_s] at hbv
  obtain ⟨o1, o2, o3, o4⟩ := agF_ok n hbv.1
  obtain ⟨ag, hag⟩ : ∃ ag, ag = agF (FvH n y mu r h) h n := ⟨_, rfl⟩
  rw [← hag] at o1 o2 o3 o4 ⊢
  refine ⟨?_, o1, o2⟩
  have hA' : MkA n y mu (h + 1) I := ⟨hA.1, hA.2.1, fun q _ hq => hA.2.2 q (by omega) hq⟩
  have h59 := hA.2.2 h (by omega) hh
  rw [show n - pc5 h = r + 1 by omega, bv_s] at h59
  have loop : ∀ F j, j ≤ ag → ag < j + F → l_Market_leastGuide_2 S1 R I 57 (nI h) F (nI j) = some (nI ag) := by
    intro F
    induction F with
    | zero => intro j h1 h2; omega
    | succ F ih =>
      intro j h1 h3
      have hmb := mostBy_c (i := j) hR hn hA' hh (by omega)
      rw [show n - pc5 h - 1 = r by omega] at hmb
      rw [l_Market_leastGuide_2, h2, ifb_neg (by rw [le32 (by omega) (by omega)]; omega), ifb_neg (zn (by omega)), r_57_1 hR, bnd1_c, t_59, asrt_pos rfl, ifb_neg (show ¬ Int32.ofNat ((20, 32) : Nat × Nat).snd ≤ nI h from fun z => absurd ((le32 (a := 32) (b := h) (by omega) (by omega)).mp z) (by omega)), hmb, bnd1_c, asrt_pos (vir (by omega) (by omega)), cl32 (by omega), h59]
      by_cases hj : j = ag
      · subst hj
        rw [if_neg (by rw [o2]; decide), ifb_pos (by rw [o3])]
      · have hne : ¬ (if h.testBit j = true then -1 else iI (FvH n y mu r h j)) = iI (mxF (FvH n y mu r h) h n) := by
          cases hb : h.testBit j
          · have h5 := o4 j (by omega) hb
            have h6 := FvH_in (mu := mu) hy hn hh hp (i := j) (by omega) hb
            rw [if_neg (by decide), iI_eq (by omega) (by omega)]
            omega
          · rw [if_pos rfl, show (-1 : Int32) = iI (-1) from rfl, iI_eq (by omega) (by omega)]
            omega
        rw [ifb_neg hne, nI_1]
        exact ih (j + 1) (by omega) (by omega)
  unfold f_Market_leastGuide
  exact loop g 0 (by omega) (by omega)
theorem tell_c {g : Nat} (hg : 100 ≤ g) (hR : RG p fe R) (hy : ∀ k, k < 25 → y k ≤ 99) (hn : n ≤ 5) : ∀ r F h (I : MI) (L : ML), r < F → h < 2 ^ n → pc5 h + r = n → MkA n y mu 0 I → I 57 2 = nI n → I 3 1 = nI (n - r) →
    ∃ I' L', l_Market_tellGuides_4 g S1 R 57 3 F I L (nI h) (nI (n - r)) = some (I', L') ∧ Fr [(3, some 1)] I I' ∧ FrL [(4, none)] L L' ∧ I' 3 1 = nI n ∧ (∀ q, q < n - r → L' 4 q = L 4 q) ∧ ∀ q, q < r → L' 4 (n - r + q) = (nI (rwv n y mu r h q)).toInt64 := by
  have h32 := fnH5 n (by omega)
  intro r
  induction r with
  | zero =>
    intro F h I L h1 hh hp hA h2 h3
    cases F with
    | zero => omega
    | succ F =>
      refine ⟨I, L, ?_, Fr.rf, FrL.rf, h3, fun q _ => rfl, fun q hq => by omega⟩
      rw [l_Market_tellGuides_4, h2, ifb_pos (by rw [le32 (by omega) (by omega)]; omega)]
  | succ r ih =>
    intro F h I L h1 hh hp hA h2 h3
    cases F with
    | zero => omega
    | succ F =>
      obtain ⟨lc, l1, l2⟩ := least_c (g := g) hg hR hy hn hA h2 hh hp
      obtain ⟨ag, hag⟩ : ∃ ag, ag = agF (FvH n y mu r h) h n := ⟨_, rfl⟩
      rw [← hag] at lc l1 l2
      obtain ⟨g1, g2, -⟩ := fnH1 n (by omega) h (by omega) hh ag l1 l2
      have e1 : n - (r + 1) + 1 = n - r := by omega
      obtain ⟨I', L', e, a1, a2, a3, a4, a5⟩ := ih F (h ||| 2 ^ ag) (wI I 3 1 (nI (n - (r + 1) + 1))) (wL L 4 (n - (r + 1)) (nI ag).toInt64) (by omega) g1 (by omega) ⟨(wI_n (by omega)).trans hA.1, fun k hk => (wI_n (by omega)).trans (hA.2.1 k hk), fun q hq hq2 => (wI_n (by omega)).trans (hA.2.2 q hq hq2)⟩ ((wI_n (by omega)).trans h2) (by rw [wI_s, e1])
      refine ⟨I', L', ?_, (Fr.w Fr.rf rfl).tr a1, (FrL.w FrL.rf rfl).tr a2, a3, fun q hq => ?_, fun q hq => ?_⟩
      · rw [l_Market_tellGuides_4, h2, ifb_neg (by rw [le32 (by omega) (by omega)]; omega), lc, bnd1_c, t_3, asrt_pos rfl, add_c hR h3 (by omega), bnd2_c, isl1_32 ag (by omega), nI_or, lt_c, nI_1, e1]
        rw [e1] at e
        exact e
      · rw [a4 q (by omega), wL_n (by omega)]
      · rw [rwv, ← hag]
        by_cases hq0 : q = 0
        · subst hq0
          rw [if_pos rfl, Nat.add_zero, a4 _ (by omega), wL_s]
        · rw [if_neg hq0, show n - (r + 1) + q = n - r + (q - 1) by omega]
          exact a5 (q - 1) (by omega)
theorem hent_c (hR : RG p fe R) (hn : n ≤ 5) {x5 : Int32} {z : Nat → Int32} : ∀ F k (I : MI) (L : ML), k ≤ n → n < k + F → (∀ j, j < n → I 119 j = z j) → I 90 1 = nI k → (∀ j, j < k → L 91 j = (z j).toInt64) →
    ∃ I' L', l_Mod_hire_33 S1 R 90 (nI n) x5 F I L (nI k) = some (I', L') ∧ Fr [(90, some 1)] I I' ∧ FrL [(91, none)] L L' ∧ I' 90 1 = nI n ∧ ∀ j, j < n → L' 91 j = (z j).toInt64 := by
  intro F
  induction F with
  | zero => intro k I L h1 h2; omega
  | succ F ih =>
    intro k I L h1 h2 h4 h5 h6
    rw [l_Mod_hire_33]
    by_cases hk : k = n
    · subst hk
      exact ⟨I, L, by rw [ifb_pos ((le32 (by omega) (by omega)).mpr (Nat.le_refl _))], Fr.rf, FrL.rf, h5, h6⟩
    · obtain ⟨I', L', e, a1, a2, a3, a4⟩ := ih (k + 1) (wI I 90 1 (nI (k + 1))) (wL L 91 k (z k).toInt64) (by omega) (by omega) (fun j hj => (wI_n (by omega)).trans (h4 j hj)) wI_s (fun j hj => by
        by_cases ej : j = k
        · rw [ej, wL_s]
        · rw [wL_n (by omega)]; exact h6 j (by omega))
      refine ⟨I', L', ?_, (Fr.w Fr.rf rfl).tr a1, (FrL.w FrL.rf rfl).tr a2, a3, a4⟩
      rw [ifb_neg (by rw [le32 (by omega) (by omega)]; omega), r_90_49 hR, bnd1_c, t_119, asrt_pos rfl, asrt_pos (vir (by omega) (by omega)), cl32 (by omega), h4 k (by omega), enters_c hR h5 (by omega), bnd2_c, nI_1]
      exact e
def fHr : FT := [(3, some 1), (57, some 2), (57, some 3), (59, none), (118, none), (119, none), (90, some 0), (90, some 1), (90, some 50)]
theorem op_hire {g : Nat} (hg : 1000 ≤ g) (hC : Cp B I L R) (x : Int32) : ∃ v I1 L1 I2 L2, f_GWL_hire g S1 R I L 0 x = some (v, I1, L1) ∧ f_Mod_hire g S1 R I1 L1 90 x = some (v, I2, L2) ∧ Cp (B + 1) I2 L2 R := by
  obtain ⟨⟨p, fe, hR⟩, hTx, hRw, hWg, hFe, hSh, hMk, W, H, K, hLn, hPt, hPs, hPr, hKp⟩ := hC
  have f0 : Fr [(90, some 0)] I (wI I 90 0 0) := Fr.w Fr.rf rfl
  have fin : Cp (B + 1) (wI I 90 0 0) L R := by
    refine ⟨⟨_, _, hR⟩, hTx.imp fun _ h => h.imp fun _ h => h.ag (f0.ag rfl), hRw.imp fun _ h => h.imp fun _ h => h.ag (f0.ag rfl) (fun _ _ _ => rfl), hWg.imp fun _ h => h.imp fun _ h => h.ag (f0.ag rfl), hFe.imp fun _ h => h.ag (f0.ag rfl), hSh.ag (f0.ag rfl), hMk.imp fun _ h => h.ag (f0.ag rfl), W, H, K, hLn.ag (f0.ag rfl), hPt.imp fun _ h => h.ag (f0.ag rfl), hPs.imp fun _ h => h.imp fun _ h => h.imp fun _ h => h.ag (f0.ag rfl), hPr.imp fun _ h => h.imp fun _ h => h.imp fun _ h => h.ag (f0.ag rfl), hKp.ag (f0.ag rfl)⟩
  obtain ⟨y, hy⟩ := id hMk
  rcases ix5 x 5 (by omega) with hx | ⟨n, hn1, hn5, rfl⟩
  · refine ⟨-1, I, L, _, L, ?_, ?_, fin⟩
    · unfold f_GWL_hire
      by_cases h1 : x < 1
      · rw [ifb_pos h1]
      · rw [ifb_neg h1, ifb_neg (show ¬ x ≤ 5 from Int32.not_le.mpr (hx.resolve_left h1))]
    · unfold f_Mod_hire
      rw [lt_c, show (5 : Int64) = (5 : Int32).toInt64 from rfl, in1_c, if_neg (fun z => hx.elim (fun h => Int32.not_le.mpr h z.1) (fun h => Int32.not_le.mpr h z.2)), bnd1_c, ifb_pos rfl]
  have a1 : ¬ nI n < 1 := by rw [show (1 : Int32) = nI 1 from rfl, lt32 (by omega) (by omega)]; omega
  have a5 : nI n ≤ 5 := by rw [show (5 : Int32) = nI 5 from rfl, le32 (by omega) (by omega)]; omega
  have hin5 : f_Mod_in (nI n).toInt64 1 5 = some 1 := by
    rw [show (5 : Int64) = (5 : Int32).toInt64 from rfl, in1_c, if_pos ⟨Int32.not_lt.mp a1, a5⟩]
  have hy99 : ∀ k, k < 25 → y k ≤ 99 := fun k hk => (hy k hk).1
  obtain ⟨I6, e1, b1, b2, b3⟩ := most_c (g := g) (by omega) hR hy99 hn5 (fun k hk => (hy k hk).2.1) (-1)
  have f1 : Fr fHr I (wI I6 3 1 0) := (b1.sub rfl).w rfl
  have h0 : pc5 0 = 0 := by decide
  obtain ⟨I1, L1, e2, c1, c2, c3, -, c5⟩ := tell_c (mu := -1) (g := g) (by omega) hR hy99 hn5 n g 0 (wI I6 3 1 0) L (by omega) (Nat.two_pow_pos n) (by omega) ⟨(wI_n (by omega)).trans b3.1, fun k hk => (wI_n (by omega)).trans (b3.2.1 k hk), fun q hq hq2 => (wI_n (by omega)).trans (b3.2.2 q hq hq2)⟩ ((wI_n (by omega)).trans b2) (by rw [wI_s, Nat.sub_self]; rfl)
  rw [Nat.sub_self] at e2 c5
  have f2 : Fr fHr I I1 := f1.tr (c1.sub rfl)
  have f3 : Fr fHr I (wI I1 90 0 0) := f2.w rfl
  obtain ⟨J6, e3, d1, d2⟩ := hiresBy_c (g := g) (J := wI I1 90 0 0) (by omega) hR hy99 hn5 (fun k hk => (f3 117 k rfl).trans (hy k hk).2.2) (-1)
  have f4 : Fr fHr I (wI J6 90 1 0) := (f3.tr (d1.sub rfl)).w rfl
  obtain ⟨I2, L2, e4, g1, g2, g3, g4⟩ := hent_c (x5 := iI (bv n y (-1) n 0)) (z := fun q => nI (rwv n y (-1) n 0 q)) hR hn5 g 0 (wI J6 90 1 0) L1 (by omega) (by omega) (fun j hj => (wI_n (by omega)).trans (d2 j hj)) wI_s (fun j hj => by omega)
  have f5 : Fr fHr I I2 := f4.tr (g1.sub rfl)
  have l5 : FrL [(4, none), (91, none)] L L2 := (c2.sub rfl).tr (g2.sub rfl)
  refine ⟨iI (bv n y (-1) n 0), I1, L1, I2, L2, ?_, ?_, ?_⟩
  · unfold f_GWL_hire f_Numbers_begin f_Market_tellGuides
    rw [ifb_neg a1, ifb_pos a5, r_0_18 hR, bnd1_c, t_57, asrt_pos rfl, e1, bnd2_c, r_0_1 hR, bnd1_c, t_3, asrt_pos rfl, lt_c, bnd1_c, show l_Market_tellGuides_4 g S1 R 57 3 g (wI I6 3 1 0) L 0 0 = some (I1, L1) from e2, bnd2_c, bnd2_c]
  · unfold f_Mod_hire
    rw [lt_c, hin5, bnd1_c, ifb_neg ne10, e3, bnd2_c, lt_c, show l_Mod_hire_33 S1 R 90 (nI n) (iI (bv n y (-1) n 0)) g (wI J6 90 1 0) L1 0 = some (I2, L2) from e4, bnd2_c]
  · refine ⟨⟨_, _, hR⟩, hTx.imp fun _ h => h.imp fun _ h => h.ag (f5.ag rfl), ?_, hWg.imp fun _ h => h.imp fun _ h => h.ag (f5.ag rfl), hFe.imp fun _ h => h.ag (f5.ag rfl), hSh.ag (f5.ag rfl), hMk.imp fun _ h => h.ag (f5.ag rfl), W, H, K, hLn.ag (f5.ag rfl), hPt.imp fun _ h => h.ag (f5.ag rfl), hPs.imp fun _ h => h.imp fun _ h => h.imp fun _ h => h.ag (f5.ag rfl), hPr.imp fun _ h => h.imp fun _ h => h.imp fun _ h => h.ag (f5.ag rfl), hKp.ag (f5.ag rfl)⟩
    refine ⟨n, fun k => (nI (rwv n y (-1) n 0 k)).toInt64, by omega, ?_, g3, fun k hk => ⟨?_, g4 k hk⟩⟩
    · rw [g1 3 1 rfl, wI_n (by omega), d1 3 1 rfl, wI_n (by omega), c3]
    · rw [g2 4 k rfl]
      have := c5 k hk
      rw [Nat.zero_add] at this
      exact this
theorem op_hoarse {g : Nat} (hg : 1000 ≤ g) (hC : Cp B I L R) (x z : Int32) : ∃ v I1 I2, f_GWL_hoarse g S1 R I 0 x z = some (v, I1) ∧ f_Mod_hoarse g S1 R I1 90 x z = some (v, I2) ∧ Cp (B + 1) I2 L R := by
  obtain ⟨⟨p, fe, hR⟩, hTx, hRw, hWg, hFe, hSh, hMk, W, H, K, hLn, hPt, hPs, hPr, hKp⟩ := hC
  have f0 : Fr [(90, some 0)] I (wI I 90 0 0) := Fr.w Fr.rf rfl
  have fin : Cp (B + 1) (wI I 90 0 0) L R := by
    refine ⟨⟨_, _, hR⟩, hTx.imp fun _ h => h.imp fun _ h => h.ag (f0.ag rfl), hRw.imp fun _ h => h.imp fun _ h => h.ag (f0.ag rfl) (fun _ _ _ => rfl), hWg.imp fun _ h => h.imp fun _ h => h.ag (f0.ag rfl), hFe.imp fun _ h => h.ag (f0.ag rfl), hSh.ag (f0.ag rfl), hMk.imp fun _ h => h.ag (f0.ag rfl), W, H, K, hLn.ag (f0.ag rfl), hPt.imp fun _ h => h.ag (f0.ag rfl), hPs.imp fun _ h => h.imp fun _ h => h.imp fun _ h => h.ag (f0.ag rfl), hPr.imp fun _ h => h.imp fun _ h => h.imp fun _ h => h.ag (f0.ag rfl), hKp.ag (f0.ag rfl)⟩
  obtain ⟨y, hy⟩ := id hMk
  rcases ix5 z 5 (by omega) with hx | ⟨n, hn1, hn5, rfl⟩
  · refine ⟨-1, I, _, ?_, ?_, fin⟩
    · unfold f_GWL_hoarse
      by_cases h1 : z < 1
      · rw [ifb_pos h1]
      · rw [ifb_neg h1, ifb_pos (show (5 : Int32) < z from hx.resolve_left h1)]
    · unfold f_Mod_hoarse
      rw [lt_c, show (5 : Int64) = (5 : Int32).toInt64 from rfl, in1_c, if_neg (fun z => hx.elim (fun h => Int32.not_le.mpr h z.1) (fun h => Int32.not_le.mpr h z.2)), bnd1_c, ifb_pos rfl]
  have a1 : ¬ nI n < 1 := by rw [show (1 : Int32) = nI 1 from rfl, lt32 (by omega) (by omega)]; omega
  have a5 : ¬ 5 < nI n := by rw [show (5 : Int32) = nI 5 from rfl, lt32 (by omega) (by omega)]; omega
  have hin5 : f_Mod_in (nI n).toInt64 1 5 = some 1 := by
    rw [show (5 : Int64) = (5 : Int32).toInt64 from rfl, in1_c, if_pos ⟨Int32.not_lt.mp a1, Int32.not_lt.mp a5⟩]
  rcases ix3 x n (by omega) with hi | ⟨i, hi, rfl⟩
  · refine ⟨-1, I, _, ?_, ?_, fin⟩
    · unfold f_GWL_hoarse
      rw [ifb_neg a1, ifb_neg a5]
      by_cases h1 : x < 0
      · rw [ifb_pos h1]
      · rw [ifb_neg h1, ifb_neg (Int32.not_lt.mpr (hi.resolve_left h1))]
    · unfold f_Mod_hoarse
      rw [lt_c, hin5, bnd1_c, ifb_neg ne10, sub1 hn1, in_f rfl (show x < 0 ∨ nI (n - 1) < x from hi.imp id (fun h => (le_gt (n := n - 1) (by omega)).mp (by rw [Nat.sub_add_cancel hn1]; exact h))), bnd1_c, ifb_pos rfl]
  have hy99 : ∀ k, k < 25 → y k ≤ 99 := fun k hk => (hy k hk).1
  obtain ⟨I8, e1, b1, -, -⟩ := most_c (g := g) (by omega) hR hy99 hn5 (fun k hk => (hy k hk).2.1) (-1)
  obtain ⟨I11, e2, b2, -, -⟩ := most_c (g := g) (I := I8) (by omega) hR hy99 hn5 (fun k hk => (b1 58 k rfl).trans (hy k hk).2.1) (nI i)
  have f2 : Fr fHr I I11 := (b1.sub rfl).tr (b2.sub rfl)
  have f3 : Fr fHr I (wI I11 90 0 0) := f2.w rfl
  obtain ⟨J9, e3, d1, -⟩ := hiresBy_c (g := g) (J := wI I11 90 0 0) (by omega) hR hy99 hn5 (fun k hk => (f3 117 k rfl).trans (hy k hk).2.2) (-1)
  have f4 : Fr fHr I J9 := f3.tr (d1.sub rfl)
  obtain ⟨J12, e4, d2, -⟩ := hiresBy_c (g := g) (J := J9) (by omega) hR hy99 hn5 (fun k hk => (f4 117 k rfl).trans (hy k hk).2.2) (nI i)
  have f5 : Fr fHr I J12 := f4.tr (d2.sub rfl)
  have f6 : Fr [(57, some 2), (57, some 3), (59, none), (118, none), (119, none), (90, some 0), (90, some 50)] I J12 := (((b1.sub rfl).tr (b2.sub rfl)).w rfl).tr ((d1.tr d2).sub rfl)
  refine ⟨iI (bv n y (-1) n 0) - iI (bv n y (nI i) n 0), I11, J12, ?_, ?_, ?_⟩
  · unfold f_GWL_hoarse
    rw [ifb_neg a1, ifb_neg a5, ifb_neg (zn (by omega)), ifb_pos ((lt32 (by omega) (by omega)).mpr hi), r_0_18 hR, bnd1_c, t_57, asrt_pos rfl, e1, bnd2_c, e2, bnd2_c, lt_c]
  · unfold f_Mod_hoarse
    rw [lt_c, hin5, bnd1_c, ifb_neg ne10, sub1 hn1, in_t rfl (by omega) (by omega), bnd1_c, ifb_neg ne10, e3, bnd2_c, e4, bnd2_c, lt_c]
  · refine ⟨⟨_, _, hR⟩, hTx.imp fun _ h => h.imp fun _ h => h.ag (f6.ag rfl), hRw.imp fun _ h => h.imp fun _ h => h.ag (f6.ag rfl) (fun _ _ _ => rfl), hWg.imp fun _ h => h.imp fun _ h => h.ag (f6.ag rfl), hFe.imp fun _ h => h.ag (f6.ag rfl), hSh.ag (f6.ag rfl), hMk.imp fun _ h => h.ag (f6.ag rfl), W, H, K, hLn.ag (f6.ag rfl), hPt.imp fun _ h => h.ag (f6.ag rfl), hPs.imp fun _ h => h.imp fun _ h => h.imp fun _ h => h.ag (f6.ag rfl), hPr.imp fun _ h => h.imp fun _ h => h.imp fun _ h => h.ag (f6.ag rfl), hKp.ag (f6.ag rfl)⟩
end HJ
