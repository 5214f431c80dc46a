section LB
/-! small rows -/
theorem zn {n : Nat} (h : n < 2147483648) : ¬ nI n < 0 := nI_pos (by omega)
theorem le32 {a b : Nat} (ha : a < 2147483648) (hb : b < 2147483648) : nI a ≤ nI b ↔ a ≤ b := nI_leI (by omega) (by omega)
theorem lt32 {a b : Nat} (ha : a < 2147483648) (hb : b < 2147483648) : nI a < nI b ↔ a < b := nI_ltI (by omega) (by omega)
theorem eq32 {a b : Nat} (ha : a < 2147483648) (hb : b < 2147483648) : nI a = nI b ↔ a = b := nI_eq (by omega) (by omega)
theorem cl32 {n : Nat} (h : n < 2147483648) : (nI n).toNatClampNeg = n := nI_clamp (by omega)
theorem vi32 {n N : Nat} (hN : n < 2147483648) : vp_in (nI n) N ↔ n < N := by
  rw [vp_in_iff, tI_n hN]; omega
theorem nIm1 {n : Nat} (h : n < 2147483648) : nI n ≠ -1 := fun e => by
  have := congrArg Int32.toInt e
  rw [tI_n h, tI_m1] at this
  omega
theorem in_g {x a b : Int64} : f_Mod_in x a b = some (if a ≤ x ∧ x ≤ b then 1 else 0) := by
  unfold f_Mod_in
  by_cases h1 : lg_cmp x a < 0
  · rw [ifb_pos h1, bnd1_c, asrt_pos (Or.inl rfl)]
    rw [lg_cmp_lt] at h1
    rw [if_neg (fun z => by have := Int64.lt_iff_toInt_lt.mp h1; have := Int64.le_iff_toInt_le.mp z.1; omega)]
  · rw [ifb_neg h1]
    rw [lg_cmp_lt] at h1
    by_cases h2 : 0 < lg_cmp x b
    · rw [ifb_pos h2, bnd1_c, asrt_pos (Or.inl rfl)]
      rw [lg_cmp_gt] at h2
      rw [if_neg (fun z => by have := Int64.lt_iff_toInt_lt.mp h2; have := Int64.le_iff_toInt_le.mp z.2; omega)]
    · rw [ifb_neg h2, bnd1_c, asrt_pos (Or.inr rfl)]
      rw [lg_cmp_gt] at h2
      rw [if_pos]
      rw [Int64.lt_iff_toInt_lt] at h1 h2
      rw [Int64.le_iff_toInt_le, Int64.le_iff_toInt_le]
      omega
theorem in_i {x y : Int32} {b : Int64} (hb : b = y.toInt64) : f_Mod_in x.toInt64 0 b = some (if 0 ≤ x ∧ x ≤ y then 1 else 0) := by
  subst hb
  rw [in_g, show (0 : Int64) = (0 : Int32).toInt64 from rfl]
  simp only [Int32.toInt64_le]
theorem in_t {c n : Nat} {b : Int64} (hb : b = (nI n).toInt64) (h : c ≤ n) (hn : n < 2147483648) : f_Mod_in (nI c).toInt64 0 b = some 1 := by
  rw [in_i hb, if_pos ⟨by rw [nI0, le32 (by omega) (by omega)]; omega, by rw [le32 (by omega) hn]; exact h⟩]
theorem in_f {x y : Int32} {b : Int64} (hb : b = y.toInt64) (h : x < 0 ∨ y < x) : f_Mod_in x.toInt64 0 b = some 0 := by
  rw [in_i hb, if_neg]
  rintro ⟨z1, z2⟩
  rcases h with h | h
  · exact Int32.not_lt.mpr z1 h
  · exact Int32.not_lt.mpr z2 h
/-! the moor -/
variable {W H : Nat} {K : Nat → Nat} {I : MI} {R : MR} {p : Bool} {fe : Nat}
theorem out32 {x : Int32} {n : Nat} (hn : n < 2147483648) (h : ¬ x < 0) (h2 : ¬ nI n ≤ x) : ∃ j, j < n ∧ x = nI j := by
  rcases pk_ix x (n := n) (by omega) with z | z | z
  · exact absurd z h
  · exact absurd z h2
  · exact z
theorem LKc.N36 (h : LKc W H K I) : 1 ≤ W * H ∧ W * H ≤ 36 := ⟨Nat.mul_pos h.1.1 h.2.1.1, Nat.mul_le_mul h.1.2 h.2.1.2⟩
theorem LM.N36 (h : LM W H K I) : 1 ≤ W * H ∧ W * H ≤ 36 := ⟨Nat.mul_pos h.1.1 h.2.1.1, Nat.mul_le_mul h.1.2 h.2.1.2⟩
theorem kindOf_in (h : LKc W H K I) (hR : RG p fe R) {c : Nat} (hc : c < W * H) : f_Land_kindOf S1 R I 60 (nI c) = some (nI (K c)) := by
  have hN := h.N36
  obtain ⟨h1, h2, h3, h4, h5, h6⟩ := h
  unfold f_Land_kindOf
  rw [h4, h5, pk_mul, ifb_neg (zn (by omega)), ifb_neg (by rw [le32 (by omega) (by omega)]; omega), show (36 : Int32) = nI 36 from rfl, ifb_neg (by rw [le32 (by omega) (by omega)]; omega), r_60_2 hR, bnd1_c, t_61, asrt_pos rfl,
    asrt_pos ((vi32 (by omega)).mpr (by omega)), cl32 (by omega), h6 c hc]
  rfl
theorem kindOf_out (h : LKc W H K I) {x : Int32} (hx : x < 0 ∨ nI (W * H) ≤ x) : f_Land_kindOf S1 R I 60 x = some (-1) := by
  obtain ⟨h1, h2, h3, h4, h5, h6⟩ := h
  unfold f_Land_kindOf
  rw [h4, h5, pk_mul]
  by_cases h1 : x < 0
  · rw [ifb_pos h1]; rfl
  · rw [ifb_neg h1, ifb_pos (hx.resolve_left h1)]; rfl
theorem has_in (h : LKc W H K I) {c : Nat} (hc : c < W * H) : f_Land_has S1 I 60 (nI c) = some 1 := by
  have hN := h.N36
  obtain ⟨h1, h2, h3, h4, h5, h6⟩ := h
  unfold f_Land_has
  rw [h4, h5, pk_mul, ifb_neg (zn (by omega)), ifb_neg (by rw [le32 (by omega) (by omega)]; omega), show (36 : Int32) = nI 36 from rfl, ifb_neg (by rw [le32 (by omega) (by omega)]; omega), bnd1_c, asrt_pos (Or.inr rfl)]
theorem has_out (h : LKc W H K I) {x : Int32} (hx : x < 0 ∨ nI (W * H) ≤ x) : f_Land_has S1 I 60 x = some 0 := by
  obtain ⟨h1, h2, h3, h4, h5, h6⟩ := h
  unfold f_Land_has
  rw [h4, h5, pk_mul]
  by_cases h1 : x < 0
  · rw [ifb_pos h1, bnd1_c, asrt_pos (Or.inl rfl)]
  · rw [ifb_neg h1, ifb_pos (hx.resolve_left h1), bnd1_c, asrt_pos (Or.inl rfl)]
theorem sub1 {n : Nat} (h : 1 ≤ n) : nI n - 1 = nI (n - 1) := pk_sub (b := 1) h
theorem isCell_in (h : LM W H K I) {c : Nat} (hc : c < W * H) : f_Mod_isCell S1 I 90 (nI c) = some 1 := by
  have hN := h.N36
  obtain ⟨h1, h2, h3, h4, h5, h6⟩ := h
  unfold f_Mod_isCell f_Mod_cells
  rw [h4, h5, pk_mul, lt_c, bnd1_c, sub1 hN.1, in_t rfl (by omega) (by omega), bnd1_c, asrt_pos (Or.inr rfl)]
theorem isCell_out (h : LM W H K I) {x : Int32} (hx : x < 0 ∨ nI (W * H) ≤ x) : f_Mod_isCell S1 I 90 x = some 0 := by
  have hN := h.N36
  obtain ⟨h1, h2, h3, h4, h5, h6⟩ := h
  unfold f_Mod_isCell f_Mod_cells
  rw [h4, h5, pk_mul, lt_c, bnd1_c, sub1 hN.1, in_f rfl, bnd1_c, asrt_pos (Or.inl rfl)]
  rcases hx with hx | hx
  · exact Or.inl hx
  · right
    rw [Int32.lt_iff_toInt_lt, tI_n (by omega)]
    rw [Int32.le_iff_toInt_le, tI_n (by omega)] at hx
    omega
/-- what ends a walk, as a number -/
def eb (k : Nat) : Int32 := if isE k then 1 else 0
theorem eb01 (k : Nat) : eb k = 0 ∨ eb k = 1 := by unfold eb; split <;> simp
theorem k4 {k : Nat} (h : k < 4) : k = 0 ∨ k = 1 ∨ k = 2 ∨ k = 3 := by omega
theorem isEnd_in (h : LM W H K I) (hR : RG p fe R) {c : Nat} (hc : c < W * H) : f_Mod_isEnd S1 R I 90 (nI c) = some (eb (K c)) := by
  have hN := h.N36
  obtain ⟨h1, h2, h3, h4, h5, h6⟩ := h
  have hk := h3 c
  unfold f_Mod_isEnd
  rw [r_90_5 hR, bnd1_c, t_92, asrt_pos rfl, asrt_pos ((vi32 (by omega)).mpr (by omega)), cl32 (by omega), h6 c hc, asrt_pos ((vi32 (by omega)).mpr (by omega))]
  generalize K c = k at hk
  rcases k4 hk with rfl | rfl | rfl | rfl
  · rw [ifb_neg (by decide), ifb_neg (by decide), bnd1_c, asrt_pos (by decide)]; rfl
  · rw [ifb_pos (by decide), bnd1_c, asrt_pos (by decide)]; rfl
  · rw [ifb_neg (by decide), ifb_neg (by decide), bnd1_c, asrt_pos (by decide)]; rfl
  · rw [ifb_neg (by decide), ifb_pos (by decide), bnd1_c, asrt_pos (by decide)]; rfl
theorem endsAt_in (h : LKc W H K I) (hR : RG p fe R) {c : Nat} (hc : c < W * H) : f_Land_endsAt S1 R I 60 (nI c) = some (eb (K c)) := by
  have hk := h.2.2.1 c
  unfold f_Land_endsAt
  rw [kindOf_in h hR hc, bnd1_c]
  generalize K c = k at hk
  rcases k4 hk with rfl | rfl | rfl | rfl
  · rw [ifb_neg (by decide), ifb_neg (by decide), bnd1_c, asrt_pos (by decide)]; rfl
  · rw [ifb_pos (by decide), bnd1_c, asrt_pos (by decide)]; rfl
  · rw [ifb_neg (by decide), ifb_neg (by decide), bnd1_c, asrt_pos (by decide)]; rfl
  · rw [ifb_neg (by decide), ifb_pos (by decide), bnd1_c, asrt_pos (by decide)]; rfl
theorem endsAt_out (h : LKc W H K I) {x : Int32} (hx : x < 0 ∨ nI (W * H) ≤ x) : f_Land_endsAt S1 R I 60 x = some 0 := by
  unfold f_Land_endsAt
  rw [kindOf_out h hx, bnd1_c, ifb_neg (by decide), ifb_neg (by decide), bnd1_c, asrt_pos (by decide)]
/-! where a step goes -/
theorem hd3_lt {s t : Nat} : hd3 s t < 4 := Nat.mod_lt _ (by decide)
theorem nxt_lt (hW : 1 ≤ W ∧ W ≤ 6) {c h : Nat} (hc : c < W * H) : nxt W H K c h < W * H := by
  unfold nxt
  have : W = 1 ∨ W = 2 ∨ W = 3 ∨ W = 4 ∨ W = 5 ∨ W = 6 := by omega
  rcases this with rfl | rfl | rfl | rfl | rfl | rfl <;> (repeat' split) <;> omega
theorem aft_lt (hW : 1 ≤ W ∧ W ≤ 6) {s t : Nat} (hs : s < 4 * (W * H)) : aft W H K s t < 4 * (W * H) := by
  unfold aft
  have := @hd3_lt s t
  have := @nxt_lt W H K hW (s / 4) (hd3 s t) (by omega)
  omega
theorem turned_c {h t : Nat} (hh : h < 4) (ht : t < 3) : f_Mod_turned (nI h) (nI t) = some (nI ((h + t + 3) % 4)) := by
  unfold f_Mod_turned irm
  rw [lt_c, nI_add, show (3 : Int32) = nI 3 from rfl, nI_add, show (4 : Int32) = nI 4 from rfl, pk_rem (by omega) (by omega) (by omega)]
theorem cb_in (h : LM W H K I) (hR : RG p fe R) {c x y : Nat} (hx : x < W) (hy : y < H) : (bnd1 (f_Mod_in (nI x).toInt64 0 (nI (W - 1)).toInt64) fun x17 =>
  bnd1 (ifb (x17 = 0)
      (some 0)
      (bnd1 (f_Mod_in (nI y).toInt64 0 (nI (H - 1)).toInt64) fun x23 =>
      ifb (x23 = 0)
        (some 0)
        (bnd1 (R 90 5) fun b26 =>
        lt ((nI W * nI y) + nI x) fun (x27 : Int32) =>
        asrt ((S1 b26).1 = 20) <|
        asrt (vp_in x27 (S1 b26).2) <|
        ifb ((I b26 (Int32.toNatClampNeg x27)) = 2)
          (some 0)
          (some 1)))) fun (y20 : Int32) =>
  bnd1 (ifb (y20 = 0)
      (some (nI c))
      (some ((nI W * nI y) + nI x))) fun (y32 : Int32) =>
  some y32) = some (if K (W * y + x) = 2 then nI c else nI (W * y + x)) := by
  have hN := h.N36
  obtain ⟨h1, h2, h3, h4, h5, h6⟩ := h
  have hb : W * y + x < W * H := by
    have : W * (y + 1) ≤ W * H := Nat.mul_le_mul_left W hy
    rw [Nat.mul_add] at this
    omega
  rw [in_t rfl (by omega) (by omega), bnd1_c, ifb_neg (by decide), in_t rfl (by omega) (by omega), bnd1_c, ifb_neg (by decide), r_90_5 hR, bnd1_c, lt_c, pk_mul, nI_add, t_92, asrt_pos rfl, asrt_pos ((vi32 (by omega)).mpr (by omega)), cl32 (by omega), h6 _ hb]
  by_cases e : K (W * y + x) = 2
  · rw [if_pos e, e, ifb_pos (show nI 2 = 2 from rfl), bnd1_c, ifb_pos rfl]; rfl
  · have := h3 (W * y + x)
    rw [if_neg e, ifb_neg (by rw [show (2 : Int32) = nI 2 from rfl, eq32 (by omega) (by omega)]; exact e), bnd1_c, ifb_neg (by decide)]; rfl
theorem cb_o1 {c : Nat} {X Y : Int32} (hx : X < 0 ∨ nI (W - 1) < X) : (bnd1 (f_Mod_in X.toInt64 0 (nI (W - 1)).toInt64) fun x17 =>
  bnd1 (ifb (x17 = 0)
      (some 0)
      (bnd1 (f_Mod_in Y.toInt64 0 (nI (H - 1)).toInt64) fun x23 =>
      ifb (x23 = 0)
        (some 0)
        (bnd1 (R 90 5) fun b26 =>
        lt ((nI W * Y) + X) fun (x27 : Int32) =>
        asrt ((S1 b26).1 = 20) <|
        asrt (vp_in x27 (S1 b26).2) <|
        ifb ((I b26 (Int32.toNatClampNeg x27)) = 2)
          (some 0)
          (some 1)))) fun (y20 : Int32) =>
  bnd1 (ifb (y20 = 0)
      (some (nI c))
      (some ((nI W * Y) + X))) fun (y32 : Int32) =>
  some y32) = some (nI c) := by
  rw [in_f rfl hx, bnd1_c, ifb_pos rfl, bnd1_c, ifb_pos rfl]; rfl
theorem cb_o2 {c x : Nat} {Y : Int32} (hx : x < W) (hW : W ≤ 6) (hy : Y < 0 ∨ nI (H - 1) < Y) : (bnd1 (f_Mod_in (nI x).toInt64 0 (nI (W - 1)).toInt64) fun x17 =>
  bnd1 (ifb (x17 = 0)
      (some 0)
      (bnd1 (f_Mod_in Y.toInt64 0 (nI (H - 1)).toInt64) fun x23 =>
      ifb (x23 = 0)
        (some 0)
        (bnd1 (R 90 5) fun b26 =>
        lt ((nI W * Y) + nI x) fun (x27 : Int32) =>
        asrt ((S1 b26).1 = 20) <|
        asrt (vp_in x27 (S1 b26).2) <|
        ifb ((I b26 (Int32.toNatClampNeg x27)) = 2)
          (some 0)
          (some 1)))) fun (y20 : Int32) =>
  bnd1 (ifb (y20 = 0)
      (some (nI c))
      (some ((nI W * Y) + nI x))) fun (y32 : Int32) =>
  some y32) = some (nI c) := by
  rw [in_t rfl (by omega) (by omega), bnd1_c, ifb_neg (by decide), in_f rfl hy, bnd1_c, ifb_pos rfl, bnd1_c, ifb_pos rfl]; rfl
theorem cellBy_c (h : LM W H K I) (hR : RG p fe R) {c d : Nat} (hc : c < W * H) (hd : d < 4) : f_Mod_cellBy S1 R I 90 (nI c) (nI d) = some (nI (nxt W H K c d)) := by
  have hN := h.N36
  have hh := h
  obtain ⟨hW, hH, h3, h4, h5, h6⟩ := h
  have hm : c % W < W := Nat.mod_lt _ (by omega)
  have hdm := Nat.div_add_mod c W
  have hq : c / W < H := Nat.div_lt_of_lt_mul hc
  have hnz : ¬ nI W = 0 := nI_ne0 (by omega) (by omega)
  have e0 : (0 : Int32) = nI 0 := rfl
  unfold f_Mod_cellBy irm
  rw [h4, lt_c, asrt_pos hnz]
  rcases k4 hd with rfl | rfl | rfl | rfl
  · rw [ifb_neg (by decide), ifb_neg (by decide), bnd1_c, lt_c, lt_c, asrt_pos hnz, ifb_neg (by decide), ifb_pos (by decide), bnd1_c, lt_c, pk_rem (by omega) (by omega) (by omega), pk_div (by omega) (by omega) (by omega), h5, sub1 hW.1, sub1 hH.1,
      show nI (c % W) + 0 = nI (c % W) from nI_add _ 0]
    unfold nxt
    rw [if_pos rfl]
    generalize c / W = r at *
    generalize c % W = m at *
    subst hdm
    cases r with
    | zero =>
      rw [cb_o2 hm hW.2 (Or.inl (by decide)), if_neg (by omega)]
    | succ r =>
      rw [pk_m1, cb_in hh hR hm (by omega)]
      rw [show W * (r + 1) + m - W = W * r + m by rw [Nat.mul_add]; omega]
      by_cases e : K (W * r + m) = 2
      · rw [if_pos e, if_neg (fun z => z.2 e)]
      · rw [if_neg e, if_pos ⟨by rw [Nat.mul_add]; omega, e⟩]
  · rw [ifb_pos (by decide), bnd1_c, lt_c, lt_c, asrt_pos hnz, ifb_neg (by decide), ifb_neg (by decide), bnd1_c, lt_c, pk_rem (by omega) (by omega) (by omega), pk_div (by omega) (by omega) (by omega), h5, sub1 hW.1, sub1 hH.1,
      show nI (c / W) + 0 = nI (c / W) from nI_add _ 0, nI_1]
    unfold nxt
    rw [if_neg (by decide), if_pos rfl]
    by_cases hx : c % W + 1 < W
    · rw [cb_in hh hR hx hq, show W * (c / W) + (c % W + 1) = c + 1 by omega]
      by_cases e : K (c + 1) = 2
      · rw [if_pos e, if_neg (fun z => z.2 e)]
      · rw [if_neg e, if_pos ⟨hx, e⟩]
    · rw [cb_o1 (Or.inr (by rw [lt32 (by omega) (by omega)]; omega)), if_neg (fun z => hx z.1)]
  · rw [ifb_neg (by decide), ifb_neg (by decide), bnd1_c, lt_c, lt_c, asrt_pos hnz, ifb_pos (by decide), bnd1_c, lt_c, pk_rem (by omega) (by omega) (by omega), pk_div (by omega) (by omega) (by omega), h5, sub1 hW.1, sub1 hH.1,
      show nI (c % W) + 0 = nI (c % W) from nI_add _ 0, nI_1]
    unfold nxt
    rw [if_neg (by decide), if_neg (by decide), if_pos rfl]
    have hin : (c / W + 1 < H) ↔ c + W < W * H := by
      constructor
      · intro z
        have : W * (c / W + 1 + 1) ≤ W * H := Nat.mul_le_mul_left W z
        rw [Nat.mul_add, Nat.mul_add] at this
        omega
      · intro z
        have : (c + W) / W < H := Nat.div_lt_of_lt_mul z
        rwa [Nat.add_div_right c (by omega)] at this
    by_cases hx : c / W + 1 < H
    · rw [cb_in hh hR hm hx, show W * (c / W + 1) + c % W = c + W by rw [Nat.mul_add]; omega]
      by_cases e : K (c + W) = 2
      · rw [if_pos e, if_neg (fun z => z.2 e)]
      · rw [if_neg e, if_pos ⟨hin.mp hx, e⟩]
    · rw [cb_o2 hm hW.2 (Or.inr (by rw [lt32 (by omega) (by omega)]; omega)), if_neg (fun z => hx (hin.mpr z.1))]
  · rw [ifb_neg (by decide), ifb_pos (by decide), bnd1_c, lt_c, lt_c, asrt_pos hnz, ifb_neg (by decide), ifb_neg (by decide), bnd1_c, lt_c, pk_rem (by omega) (by omega) (by omega), pk_div (by omega) (by omega) (by omega), h5, sub1 hW.1, sub1 hH.1,
      show nI (c / W) + 0 = nI (c / W) from nI_add _ 0]
    unfold nxt
    rw [if_neg (by decide), if_neg (by decide), if_neg (by decide)]
    generalize c / W = r at *
    generalize c % W = m at *
    subst hdm
    cases m with
    | zero =>
      rw [cb_o1 (Or.inl (by decide)), if_neg (by omega)]
    | succ m =>
      rw [pk_m1, cb_in hh hR (by omega) hq, show W * r + (m + 1) - 1 = W * r + m by omega]
      by_cases e : K (W * r + m) = 2
      · rw [if_pos e, if_neg (fun z => z.2 e)]
      · rw [if_neg e, if_pos ⟨by omega, e⟩]
end LB
