section SU
variable {W H : Nat} {K : Nat → Nat} {I : MI} {R : MR} {p : Bool} {fe : Nat}
theorem WrH {r m : Nat} (hr : r < H) (hm : m < W) : W * r + m < W * H := by
  have : W * (r + 1) ≤ W * H := Nat.mul_le_mul_left W hr
  rw [Nat.mul_add] at this
  omega
theorem ac_in (h : LKc W H K I) (hR : RG p fe R) {x y : Nat} {C : Int32} (hx : x < W) (hy : y < H) : (bnd1 (ifb (nI y < 0)
      (some 0)
      (ifb (nI H ≤ nI y)
        (some 0)
        (ifb (nI x < 0)
          (some 0)
          (ifb (nI W ≤ nI x)
            (some 0)
            (some 1))))) fun (y14 : Int32) =>
  lt ((nI y * nI W) + nI x) fun (x20 : Int32) =>
  bnd1 (ifb (y14 = 0)
      (some C)
      (bnd1 (f_Land_kindOf S1 R I 60 x20) fun x25 =>
      ifb (x25 = 2)
        (some C)
        (some x20))) fun (y22 : Int32) =>
  some y22) = some (if K (W * y + x) = 2 then C else nI (W * y + x)) := by
  have hN := h.N36
  have hh := h
  obtain ⟨h1, h2, h3, h4, h5, h6⟩ := h
  have hb := WrH hy hx
  rw [ifb_neg (zn (by omega)), ifb_neg (by rw [le32 (by omega) (by omega)]; omega), ifb_neg (zn (by omega)), ifb_neg (by rw [le32 (by omega) (by omega)]; omega), bnd1_c, pk_mul, nI_add, lt_c, ifb_neg (by decide), Nat.mul_comm y W, kindOf_in hh hR hb, bnd1_c]
  by_cases e : K (W * y + x) = 2
  · rw [if_pos e, e, ifb_pos (show nI 2 = 2 from rfl)]; rfl
  · have := h3 (W * y + x)
    rw [if_neg e, ifb_neg (by rw [show (2 : Int32) = nI 2 from rfl, eq32 (by omega) (by omega)]; exact e)]; rfl
theorem ac_out {X Y C : Int32} (hx : Y < 0 ∨ nI H ≤ Y ∨ X < 0 ∨ nI W ≤ X) : (bnd1 (ifb (Y < 0)
      (some 0)
      (ifb (nI H ≤ Y)
        (some 0)
        (ifb (X < 0)
          (some 0)
          (ifb (nI W ≤ X)
            (some 0)
            (some 1))))) fun (y14 : Int32) =>
  lt ((Y * nI W) + X) fun (x20 : Int32) =>
  bnd1 (ifb (y14 = 0)
      (some C)
      (bnd1 (f_Land_kindOf S1 R I 60 x20) fun x25 =>
      ifb (x25 = 2)
        (some C)
        (some x20))) fun (y22 : Int32) =>
  some y22) = some C := by
  by_cases h1 : Y < 0
  · rw [ifb_pos h1, bnd1_c, lt_c, ifb_pos rfl]; rfl
  · by_cases h2 : nI H ≤ Y
    · rw [ifb_neg h1, ifb_pos h2, bnd1_c, lt_c, ifb_pos rfl]; rfl
    · by_cases h3 : X < 0
      · rw [ifb_neg h1, ifb_neg h2, ifb_pos h3, bnd1_c, lt_c, ifb_pos rfl]; rfl
      · rw [ifb_neg h1, ifb_neg h2, ifb_neg h3, ifb_pos (((hx.resolve_left h1).resolve_left h2).resolve_left h3), bnd1_c, lt_c, ifb_pos rfl]; rfl
theorem across_c (h : LKc W H K I) (hR : RG p fe R) {r m d : Nat} (hr : r < H) (hm : m < W) (hd : d < 4) : f_Land_across S1 R I 60 (nI r) (nI m) (nI d) = some (nI (nxt W H K (W * r + m) d)) := by
  have hN := h.N36
  have hh := h
  obtain ⟨hW, hH, h3, h4, h5, h6⟩ := h
  have hb := WrH hr hm
  have hmod : (W * r + m) % W = m := by rw [Nat.mul_add_mod, Nat.mod_eq_of_lt hm]
  unfold f_Land_across
  rw [h4, h5]
  rcases k4 hd with rfl | rfl | rfl | rfl
  · rw [ifb_neg (by decide), ifb_pos (by decide), bnd1_c, lt_c, ifb_neg (by decide), ifb_neg (by decide), bnd1_c, lt_c, show nI m + 0 = nI m from nI_add _ 0]
    unfold nxt
    rw [if_pos rfl]
    cases r with
    | zero => rw [ac_out (Or.inl (by decide)), if_neg (by omega), pk_mul, nI_add, Nat.mul_comm]
    | succ r =>
      rw [pk_m1, ac_in hh hR hm (by omega), pk_mul, nI_add, show W * (r + 1) + m - W = W * r + m by rw [Nat.mul_add]; omega, Nat.mul_comm (r + 1) W]
      by_cases e : K (W * r + m) = 2
      · rw [if_pos e, if_neg (fun z => z.2 e)]
      · rw [if_neg e, if_pos ⟨by rw [Nat.mul_add]; omega, e⟩]
  · rw [ifb_neg (by decide), ifb_neg (by decide), bnd1_c, lt_c, ifb_pos (by decide), bnd1_c, lt_c, show nI r + 0 = nI r from nI_add _ 0, nI_1]
    unfold nxt
    rw [if_neg (by decide), if_pos rfl, hmod]
    by_cases hx : m + 1 < W
    · rw [ac_in hh hR hx hr, pk_mul, nI_add, Nat.mul_comm r W, show W * r + (m + 1) = W * r + m + 1 by omega]
      by_cases e : K (W * r + m + 1) = 2
      · rw [if_pos e, if_neg (fun z => z.2 e)]
      · rw [if_neg e, if_pos ⟨hx, e⟩]
    · rw [ac_out (Or.inr (Or.inr (Or.inr (by rw [le32 (by omega) (by omega)]; omega)))), if_neg (fun z => hx z.1), pk_mul, nI_add, Nat.mul_comm]
  · rw [ifb_pos (by decide), bnd1_c, lt_c, ifb_neg (by decide), ifb_neg (by decide), bnd1_c, lt_c, show nI m + 0 = nI m from nI_add _ 0, nI_1]
    unfold nxt
    rw [if_neg (by decide), if_neg (by decide), if_pos rfl]
    by_cases hx : r + 1 < H
    · rw [ac_in hh hR hm hx, pk_mul, nI_add, Nat.mul_comm r W, show W * (r + 1) + m = W * r + m + W by rw [Nat.mul_add]; omega]
      have := WrH hx hm
      rw [Nat.mul_add] at this
      by_cases e : K (W * r + m + W) = 2
      · rw [if_pos e, if_neg (fun z => z.2 e)]
      · rw [if_neg e, if_pos ⟨by omega, e⟩]
    · rw [ac_out (Or.inr (Or.inl (by rw [le32 (by omega) (by omega)]; omega))), if_neg, pk_mul, nI_add, Nat.mul_comm]
      rintro ⟨z, -⟩
      have : H = r + 1 := by omega
      subst this
      rw [Nat.mul_add] at z
      omega
  · rw [ifb_neg (by decide), ifb_neg (by decide), bnd1_c, lt_c, ifb_neg (by decide), ifb_pos (by decide), bnd1_c, lt_c, show nI r + 0 = nI r from nI_add _ 0]
    unfold nxt
    rw [if_neg (by decide), if_neg (by decide), if_neg (by decide), hmod]
    cases m with
    | zero => rw [ac_out (Or.inr (Or.inr (Or.inl (by decide)))), if_neg (by omega), pk_mul, nI_add, Nat.mul_comm]
    | succ m =>
      rw [pk_m1, ac_in hh hR (by omega) hr, pk_mul, nI_add, Nat.mul_comm r W, show W * r + (m + 1) - 1 = W * r + m by omega]
      by_cases e : K (W * r + m) = 2
      · rw [if_pos e, if_neg (fun z => z.2 e)]
      · rw [if_neg e, if_pos ⟨by omega, e⟩]
theorem after_k : ∀ s, s < 144 → ∀ t, t < 3 → ((nI s &&& (-4)) ||| (((nI s + nI t) + 3) &&& 3)) = nI (4 * (s / 4) + hd3 s t) := by decide +kernel
theorem after_c (hN : W * H ≤ 36) (h : LA W H K I) (hR : RG p fe R) {s t : Nat} (hs : s < 4 * (W * H)) (ht : t < 3) : f_Land_after S1 R I 60 (nI s) (nI t) = some (nI (aft W H K s t)) := by
  have h4 := @hd3_lt s t
  unfold f_Land_after
  rw [after_k s (by omega) t ht, lt_c, ifb_neg (zn (by omega)), show (144 : Int32) = nI 144 from rfl, ifb_neg (by rw [le32 (by omega) (by omega)]; omega), r_60_3 hR, bnd1_c, t_62, asrt_pos rfl, asrt_pos ((vi32 (by omega)).mpr (by omega)), cl32 (by omega), bnd1_c,
    h _ (by omega), show (4 * (s / 4) + hd3 s t) / 4 = s / 4 by omega, show (4 * (s / 4) + hd3 s t) % 4 = hd3 s t by omega]
  rfl
theorem sv27 (hR : RG p fe R) {r m : Nat} (hr : r < H) (hm : m < W) : ∀ (f d : Nat) (I : MI), LKc W H K I → d ≤ 4 → 4 < d + f → wpo (l_Land_survey_27 S1 R 60 (nI r) (nI m) f I (nI d))
    (fun I' => Fr [(62, none)] I I' ∧ (∀ j, j < 4 * (W * r + m) + d → I' 62 j = I 62 j) ∧ ∀ j, 4 * (W * r + m) + d ≤ j → j < 4 * (W * r + m) + 4 → I' 62 j = nI (4 * nxt W H K (j / 4) (j % 4) + j % 4)) := by
  intro f
  induction f with
  | zero => intro d I _ h1 h2; omega
  | succ f ih =>
    intro d I hK h1 h2
    have hN := hK.N36
    have hb := WrH hr hm
    rw [l_Land_survey_27, show (4 : Int32) = nI 4 from rfl]
    by_cases hd : d = 4
    · subst hd
      rw [ifb_pos (by rw [le32 (by omega) (by omega)]; omega)]
      exact ⟨I, rfl, Fr.rf, fun _ _ => rfl, fun j a b => by omega⟩
    · rw [ifb_neg (by rw [le32 (by omega) (by omega)]; omega), hK.2.2.2.1, pk_mul, nI_add, pk_mul, nI_add, lt_c, show (144 : Int32) = nI 144 from rfl, Nat.mul_comm r W, Nat.mul_comm _ 4, ifb_neg (by rw [le32 (by omega) (by omega)]; omega), r_60_3 hR, bnd1_c,
        across_c hK hR hr hm (by omega), bnd1_c, pk_mul, nI_add, lt_c, t_62, asrt_pos rfl, asrt_pos ((vi32 (by omega)).mpr (by omega)), cl32 (by omega), lt_c, bnd1_c, nI_1]
      refine wpo_mono (ih (d + 1) _ (hK.ag (Fr.ag (Fr.w (l := [(62, none)]) Fr.rf rfl) rfl)) (by omega) (by omega)) ?_
      rintro I' ⟨a, b, c⟩
      refine ⟨(Fr.w Fr.rf rfl).tr a, fun j hj => ?_, fun j h3 h4 => ?_⟩
      · rw [b j (by omega), wI_n (by omega)]
      · by_cases e : j = 4 * (W * r + m) + d
        · rw [b j (by omega), e, wI_s, show (4 * (W * r + m) + d) / 4 = W * r + m by omega, show (4 * (W * r + m) + d) % 4 = d by omega, Nat.mul_comm _ 4]
        · exact c j (by omega) h4
theorem sv17 {g : Nat} (hg : 1000 ≤ g) (hR : RG p fe R) {r : Nat} (hr : r < H) : ∀ (f m : Nat) (I : MI), LKc W H K I → m ≤ W → W < m + f → wpo (l_Land_survey_17 g S1 R 60 (nI r) f I (nI m))
    (fun I' => Fr [(62, none)] I I' ∧ (∀ j, j < 4 * (W * r + m) → I' 62 j = I 62 j) ∧ ∀ j, 4 * (W * r + m) ≤ j → j < 4 * (W * r + W) → I' 62 j = nI (4 * nxt W H K (j / 4) (j % 4) + j % 4)) := by
  intro f
  induction f with
  | zero => intro d I _ h1 h2; omega
  | succ f ih =>
    intro m I hK h1 h2
    have hW := hK.1
    rw [l_Land_survey_17, hK.2.2.2.1]
    by_cases hd : m = W
    · subst hd
      rw [ifb_pos (by rw [le32 (by omega) (by omega)]; omega)]
      exact ⟨I, rfl, Fr.rf, fun _ _ => rfl, fun j a b => by omega⟩
    · rw [ifb_neg (by rw [le32 (by omega) (by omega)]; omega), wpo_b1, nI_1, show (0 : Int32) = nI 0 from rfl]
      refine wpo_mono (sv27 hR hr (by omega) g 0 I hK (by omega) (by omega)) ?_
      rintro I1 ⟨a1, b1, c1⟩
      refine wpo_mono (ih (m + 1) I1 (hK.ag (a1.ag rfl)) (by omega) (by omega)) ?_
      rintro I' ⟨a, b, c⟩
      refine ⟨a1.tr a, fun j hj => ?_, fun j h3 h4 => ?_⟩
      · rw [b j (by omega), b1 j (by omega)]
      · by_cases e : j < 4 * (W * r + (m + 1))
        · rw [b j e, c1 j (by omega) (by omega)]
        · exact c j (by omega) h4
theorem sv7 {g : Nat} (hg : 1000 ≤ g) (hR : RG p fe R) : ∀ (f r : Nat) (I : MI), LKc W H K I → r ≤ H → H < r + f → wpo (l_Land_survey_7 g S1 R 60 f I (nI r))
    (fun I' => Fr [(62, none)] I I' ∧ (∀ j, j < 4 * (W * r) → I' 62 j = I 62 j) ∧ ∀ j, 4 * (W * r) ≤ j → j < 4 * (W * H) → I' 62 j = nI (4 * nxt W H K (j / 4) (j % 4) + j % 4)) := by
  intro f
  induction f with
  | zero => intro d I _ h1 h2; omega
  | succ f ih =>
    intro r I hK h1 h2
    have hH := hK.2.1
    have hW := hK.1
    rw [l_Land_survey_7, hK.2.2.2.2.1]
    by_cases hd : r = H
    · subst hd
      rw [ifb_pos (by rw [le32 (by omega) (by omega)]; omega)]
      exact ⟨I, rfl, Fr.rf, fun _ _ => rfl, fun j a b => by omega⟩
    · rw [ifb_neg (by rw [le32 (by omega) (by omega)]; omega), wpo_b1, nI_1, show (0 : Int32) = nI 0 from rfl]
      refine wpo_mono (sv17 hg hR (r := r) (by omega) g 0 I hK (by omega) (by omega)) ?_
      rintro I1 ⟨a1, b1, c1⟩
      refine wpo_mono (ih (r + 1) I1 (hK.ag (a1.ag rfl)) (by omega) (by omega)) ?_
      rintro I' ⟨a, b, c⟩
      rw [Nat.mul_add] at b c
      refine ⟨a1.tr a, fun j hj => ?_, fun j h3 h4 => ?_⟩
      · rw [b j (by omega), b1 j (by omega)]
      · by_cases e : j < 4 * (W * r + W * 1)
        · rw [b j e, c1 j (by omega) (by omega)]
        · exact c j (by omega) h4
theorem survey_c {g : Nat} (hg : 1000 ≤ g) (hR : RG p fe R) (h : LKc W H K I) : wpo (f_Land_survey g S1 R I 60) (fun I' => Fr [(62, none), (60, some 5)] I I' ∧ LA W H K I' ∧ I' 60 5 = 0) := by
  have hH := h.2.1
  unfold f_Land_survey
  rw [wpo_lt, wpo_b1, show (0 : Int32) = nI 0 from rfl]
  refine wpo_mono (sv7 hg hR g 0 (wI I 60 5 (nI 0)) (h.ag (Fr.ag (Fr.w (l := [(60, some 5)]) Fr.rf rfl) rfl)) (by omega) (by omega)) ?_
  rintro I' ⟨a, b, c⟩
  refine wpo_some.mpr ⟨(Fr.w Fr.rf rfl).tr (a.sub rfl), fun s hs => c s (by omega) hs, ?_⟩
  rw [a 60 5 rfl, wI_s]
end SU
