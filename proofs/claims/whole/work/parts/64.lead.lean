section GN
variable {W H m s0 n k vo hd fb N lim h0 : Nat} {K w : Nat → Nat} {M : Int} {f : Nat → Int} {sp : Int32} {o d : Nat → Nat} {I I' : MI} {L L' : ML} {R : MR} {p : Bool} {fe : Nat} {X : Nat → Nat → Nat → Int × Int × Nat}
/-- what a lead may change -/
def fGd : FT := [(67, some 8), (67, some 9), (67, some 10), (67, some 11), (68, some 2), (69, none), (70, none)]
theorem fb68 {fb : Nat} (h : (S1 fb).1 = 0) : fb ≠ 67 ∧ fb ≠ 68 ∧ fb ≠ 69 ∧ fb ≠ 70 := by
  refine ⟨?_, ?_, ?_, ?_⟩ <;> rintro rfl <;> exact absurd h (by decide)
theorem pB1 : ∀ j, j ≤ 8 → pB 1 j ≤ 900000000000000000 := by
  have : ∀ j, j < 9 → pB 1 j ≤ 900000000000000000 := by decide
  exact fun j hj => this j (by omega)
theorem pB3 : ∀ j, j ≤ 5 → pB 20000 j ≤ 900000000000000000 := by
  have : ∀ j, j < 6 → pB 20000 j ≤ 900000000000000000 := by decide
  exact fun j hj => this j (by omega)
theorem lead_c {g : Nat} (hg : 145 ≤ g) (hR : RG p fe R) (hW : 1 ≤ W ∧ W ≤ 6) (hN : W * H ≤ 36) (hL : LKc W H K I) (hA : LA W H K I) (hw : Wgt w h0 I) (hh : hd ≤ 10) (hF : FG fb f sp I) (hE : EB M (eF f sp K) (f 3) (f 4)) (hM : M ≤ 20000) (hpb : ∀ j, j ≤ n → pB M j ≤ 900000000000000000) (hn : n ≤ 8) (hfb : (S1 fb).1 = 0) (hvo : vo ≤ 9) (hs : s0 < 4 * (W * H)) :
    ∃ I' L' R' p', f_Guide_lead g S1 R I L 67 fb (nI n) (nI vo) (nI hd) (nI s0) = some (I', L', R') ∧ RG p' fb R' ∧ Fr fGd I I' ∧ FrL fG4 L L' ∧ I' 67 9 = nI n ∧ I' 67 10 = nI s0 ∧ (∀ u, u ≤ min vo n → En (V W H K w hd (eF f sp K) (f 3) (f 4)) p' L' n s0 u) ∧ (0 < n → isE (K (s0 / 4)) = false → I' 67 11 = nI (V W H K w hd (eF f sp K) (f 3) (f 4) n s0 (min vo n)).2.2) := by
  obtain ⟨n67, n68, n69, n70⟩ := fb68 hfb
  have hR1 : RG p fb (wR R 67 7 (some fb)) := by
    obtain ⟨g0, g3, g4, g5, g6, g7⟩ := hR
    refine ⟨fun q hq => ?_, by rw [wR_n (by omega)]; exact g3, by rw [wR_n (by omega)]; exact g4, by rw [wR_n (by omega)]; exact g5, by rw [wR_n (by omega)]; exact g6, wR_s⟩
    have := tabR67 q hq
    rw [wR_n (by omega)]
    exact g0 q hq
  have f0 : Fr [(67, some 8), (67, some 9), (67, some 10)] I (wI (wI (wI I 67 9 (nI n)) 67 8 (nI hd)) 67 10 (nI s0)) := Fr.w (Fr.w (Fr.w Fr.rf rfl) rfl) rfl
  obtain ⟨m, o, d, I2, e2, f2, hQ⟩ := spread_c (a := 68) (g := g) (M := 7) (lim := n) (by omega) (SB68 hR1) hR1 hW hN (by omega) (by omega) (by omega) (by omega) (hL.ag (f0.ag rfl)) (hA.ag (f0.ag rfl)) hs
  have f02 : Fr [(67, some 8), (67, some 9), (67, some 10), (68, some 2), (69, none), (70, none)] I I2 := (f0.sub rfl).tr (f2.sub rfl)
  have p8 : I2 67 8 = nI hd := by rw [f2 67 8 rfl, wI_n (by omega), wI_s]
  have p9 : I2 67 9 = nI n := by rw [f2 67 9 rfl, wI_n (by omega), wI_n (by omega), wI_s]
  have p10 : I2 67 10 = nI s0 := by rw [f2 67 10 rfl, wI_s]
  have hfbk : ∀ k, I2 fb k = I fb k := fun k => f02 fb k (by
    simp only [inF, List.any_cons, List.any_nil, Bool.or_false]
    have h1 : (67 == fb) = false := by simp; omega
    have h2 : (68 == fb) = false := by simp; omega
    have h3 : (69 == fb) = false := by simp; omega
    have h4 : (70 == fb) = false := by simp; omega
    rw [h1, h2, h3, h4]
    rfl)
  have hG : GH W H K w hd f sp M n fb I2 := ⟨hW, hN, hL.ag (f02.ag rfl), hA.ag (f02.ag rfl), ⟨h0, hw.ag (f02.ag rfl)⟩, p8, hh, ⟨fun i hi => (hfbk i).trans (hF.1 i hi), (hfbk 5).trans hF.2⟩, hE, hM, hpb, hn, hfb⟩
  obtain ⟨I', L', R', p', e, a1, a2, a3, a4, a5⟩ := lead41_c (X := V W H K w hd (eF f sp K) (f 3) (f 4)) hg rfl hvo hn g 0 p I2 L (wR R 67 7 (some fb)) (by omega) (by omega) hR1 hG hQ (fun j hj => by omega) (fun _ h => by omega)
  refine ⟨I', L', R', p', ?_, a1, (f02.sub rfl).tr (a2.sub rfl), a3, (a2 67 9 rfl).trans p9, (a2 67 10 rfl).trans p10, a4, a5⟩
  unfold f_Guide_lead
  rw [lt_c, lt_c, lt_c, lt_c, r_67_2 hR1, bnd1_c, r_67_0 hR1, bnd1_c, show (S1 68).1 = 9 from rfl, asrt_pos rfl, show (7 : Int32) = nI 7 from rfl, e2, bnd1_c, show l_Guide_lead_41 g S1 67 (nI n) (nI vo) g I2 L (wR R 67 7 (some fb)) 0 = some (I', L', R') from e]
  rfl
theorem payOf_c (hR : RG p fb R) (h9 : I 67 9 = nI n) (h10 : I 67 10 = nI s0) (hn : n ≤ 8) (hs : s0 < 144) {v : Nat} (hv : v ≤ 9) (h : En X p L n s0 (min v n)) : f_Guide_payOf S1 R I L 67 (nI v) = some (iL (X n s0 (min v n)).1) ∧ f_Guide_luckOf S1 R I L 67 (nI v) = some (iL (X n s0 (min v n)).2.1) := by
  have : min v n ≤ n := Nat.min_le_right _ _
  constructor
  · unfold f_Guide_payOf
    rw [show R 67 3 = some (la p) from hR.2.1, bnd1_c, h9, minI_c (by omega) (by omega), bnd1_c, h10, laidAt_c (la_t p).1 hs (by omega), bnd1_c, h.1]
  · unfold f_Guide_luckOf
    rw [show R 67 5 = some (lb p) from hR.2.2.2.1, bnd1_c, h9, minI_c (by omega) (by omega), bnd1_c, h10, laidAt_c (la_t p).2 hs (by omega), bnd1_c, h.2]
/-- calls beyond the steps are of no use -/
theorem V_min {e : Nat → Int} {fs fa : Int} : ∀ n s v, V W H K w hd e fs fa n s v = V W H K w hd e fs fa n s (min v n)
  | 0, _, _ => rfl
  | n + 1, s, v => by
    by_cases hv : v ≤ n + 1
    · rw [Nat.min_eq_left hv]
    rw [Nat.min_eq_right (by omega)]
    have h1 : ∀ r, V W H K w hd e fs fa n r (v - 1) = V W H K w hd e fs fa n r n := fun r => by
      rw [V_min n r (v - 1), Nat.min_eq_right (by omega)]
    unfold V base cand
    rw [Nat.min_eq_right (show n ≤ v by omega), Nat.min_eq_right (show n ≤ n + 1 by omega), show n + 1 - 1 = n by omega, if_neg (show ¬ v = 0 by omega), if_neg (show ¬ n + 1 = 0 by omega)]
    simp only [h1]
end GN
