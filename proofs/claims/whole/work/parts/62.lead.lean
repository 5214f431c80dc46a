section GL
variable {W H m s0 n k vo hd fb : Nat} {K w : Nat → Nat} {e : Nat → Int} {fs fa M : Int} {o d : Nat → Nat} {I I' : MI} {L L' : ML} {R : MR} {p : Bool} {fe : Nat}
def la (p : Bool) : Nat := if p then 71 else 72
def lb (p : Bool) : Nat := if p then 73 else 74
theorem la_t (p : Bool) : S1 (la p) = (21, 1296) ∧ S1 (lb p) = (21, 1296) := by cases p <;> exact ⟨rfl, rfl⟩
theorem hund_c {k : Nat} (hk : k < 9) : f_GWL_hundreds (nI k) = some (iL (100 ^ k)) := by
  have : ∀ k, k < 9 → hund k = iL (100 ^ k) := by decide +kernel
  unfold f_GWL_hundreds
  rw [ifb_neg (zn (by omega)), show (9 : Int32) = nI 9 from rfl, ifb_neg (by rw [le32 (by omega) (by omega)]; omega), asrt_pos (vir (by omega) (by omega)), cl32 (by omega), bnd1_c, this k hk]
theorem minI_c {a b : Nat} (ha : a < 1000) (hb : b < 1000) : f_JMath_min (nI a) (nI b) = some (nI (min a b)) := by
  unfold f_JMath_min
  by_cases h : b < a
  · rw [ifb_pos (by rw [lt32 (by omega) (by omega)]; exact h), bnd1_c, Nat.min_eq_right (by omega)]
  · rw [ifb_neg (by rw [lt32 (by omega) (by omega)]; exact h), bnd1_c, Nat.min_eq_left (by omega)]
theorem laidAt_c {b s v : Nat} (hb : S1 b = (21, 1296)) (hs : s < 144) (hv : v < 9) : f_Guide_laidAt S1 L b (nI s) (nI v) = some (L b (v * 144 + s)) := by
  unfold f_Guide_laidAt
  rw [show (144 : Int32) = nI 144 from rfl, pk_mul, nI_add, lt_c, ifb_neg (zn (by omega)), hb, asrt_pos rfl, show Int32.ofNat (21, 1296).2 = nI 1296 from rfl, ifb_neg (by rw [le32 (by omega) (by omega)]; omega), asrt_pos (vir (by omega) (by omega)), cl32 (by omega), bnd1_c]
theorem lay_c (hR : RG p fe R) {s v : Nat} (hs : s < 144) (hv : v < 9) (x y : Int64) : f_Guide_lay S1 R L 67 (nI s) (nI v) x y = some (wL (wL L (la p) (v * 144 + s) x) (lb p) (v * 144 + s) y) := by
  obtain ⟨t1, t2⟩ := la_t p
  unfold f_Guide_lay
  rw [show (144 : Int32) = nI 144 from rfl, pk_mul, nI_add, lt_c, ifb_neg (zn (by omega)), show (1296 : Int32) = nI 1296 from rfl, ifb_neg (by rw [le32 (by omega) (by omega)]; omega), show R 67 3 = some (la p) from hR.2.1, bnd1_c, t1, asrt_pos rfl, asrt_pos (vir (by omega) (by omega)), cl32 (by omega), lt_c, show R 67 5 = some (lb p) from hR.2.2.2.1, bnd1_c, t2, asrt_pos rfl, asrt_pos (vir (by omega) (by omega)), lt_c, bnd1_c]
theorem byIt_c {g : Nat} (hg : 4 ≤ g) (hR : RG p fe R) (hW : 1 ≤ W ∧ W ≤ 6) (hN : W * H ≤ 36) (hA : LA W H K I) (hw : Wgt w hd I) {b s v : Nat} (hb : S1 b = (21, 1296)) (hs : s < 4 * (W * H)) (hv : v < 9) {A : Nat → Int} (h : ∀ t, t < 3 → L b (v * 144 + aft W H K s t) = iL (A (aft W H K s t))) :
    f_Guide_byItself g S1 R I L 67 b (nI s) (nI v) = some (iL (bw W H K w A s)) := by
  obtain ⟨h10, h2, -⟩ := hw
  have stp : ∀ t f (z : Int), t < 3 → l_Guide_byItself_6 S1 R I L 67 b (nI s) (nI v) (f + 1) (iL z) (nI t) = l_Guide_byItself_6 S1 R I L 67 b (nI s) (nI v) f (iL (z + (w t : Nat) * A (aft W H K s t))) (nI (t + 1)) := by
    intro t f z ht
    have := @aft_lt W H K hW s t hs
    rw [l_Guide_byItself_6, ifb_neg (by rw [show (3 : Int32) = nI 3 from rfl, le32 (by omega) (by omega)]; omega), r_67_1 hR, bnd1_c, tenthsOf_c ht (h2 t ht).1, bnd1_c, r_67_0 hR, bnd1_c, t_60, asrt_pos rfl, after_c hN hA hR hs ht, bnd1_c, laidAt_c hb (by omega) hv, bnd1_c, h t ht, show Int32.toInt64 (nI (w t)) = lN (w t) from nI_l (by
      have : t = 0 ∨ t = 1 ∨ t = 2 := by omega
      rcases this with rfl | rfl | rfl <;> omega), iL_N, iL_mul, iL_add, lt_c, nI_1]
  obtain ⟨g, rfl⟩ : ∃ g', g = g' + 4 := ⟨g - 4, by omega⟩
  unfold f_Guide_byItself
  rw [show l_Guide_byItself_6 S1 R I L 67 b (nI s) (nI v) (g + 4) 0 0 = some (iL (bw W H K w A s)) by
    refine (stp 0 (g + 3) 0 (by omega)).trans ((stp 1 (g + 2) _ (by omega)).trans ((stp 2 (g + 1) _ (by omega)).trans ?_))
    rw [l_Guide_byItself_6, ifb_pos (by decide)]
    unfold bw
    congr 2
    omega, bnd1_c]
/-! a fee that is asked for -/
def FG (fb : Nat) (f : Nat → Int) (sp : Int32) (I : MI) : Prop := (∀ i, i < 5 → I fb i = iI (f i)) ∧ I fb 5 = sp
def eF (f : Nat → Int) (sp : Int32) (K : Nat → Nat) (c : Nat) : Int := f 0 + (if K c = 3 then f 1 else 0) + (if K c = 1 then f 2 else 0) + (if c < 36 ∧ nI c = sp then 1 else 0)
theorem iI_add (a b : Int) : iI a + iI b = iI (a + b) := (Int32.ofInt_add a b).symm
theorem iI_l {z : Int} (h : -2000000000 ≤ z ∧ z ≤ 2000000000) : (iI z).toInt64 = iL z := by
  apply Int64.toInt_inj.mp
  rw [Int32.toInt_toInt64, iL_t (by unfold B63; omega)]
  exact Int32.toInt_ofInt_of_le (by omega) (by omega)
theorem endsW_c {f : Nat → Int} {sp : Int32} (hF : FG fb f sp I) {c : Nat} (hc : c < 36) (hk : K c < 4) : f_Fee_endsWith S1 I fb (nI (K c)) (nI c) = some (iI (eF f sp K c)) := by
  obtain ⟨h1, h2⟩ := hF
  have i3 : ∀ X Y : Option Int32, ifb (nI (K c) = 3) X Y = if K c = 3 then X else Y := by
    intro X Y
    by_cases q : K c = 3
    · rw [ifb_pos (by rw [q]; rfl), if_pos q]
    · rw [ifb_neg (by rw [show (3 : Int32) = nI 3 from rfl, eq32 (by omega) (by omega)]; exact q), if_neg q]
  have i1 : ∀ X Y : Option Int32, ifb (nI (K c) = 1) X Y = if K c = 1 then X else Y := by
    intro X Y
    by_cases q : K c = 1
    · rw [ifb_pos (by rw [q]; rfl), if_pos q]
    · rw [ifb_neg (by rw [show (1 : Int32) = nI 1 from rfl, eq32 (by omega) (by omega)]; exact q), if_neg q]
  have i5 : ∀ X Y : Option Int32, ifb (nI c = I fb 5) X Y = if c < 36 ∧ nI c = sp then X else Y := by
    intro X Y
    rw [h2]
    by_cases q : c < 36 ∧ nI c = sp
    · rw [ifb_pos q.2, if_pos q]
    · rw [ifb_neg (fun z => q ⟨hc, z⟩), if_neg q]
  have z0 : (0 : Int32) = iI 0 := rfl
  have z1 : (1 : Int32) = iI 1 := rfl
  unfold f_Fee_endsWith eF
  rw [i3, i1, i5, h1 0 (by omega), h1 1 (by omega), h1 2 (by omega)]
  by_cases q3 : K c = 3
  · have q1 : ¬ K c = 1 := by omega
    rw [if_pos q3, if_pos q3, bnd1_c, if_neg q1, if_neg q1, bnd1_c]
    by_cases q5 : c < 36 ∧ nI c = sp
    · rw [if_pos q5, if_pos q5, bnd1_c, lt_c, z0, z1, iI_add, iI_add, iI_add]
    · rw [if_neg q5, if_neg q5, bnd1_c, lt_c, z0, iI_add, iI_add, iI_add]
  · rw [if_neg q3, if_neg q3, bnd1_c]
    by_cases q1 : K c = 1
    · rw [if_pos q1, if_pos q1, bnd1_c]
      by_cases q5 : c < 36 ∧ nI c = sp
      · rw [if_pos q5, if_pos q5, bnd1_c, lt_c, z0, z1, iI_add, iI_add, iI_add]
      · rw [if_neg q5, if_neg q5, bnd1_c, lt_c, z0, iI_add, iI_add, iI_add]
    · rw [if_neg q1, if_neg q1, bnd1_c]
      by_cases q5 : c < 36 ∧ nI c = sp
      · rw [if_pos q5, if_pos q5, bnd1_c, lt_c, z0, z1, iI_add, iI_add, iI_add]
      · rw [if_neg q5, if_neg q5, bnd1_c, lt_c, z0, iI_add, iI_add, iI_add]
/-- what a lead goes by, all through -/
def GH (W H : Nat) (K w : Nat → Nat) (hd : Nat) (f : Nat → Int) (sp : Int32) (M : Int) (n fb : Nat) (I : MI) : Prop :=
  (1 ≤ W ∧ W ≤ 6) ∧ W * H ≤ 36 ∧ LKc W H K I ∧ LA W H K I ∧ (∃ h0, Wgt w h0 I) ∧ I 67 8 = nI hd ∧ hd ≤ 10 ∧ FG fb f sp I ∧ EB M (eF f sp K) (f 3) (f 4) ∧ M ≤ 20000 ∧ (∀ j, j ≤ n → pB M j ≤ 900000000000000000) ∧ n ≤ 8 ∧ (S1 fb).1 = 0
theorem h16 : ∀ j, j ≤ 8 → (100 : Int) ^ j ≤ 10000000000000000 := by
  intro j hj
  have : ∀ j, j < 9 → (100 : Int) ^ j ≤ 10000000000000000 := by decide
  exact this j (by omega)
theorem lN_int (n : Nat) {z : Int} (h : (n : Int) = z) : lN n = iL z := by rw [iL_N, h]
theorem dec207_c {f : Nat → Int} {sp : Int32} (hR : RG p fb R) (hG : GH W H K w hd f sp M n fb I) {P : Nat → Nat → Int × Int × Nat} {s v : Nat} (hs : s < 4 * (W * H)) (hv0 : 0 < v) (hv : v < 9) (hk : k + 1 ≤ n) {t : Nat} (ht : t < 3) (F : Nat)
    (hP : L (la !p) ((v - 1) * 144 + aft W H K s t) = iL (P (aft W H K s t) (v - 1)).1 ∧ L (lb !p) ((v - 1) * 144 + aft W H K s t) = iL (P (aft W H K s t) (v - 1)).2.1) {a : Int × Int × Nat} (ha : inP M (k + 1) a) (hc : inP M (k + 1) (cand W H K w hd (f 3) (f 4) P k s v t)) (hI : I 67 11 = nI a.2.2) :
    ∃ I', l_Guide_decide_207 S1 R L 67 (nI s) (nI v) (iL ((10 - (hd : Int)) * bw W H K w (fun r => (P r (v - 1)).1) s)) (iL ((10 - (hd : Int)) * bw W H K w (fun r => (P r (v - 1)).2.1) s)) (iL ((f 3 + f 4) * 100 ^ (k + 1))) (F + 1) I (iL a.1) (iL a.2.1) (nI t) =
      l_Guide_decide_207 S1 R L 67 (nI s) (nI v) (iL ((10 - (hd : Int)) * bw W H K w (fun r => (P r (v - 1)).1) s)) (iL ((10 - (hd : Int)) * bw W H K w (fun r => (P r (v - 1)).2.1) s)) (iL ((f 3 + f 4) * 100 ^ (k + 1))) F I' (iL (pick a (cand W H K w hd (f 3) (f 4) P k s v t)).1) (iL (pick a (cand W H K w hd (f 3) (f 4) P k s v t)).2.1) (nI (t + 1)) ∧
      Fr [(67, some 11)] I I' ∧ I' 67 11 = nI (pick a (cand W H K w hd (f 3) (f 4) P k s v t)).2.2 := by
  obtain ⟨hW, hN, hL, hA, ⟨h0, hw⟩, h8, hh, hF, hE, hM, hpb, hn, hfb⟩ := hG
  have hx := @aft_lt W H K hW s t hs
  have b1 := hpb (k + 1) hk
  have b2 := h16 (k + 1) (by omega)
  have ha1 : B63 a.1 := ⟨by have := ha.1.1; omega, by have := ha.1.2; omega⟩
  have ha2 : B63 a.2.1 := ⟨by have := ha.2.1.1; omega, by have := ha.2.1.2; omega⟩
  have hc1 : B63 (cand W H K w hd (f 3) (f 4) P k s v t).1 := ⟨by have := hc.1.1; omega, by have := hc.1.2; omega⟩
  have hc2 : B63 (cand W H K w hd (f 3) (f 4) P k s v t).2.1 := ⟨by have := hc.2.1.1; omega, by have := hc.2.1.2; omega⟩
  have e8 : (10 * I 67 8).toInt64 = iL (10 * (hd : Int)) := by
    rw [h8, show (10 : Int32) = nI 10 from rfl, pk_mul, show (nI (10 * hd)).toInt64 = lN (10 * hd) from nI_l (by omega)]
    exact lN_int _ (by omega)
  rw [l_Guide_decide_207, ifb_neg (by rw [show (3 : Int32) = nI 3 from rfl, le32 (by omega) (by omega)]; omega), r_67_0 hR, bnd1_c, t_60, asrt_pos rfl, after_c hN hA hR hs ht, bnd1_c, show R 67 4 = some (la !p) by rw [hR.2.2.1]; cases p <;> rfl, bnd1_c, sub1 hv0, laidAt_c (la_t _).1 (by omega) (by omega), bnd1_c, hP.1, e8, iL_mul, iL_add, iL_add, lt_c, show R 67 6 = some (lb !p) by rw [hR.2.2.2.2.1]; cases p <;> rfl, bnd1_c, laidAt_c (la_t _).2 (by omega) (by omega), bnd1_c, hP.2, iL_mul, iL_add, lt_c]
  rw [show iL ((10 - (hd : Int)) * bw W H K w (fun r => (P r (v - 1)).1) s + 10 * (hd : Int) * (P (aft W H K s t) (v - 1)).1 + (f 3 + f 4) * 100 ^ (k + 1)) = iL (cand W H K w hd (f 3) (f 4) P k s v t).1 from rfl, show iL ((10 - (hd : Int)) * bw W H K w (fun r => (P r (v - 1)).2.1) s + 10 * (hd : Int) * (P (aft W H K s t) (v - 1)).2.1) = iL (cand W H K w hd (f 3) (f 4) P k s v t).2.1 from rfl]
  have ht2 : (cand W H K w hd (f 3) (f 4) P k s v t).2.2 = t := rfl
  generalize cand W H K w hd (f 3) (f 4) P k s v t = c at *
  by_cases q1 : a.1 < c.1
  · rw [show pick a c = c by unfold pick; rw [if_pos q1], ifb_pos (by rw [lg_cmp_gt, iL_lt ha1 hc1]; exact q1), lt_c, bnd3_c, nI_1]
    exact ⟨_, rfl, Fr.w Fr.rf rfl, by rw [wI_s, ht2]⟩
  rw [ifb_neg (by rw [lg_cmp_gt, iL_lt ha1 hc1]; exact q1)]
  by_cases q2 : a.1 = c.1
  · rw [ifb_pos (by rw [lg_cmp_eq, iL_eq hc1 ha1]; exact q2.symm)]
    by_cases q3 : a.2.1 < c.2.1
    · rw [show pick a c = c by unfold pick; rw [if_neg q1, if_pos q2, if_pos q3], ifb_neg (by rw [lg_cmp_le, iL_le hc2 ha2]; omega), lt_c, bnd3_c, nI_1]
      exact ⟨_, rfl, Fr.w Fr.rf rfl, by rw [wI_s, ht2]⟩
    · rw [show pick a c = a by unfold pick; rw [if_neg q1, if_pos q2, if_neg q3], ifb_pos (by rw [lg_cmp_le, iL_le hc2 ha2]; omega), bnd3_c, nI_1]
      exact ⟨I, rfl, Fr.rf, hI⟩
  · rw [show pick a c = a by unfold pick; rw [if_neg q1, if_neg q2], ifb_neg (by rw [lg_cmp_eq, iL_eq hc1 ha1]; exact fun z => q2 z.symm), bnd3_c, nI_1]
    exact ⟨I, rfl, Fr.rf, hI⟩
theorem fb67 {fb : Nat} (h : (S1 fb).1 = 0) : fb ≠ 67 := by
  rintro rfl
  exact absurd h (by decide)
theorem GH.ag {f : Nat → Int} {sp : Int32} {l : FT} (hG : GH W H K w hd f sp M n fb I) (hf : Fr l I I') (h1 : dsj l fLK = true) (h2 : dsj l fLA = true) (h3 : dsj l fWgt = true) (h4 : inF l 67 8 = false) (h5 : ∀ k, inF l fb k = false) : GH W H K w hd f sp M n fb I' := by
  obtain ⟨hW, hN, hL, hA, ⟨h0, hw⟩, h8, hh, hF, hE, hM, hpb, hn, hfb⟩ := hG
  exact ⟨hW, hN, hL.ag (hf.ag h1), hA.ag (hf.ag h2), ⟨h0, hw.ag (hf.ag h3)⟩, (hf 67 8 h4).trans h8, hh, ⟨fun i hi => (hf fb i (h5 i)).trans (hF.1 i hi), (hf fb 5 (h5 5)).trans hF.2⟩, hE, hM, hpb, hn, hfb⟩
theorem GH.ag11 {f : Nat → Int} {sp : Int32} (hG : GH W H K w hd f sp M n fb I) (hf : Fr [(67, some 11)] I I') : GH W H K w hd f sp M n fb I' :=
  hG.ag hf rfl rfl rfl rfl (fun k => by
    have := fb67 hG.2.2.2.2.2.2.2.2.2.2.2.2
    simp only [inF, List.any_cons, List.any_nil, Bool.or_false]
    have h : (67 == fb) = false := by simp; omega
    rw [h, Bool.false_and])
theorem decide_c {g : Nat} {f : Nat → Int} {sp : Int32} (hg : 4 ≤ g) (hR : RG p fb R) (hG : GH W H K w hd f sp M n fb I) {s v : Nat} (hs : s < 4 * (W * H)) (hk : k ≤ n) (hv : v ≤ k)
    (hP : ∀ j, k = j + 1 → isE (K (s / 4)) = false → ∀ t, t < 3 → ∀ u, u ≤ j → u ≤ v → L (la !p) (u * 144 + aft W H K s t) = iL (V W H K w hd (eF f sp K) (f 3) (f 4) j (aft W H K s t) u).1 ∧ L (lb !p) (u * 144 + aft W H K s t) = iL (V W H K w hd (eF f sp K) (f 3) (f 4) j (aft W H K s t) u).2.1) :
    ∃ I', f_Guide_decide g S1 R I L 67 (nI s) (nI v) (nI k) = some (I', wL (wL L (la p) (v * 144 + s) (iL (V W H K w hd (eF f sp K) (f 3) (f 4) k s v).1)) (lb p) (v * 144 + s) (iL (V W H K w hd (eF f sp K) (f 3) (f 4) k s v).2.1)) ∧ Fr [(67, some 11)] I I' ∧ (0 < k → isE (K (s / 4)) = false → I' 67 11 = nI (V W H K w hd (eF f sp K) (f 3) (f 4) k s v).2.2) := by
  obtain ⟨hW, hN, hL, hA, ⟨h0, hw⟩, h8, hh, hF, hE, hM, hpb, hn, hfb⟩ := id hG
  have hK := hL.2.2.1 (s / 4)
  have he := hE.2.1 (s / 4)
  have hR7 : R 67 7 = some fb := hR.2.2.2.2.2
  have hcell : s / 4 < W * H := by omega
  have endc : ∀ (z : Int), (bnd1 (f_Land_kindOf S1 R I 60 (nI (s / 4))) fun x8 => bnd1 (R 67 7) fun b10 => asrt ((S1 b10).1 = 0) <| bnd1 (f_Fee_endsWith S1 I b10 x8 (nI (s / 4))) fun x12 => bnd1 (ifb (x8 = 3) (some (iL z)) (some 0)) fun y15 => bnd1 (f_Guide_lay S1 R L 67 (nI s) (nI v) ((Int32.toInt64 x12) * iL z) y15) fun L18 => some (I, L18)) =
      some (I, wL (wL L (la p) (v * 144 + s) (iL (eF f sp K (s / 4) * z))) (lb p) (v * 144 + s) (iL (if K (s / 4) = 3 then z else 0))) := by
    intro z
    rw [kindOf_in hL hR hcell, bnd1_c, hR7, bnd1_c, asrt_pos hfb, endsW_c hF (by omega) hK, bnd1_c, iI_l (by omega), iL_mul]
    by_cases q : K (s / 4) = 3
    · rw [ifb_pos (by rw [q]; rfl), bnd1_c, lay_c hR (by omega) (by omega), bnd1_c, if_pos q]
    · rw [ifb_neg (by rw [show (3 : Int32) = nI 3 from rfl, eq32 (by omega) (by omega)]; exact q), bnd1_c, lay_c hR (by omega) (by omega), bnd1_c, if_neg q]
      rfl
  unfold f_Guide_decide
  rw [cellOf_c (by omega), bnd1_c, hund_c (by omega), bnd1_c]
  rcases k with _ | k
  · rw [ifb_pos (show nI 0 = 0 from rfl), r_67_0 hR, bnd1_c, t_60, asrt_pos rfl, endc]
    refine ⟨I, ?_, Fr.rf, fun h => absurd h (Nat.lt_irrefl 0)⟩
    unfold V
    simp only [Int.pow_zero, Int.mul_one]
  rw [ifb_neg (by rw [nI0, eq32 (by omega) (by omega)]; omega), r_67_0 hR, bnd1_c, t_60, asrt_pos rfl, endsAt_in hL hR hcell, bnd1_c]
  cases c2 : isE (K (s / 4))
  · rw [show eb (K (s / 4)) = 0 by unfold eb; rw [c2]; rfl, ifb_pos rfl]
    have hV : V W H K w hd (eF f sp K) (f 3) (f 4) (k + 1) s v = if v = 0 then base W H K w (f 3) (V W H K w hd (eF f sp K) (f 3) (f 4) k) k s v else
      pick (pick (pick (base W H K w (f 3) (V W H K w hd (eF f sp K) (f 3) (f 4) k) k s v) (cand W H K w hd (f 3) (f 4) (V W H K w hd (eF f sp K) (f 3) (f 4) k) k s v 0)) (cand W H K w hd (f 3) (f 4) (V W H K w hd (eF f sp K) (f 3) (f 4) k) k s v 1)) (cand W H K w hd (f 3) (f 4) (V W H K w hd (eF f sp K) (f 3) (f 4) k) k s v 2) := by
      rw [V, c2, if_neg (by simp)]
    rw [hV]
    have hPn := hP k rfl c2
    have hin := V_in (W := W) (H := H) (K := K) (w := w) hE hw.1 hh k
    have hfe : (-20000 ≤ f 3 ∧ f 3 ≤ 20000) ∧ -20000 ≤ f 4 ∧ f 4 ≤ 20000 := by
      have := hE.2.2
      omega
    have e10 : (10 - I 67 8).toInt64 = iL (10 - (hd : Int)) := by
      rw [h8, show (10 : Int32) = nI 10 from rfl, pk_sub hh, show (nI (10 - hd)).toInt64 = lN (10 - hd) from nI_l (by omega)]
      exact lN_int _ (by omega)
    generalize V W H K w hd (eF f sp K) (f 3) (f 4) k = P at *
    have hb := base_in (W := W) (H := H) (K := K) (k := k) hE hw.1 hin s v
    have hc := fun t (ht : t < 3) => cand_in (W := W) (H := H) (K := K) (k := k) hE hw.1 hh hin s v ht
    have r4 : R 67 4 = some (la !p) := by rw [hR.2.2.1]; cases p <;> rfl
    have r6 : R 67 6 = some (lb !p) := by rw [hR.2.2.2.2.1]; cases p <;> rfl
    have ten : (10 : Int64) = iL 10 := rfl
    have mk : min v k ≤ k ∧ min v k ≤ v := ⟨Nat.min_le_right _ _, Nat.min_le_left _ _⟩
    have fJ : Fr [(67, some 11)] I (wI I 67 11 3) := Fr.w Fr.rf rfl
    have hG1 := hG.ag11 fJ
    rw [sub1 (by omega), show k + 1 - 1 = k from rfl, minI_c (by omega) (by omega), bnd1_c, r4, bnd1_c, byIt_c (A := fun r => (P r (min v k)).1) hg hR hW hN hA hw (la_t _).1 hs (by omega) (fun t ht => (hPn t ht _ mk.1 mk.2).1), bnd1_c, hR7, bnd1_c, asrt_pos hfb, hF.1 3 (by omega), iI_l (by omega), ten, iL_mul, iL_mul, iL_add, lt_c, r6, bnd1_c, byIt_c (A := fun r => (P r (min v k)).2.1) hg hR hW hN hA hw (la_t _).2 hs (by omega) (fun t ht => (hPn t ht _ mk.1 mk.2).2), bnd1_c, iL_mul, lt_c, lt_c]
    rw [show iL (10 * bw W H K w (fun r => (P r (min v k)).1) s + f 3 * 100 ^ (k + 1)) = iL (base W H K w (f 3) P k s v).1 from rfl, show iL (10 * bw W H K w (fun r => (P r (min v k)).2.1) s) = iL (base W H K w (f 3) P k s v).2.1 from rfl]
    by_cases hv0 : v = 0
    · rw [ifb_pos (by rw [hv0]; decide), bnd3_c, lay_c hR (by omega) (by omega), bnd1_c, if_pos hv0]
      exact ⟨_, rfl, fJ, fun _ _ => wI_s⟩
    obtain ⟨hW', hN', hL', hA', ⟨h0', hw'⟩, h8', hh', hF', -⟩ := id hG1
    have e10' : (10 - wI I 67 11 3 67 8).toInt64 = iL (10 - (hd : Int)) := by rw [wI_n (by omega)]; exact e10
    have vm : v - 1 ≤ k ∧ v - 1 ≤ v := ⟨by omega, by omega⟩
    have hf3 : wI I 67 11 3 fb 3 = iI (f 3) := hF'.1 3 (by omega)
    have hf4 : wI I 67 11 3 fb 4 = iI (f 4) := hF'.1 4 (by omega)
    rw [if_neg hv0, ifb_neg (by rw [nI0, le32 (by omega) (by omega)]; omega), sub1 (by omega), byIt_c (A := fun r => (P r (v - 1)).1) hg hR hW hN hA' hw' (la_t _).1 hs (by omega) (fun t ht => (hPn t ht _ vm.1 vm.2).1), bnd1_c, e10', iL_mul, lt_c, byIt_c (A := fun r => (P r (v - 1)).2.1) hg hR hW hN hA' hw' (la_t _).2 hs (by omega) (fun t ht => (hPn t ht _ vm.1 vm.2).2), bnd1_c, iL_mul, lt_c, hf3, hf4, iI_add, iI_l (by omega), iL_mul, lt_c]
    obtain ⟨F, rfl⟩ : ∃ F, g = F + 4 := ⟨g - 4, by omega⟩
    obtain ⟨I1, e1, f1, d1⟩ := dec207_c (L := L) (k := k) (t := 0) (v := v) hR hG1 hs (by omega) (by omega) hk (by omega) (F + 3) (hPn 0 (by omega) _ vm.1 vm.2) hb (hc 0 (by omega)) wI_s
    have p1 := pick_in hb (hc 0 (by omega))
    obtain ⟨I2, e2, f2, d2⟩ := dec207_c (L := L) (k := k) (t := 1) (v := v) hR (hG1.ag11 f1) hs (by omega) (by omega) hk (by omega) (F + 2) (hPn 1 (by omega) _ vm.1 vm.2) p1 (hc 1 (by omega)) d1
    have p2 := pick_in p1 (hc 1 (by omega))
    obtain ⟨I3, e3, f3, d3⟩ := dec207_c (L := L) (k := k) (t := 2) (v := v) hR ((hG1.ag11 f1).ag11 f2) hs (by omega) (by omega) hk (by omega) (F + 1) (hPn 2 (by omega) _ vm.1 vm.2) p2 (hc 2 (by omega)) d2
    refine ⟨I3, ?_, ((fJ.tr f1).tr f2).tr f3, fun _ _ => d3⟩
    rw [show (0 : Int32) = nI 0 from rfl, e1, e2, e3, l_Guide_decide_207, ifb_pos (by decide), bnd3_c, bnd3_c, lay_c hR (by omega) (by omega), bnd1_c]
  · rw [show eb (K (s / 4)) = 1 by unfold eb; rw [c2]; rfl, ifb_neg (by decide), endc]
    refine ⟨I, ?_, Fr.rf, fun _ h => by cases h⟩
    rw [V, if_pos c2]
end GL
