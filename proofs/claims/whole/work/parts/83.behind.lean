section BH
variable {W H m s0 n k hd h0 N b c h s B : Nat} {K w : Nat → Nat} {e : Nat → Int} {I I' : MI} {L L' L0 : ML} {R : MR} {p : Bool} {fe : Nat} {f f' A M M' : Nat → Int} {x : Int}
/-! sums over stances -/
def smI (f : Nat → Int) : Nat → Int
  | 0 => 0
  | n + 1 => smI f n + f n
theorem smI_eq : ∀ n, (∀ i, i < n → f i = f' i) → smI f n = smI f' n := by
  intro n
  induction n with
  | zero => intro _; rfl
  | succ n ih => intro h; rw [smI, smI, ih (fun i hi => h i (by omega)), h n (by omega)]
theorem smI_add : ∀ n, smI (fun i => f i + f' i) n = smI f n + smI f' n := by
  intro n
  induction n with
  | zero => rfl
  | succ n ih => rw [smI, smI, smI, ih]; omega
theorem smI_z : ∀ n, (∀ i, i < n → f i = 0) → smI f n = 0 := by
  intro n
  induction n with
  | zero => intro _; rfl
  | succ n ih => intro h; rw [smI, ih (fun i hi => h i (by omega)), h n (by omega)]; rfl
theorem smI_mul (q : Int) : ∀ n, smI (fun i => f i * q) n = smI f n * q := by
  intro n
  induction n with
  | zero => rw [smI, smI, Int.zero_mul]
  | succ n ih => rw [smI, smI, ih, Int.add_mul]
theorem smI_one {c : Nat} : ∀ n, c < n → smI (fun o => if o = c then f o else 0) n = f c := by
  intro n
  induction n with
  | zero => intro h; omega
  | succ n ih =>
    intro h
    rw [smI]
    by_cases e : n = c
    · subst e
      rw [if_pos rfl, smI_z n (fun i hi => if_neg (by omega))]
      omega
    · rw [if_neg e, ih (by omega)]
      omega
theorem smI_up {i : Nat} {z : Int} (hi : i < n) (hz : z = M i + x) : smI (fun r => (if r = i then z else M r) * A r) n = smI (fun r => M r * A r) n + x * A i := by
  have e1 : smI (fun r => (if r = i then z else M r) * A r) n = smI (fun r => M r * A r + (if r = i then x * A r else 0)) n := smI_eq n (fun r _ => by
    by_cases e : r = i
    · rw [if_pos e, if_pos e, hz, e, Int.add_mul]
    · rw [if_neg e, if_neg e]; omega)
  rw [e1, smI_add, smI_one n hi]
theorem smI_4 : ∀ n, smI f (4 * n) = smI (fun o => f (4 * o) + f (4 * o + 1) + f (4 * o + 2) + f (4 * o + 3)) n := by
  intro n
  induction n with
  | zero => rfl
  | succ n ih =>
    rw [show 4 * (n + 1) = 4 * n + 1 + 1 + 1 + 1 by omega, smI, smI, smI, smI, smI, ih]
    omega
/-- a step on by the weights -/
def TT (W H : Nat) (K w : Nat → Nat) (A : Nat → Int) (s : Nat) : Int := if isE (K (s / 4)) = true then 100 * A s else 10 * bw W H K w A s
def go1 (K : Nat → Nat) (s : Nat) : Int := if isE (K (s / 4)) = true then 0 else 1
theorem V0_s {e : Nat → Int} {fs : Int} : (V W H K w hd e fs 0 (k + 1) s 0).1 = TT W H K w (fun r => (V W H K w hd e fs 0 k r 0).1) s + fs * 100 ^ (k + 1) * go1 K s := by
  unfold TT go1
  rw [V]
  by_cases hE : isE (K (s / 4)) = true
  · rw [if_pos hE, if_pos hE, if_pos hE, Int.mul_zero, Int.add_zero]
    have : (V W H K w hd e fs 0 k s 0).1 = e (s / 4) * 100 ^ k := by
      cases k with
      | zero => rw [V, Int.pow_zero, Int.mul_one]
      | succ k => rw [V, if_pos hE]
    show e (s / 4) * 100 ^ (k + 1) = 100 * (V W H K w hd e fs 0 k s 0).1
    rw [this, Int.pow_succ, Int.mul_comm 100 (e (s / 4) * 100 ^ k), Int.mul_assoc]
  · rw [if_neg hE, if_neg hE, if_neg hE, if_pos rfl, Int.mul_one]
    unfold base
    rw [Nat.zero_min]
/-! the model's mass -/
theorem upd_L {b i : Nat} {z : Int} (h : ∀ r, r < N → L b r = iL (M r)) : ∀ r, r < N → wL L b i (iL z) b r = iL ((fun r => if r = i then z else M r) r) := by
  intro r hr
  by_cases e : r = i
  · subst e
    show wL L b r (iL z) b r = iL (if r = r then z else M r)
    rw [if_pos rfl, wL_s]
  · show wL L b i (iL z) b r = iL (if r = i then z else M r)
    rw [if_neg e, wL_n (by omega)]; exact h r hr
theorem go82 {g : Nat} (hg : 4 ≤ g) (hR : RG p fe R) (hH : MH W H K w hd I) (hs : s < 4 * (W * H)) (hM : ∀ r, r < 4 * (W * H) → L 106 r = iL (M' r)) : ∃ (L' : ML) (M'' : Nat → Int), l_Mod_goesOn_82 S1 R I 90 (nI (s / 4)) (nI (s % 4)) (iL x) g L 0 = some L' ∧ FrL [(106, none)] L L' ∧ (∀ r, r < 4 * (W * H) → L' 106 r = iL (M'' r)) ∧ ∀ A, smI (fun r => M'' r * A r) (4 * (W * H)) = smI (fun r => M' r * A r) (4 * (W * H)) + x * (10 * bw W H K w A s) := by
  have hN := hH.1.N36
  have hW := hH.1.1
  have ha := fun t => @aft_lt W H K hW s t hs
  have stp : ∀ t F (L : ML) (M : Nat → Int), t < 3 → (∀ r, r < 4 * (W * H) → L 106 r = iL (M r)) → l_Mod_goesOn_82 S1 R I 90 (nI (s / 4)) (nI (s % 4)) (iL x) (F + 1) L (nI t) = l_Mod_goesOn_82 S1 R I 90 (nI (s / 4)) (nI (s % 4)) (iL x) F (wL L 106 (aft W H K s t) (iL (M (aft W H K s t) + ((10 * w t : Nat) : Int) * x))) (nI (t + 1)) := by
    intro t F L M ht hM
    have h4 := @hd3_lt s t
    have hat := ha t
    have hp := partOf_c hR hH ht (show 3 < 4 by omega)
    have hpl := @ptn_lt hd w hH.2.1.1 hH.2.2.1 t 3 ht
    unfold ptn at hp hpl
    rw [if_pos rfl] at hp hpl
    rw [l_Mod_goesOn_82, ifb_neg (by rw [show (3 : Int32) = nI 3 from rfl, le32 (by omega) (by omega)]; omega), turned_c (by omega) ht, bnd1_c, show (s % 4 + t + 3) % 4 = hd3 s t from rfl, r_90_31 hR, bnd1_c, cellBy_c hH.1 hR (by omega) h4, bnd1_c, show (4 : Int32) = nI 4 from rfl, pk_mul, nI_add, show 4 * nxt W H K (s / 4) (hd3 s t) + hd3 s t = aft W H K s t from rfl, lt_c, t_106, asrt_pos rfl, asrt_pos (vir (by omega) (by omega)), show f_Mod_partOf S1 R I 90 (nI t) 3 = some (nI (10 * w t)) from hp, bnd1_c, cl32 (by omega), hM _ hat, show Int32.toInt64 (nI (10 * w t)) = lN (10 * w t) from nI_l (by omega), iL_N, iL_mul, iL_add, lt_c, asrt_pos (vir (by omega) (by omega)), lt_c, nI_1]
  obtain ⟨g, rfl⟩ : ∃ g', g = g' + 4 := ⟨g - 4, by omega⟩
  obtain ⟨M1, hM1⟩ : ∃ M1 : Nat → Int, M1 = fun r => if r = aft W H K s 0 then M' (aft W H K s 0) + ((10 * w 0 : Nat) : Int) * x else M' r := ⟨_, rfl⟩
  obtain ⟨M2, hM2⟩ : ∃ M2 : Nat → Int, M2 = fun r => if r = aft W H K s 1 then M1 (aft W H K s 1) + ((10 * w 1 : Nat) : Int) * x else M1 r := ⟨_, rfl⟩
  obtain ⟨M3, hM3⟩ : ∃ M3 : Nat → Int, M3 = fun r => if r = aft W H K s 2 then M2 (aft W H K s 2) + ((10 * w 2 : Nat) : Int) * x else M2 r := ⟨_, rfl⟩
  have m1 := upd_L (i := aft W H K s 0) (z := M' (aft W H K s 0) + ((10 * w 0 : Nat) : Int) * x) hM
  rw [← hM1] at m1
  have m2 := upd_L (i := aft W H K s 1) (z := M1 (aft W H K s 1) + ((10 * w 1 : Nat) : Int) * x) m1
  rw [← hM2] at m2
  have m3 := upd_L (i := aft W H K s 2) (z := M2 (aft W H K s 2) + ((10 * w 2 : Nat) : Int) * x) m2
  rw [← hM3] at m3
  refine ⟨_, M3, (stp 0 (g + 3) L M' (by omega) hM).trans ((stp 1 (g + 2) _ _ (by omega) m1).trans ((stp 2 (g + 1) _ _ (by omega) m2).trans ?_)), FrL.w (FrL.w (FrL.w FrL.rf rfl) rfl) rfl, m3, fun A => ?_⟩
  · rw [l_Mod_goesOn_82, ifb_pos (by decide)]
  · have u3 := smI_up (M := M2) (A := A) (x := ((10 * w 2 : Nat) : Int) * x) (ha 2) rfl
    have u2 := smI_up (M := M1) (A := A) (x := ((10 * w 1 : Nat) : Int) * x) (ha 1) rfl
    have u1 := smI_up (M := M') (A := A) (x := ((10 * w 0 : Nat) : Int) * x) (ha 0) rfl
    have e3 : smI (fun r => M3 r * A r) (4 * (W * H)) = smI (fun r => M2 r * A r) (4 * (W * H)) + ((10 * w 2 : Nat) : Int) * x * A (aft W H K s 2) := by rw [hM3]; exact u3
    have e2 : smI (fun r => M2 r * A r) (4 * (W * H)) = smI (fun r => M1 r * A r) (4 * (W * H)) + ((10 * w 1 : Nat) : Int) * x * A (aft W H K s 1) := by rw [hM2]; exact u2
    have e1 : smI (fun r => M1 r * A r) (4 * (W * H)) = smI (fun r => M' r * A r) (4 * (W * H)) + ((10 * w 0 : Nat) : Int) * x * A (aft W H K s 0) := by rw [hM1]; exact u1
    rw [e3, e2, e1]
    unfold bw
    have q : ∀ (a : Nat) (z : Int), ((10 * a : Nat) : Int) * x * z = x * (10 * ((a : Int) * z)) := by
      intro a z
      rw [show ((10 * a : Nat) : Int) = 10 * (a : Int) by omega, Int.mul_comm (10 * (a : Int)) x, Int.mul_assoc, Int.mul_assoc]
    rw [q, q, q, Int.mul_add, Int.mul_add, Int.mul_add, Int.mul_add]
    omega
theorem go34 {g : Nat} (hg : 1000 ≤ g) (hR : RG p fe R) (hH : MH W H K w hd I) (hc : c < W * H) : ∀ F h (L : ML) (M' : Nat → Int), h ≤ 4 → 4 < h + F → (∀ r, r < 4 * (W * H) → L 105 r = iL (M r)) → (∀ r, r < 4 * (W * H) → L 106 r = iL (M' r)) → (∀ A, smI (fun r => M' r * A r) (4 * (W * H)) = smI (fun s => M s * TT W H K w A s) (4 * c + h)) →
    ∃ (L' : ML) (M'' : Nat → Int), l_Mod_goesOn_34 g S1 R I 90 (nI c) F L (nI h) = some L' ∧ FrL [(106, none)] L L' ∧ (∀ r, r < 4 * (W * H) → L' 106 r = iL (M'' r)) ∧ ∀ A, smI (fun r => M'' r * A r) (4 * (W * H)) = smI (fun s => M s * TT W H K w A s) (4 * c + 4) := by
  have hN := hH.1.N36
  intro F
  induction F with
  | zero => intro h L M' h1 h2; omega
  | succ F ih =>
    intro h L M' h1 h2 h3 h4 h5
    rw [l_Mod_goesOn_34]
    by_cases hh : h = 4
    · subst hh
      exact ⟨L, M', by rw [ifb_pos (by decide)], FrL.rf, h4, h5⟩
    have hs : 4 * c + h < 4 * (W * H) := by omega
    rw [ifb_neg (by rw [show (4 : Int32) = nI 4 from rfl, le32 (by omega) (by omega)]; omega), r_90_30 hR, bnd1_c, show (4 : Int32) = nI 4 from rfl, pk_mul, nI_add, lt_c, t_105, asrt_pos rfl, asrt_pos (vir (by omega) (by omega)), cl32 (by omega), h3 _ hs, lt_c, isEnd_in hH.1 hR hc, bnd1_c]
    have step : ∃ (L1 : ML) (M1 : Nat → Int), (∀ X : ML → Option ML, bnd1 (ifb (eb (K c) = 0) (bnd1 (l_Mod_goesOn_82 S1 R I 90 (nI c) (nI h) (iL (M (4 * c + h))) g L 0) fun L37 => some L37) (bnd1 (R 90 31) fun b39 => lt (nI (4 * c + h)) fun (x40 : Int32) => asrt ((S1 b39).1 = 21) <| asrt (vp_in x40 (S1 b39).2) <| lt ((L b39 (Int32.toNatClampNeg x40)) + (100 * iL (M (4 * c + h)))) fun (x43 : Int64) => asrt (vp_in x40 (S1 b39).2) <| lt (wL L b39 (Int32.toNatClampNeg x40) x43) fun (L45 : ML) => some L45)) X = X L1) ∧ FrL [(106, none)] L L1 ∧ (∀ r, r < 4 * (W * H) → L1 106 r = iL (M1 r)) ∧ ∀ A, smI (fun r => M1 r * A r) (4 * (W * H)) = smI (fun r => M' r * A r) (4 * (W * H)) + M (4 * c + h) * TT W H K w A (4 * c + h) := by
      unfold eb TT
      rw [show (4 * c + h) / 4 = c by omega]
      cases hE : isE (K c)
      · obtain ⟨L1, M1, e, f1, m1, q1⟩ := go82 (g := g) (x := M (4 * c + h)) (by omega) hR hH hs h4
        rw [show (4 * c + h) / 4 = c by omega, show (4 * c + h) % 4 = h by omega] at e
        exact ⟨L1, M1, fun X => by rw [if_neg (by decide), ifb_pos rfl, e, bnd1_c, bnd1_c], f1, m1, fun A => by rw [if_neg (by decide)]; exact q1 A⟩
      · refine ⟨_, _, fun X => ?_, FrL.w FrL.rf rfl, upd_L (i := 4 * c + h) (z := M' (4 * c + h) + 100 * M (4 * c + h)) h4, fun A => ?_⟩
        · rw [if_pos rfl, ifb_neg (by decide), r_90_31 hR, bnd1_c, lt_c, t_106, asrt_pos rfl, asrt_pos (vir (by omega) (by omega)), cl32 (by omega), h4 _ hs, show (100 : Int64) = iL 100 from rfl, iL_mul, iL_add, lt_c, asrt_pos (vir (by omega) (by omega)), lt_c, bnd1_c]
        · rw [if_pos rfl, smI_up (x := 100 * M (4 * c + h)) hs rfl, Int.mul_comm 100 (M (4 * c + h)), Int.mul_assoc]
    obtain ⟨L1, M1, e1, f1, m1, q1⟩ := step
    obtain ⟨L', M'', e, f2, m2, q2⟩ := ih (h + 1) L1 M1 (by omega) (by omega) (fun r hr => (f1 105 r rfl).trans (h3 r hr)) m1 (fun A => by rw [q1 A, h5 A, show 4 * c + (h + 1) = 4 * c + h + 1 by omega, smI])
    refine ⟨L', M'', ?_, f1.tr f2, m2, q2⟩
    rw [e1, nI_1]
    exact e
theorem go24 {g : Nat} (hg : 1000 ≤ g) (hR : RG p fe R) (hH : MH W H K w hd I) : ∀ F c (L : ML) (M' : Nat → Int), c ≤ W * H → W * H < c + F → (∀ r, r < 4 * (W * H) → L 105 r = iL (M r)) → (∀ r, r < 4 * (W * H) → L 106 r = iL (M' r)) → (∀ A, smI (fun r => M' r * A r) (4 * (W * H)) = smI (fun s => M s * TT W H K w A s) (4 * c)) →
    ∃ (L' : ML) (M'' : Nat → Int), l_Mod_goesOn_24 g S1 R I 90 F L (nI c) = some L' ∧ FrL [(106, none)] L L' ∧ (∀ r, r < 4 * (W * H) → L' 106 r = iL (M'' r)) ∧ ∀ A, smI (fun r => M'' r * A r) (4 * (W * H)) = smI (fun s => M s * TT W H K w A s) (4 * (W * H)) := by
  have hN := hH.1.N36
  intro F
  induction F with
  | zero => intro c L M' h1 h2; omega
  | succ F ih =>
    intro c L M' h1 h2 h3 h4 h5
    rw [l_Mod_goesOn_24, cells_c hH.1, bnd1_c]
    by_cases hc : c = W * H
    · subst hc
      exact ⟨L, M', by rw [ifb_pos (by rw [le32 (by omega) (by omega)]; omega)], FrL.rf, h4, h5⟩
    obtain ⟨L1, M1, e1, f1, m1, q1⟩ := go34 (c := c) hg hR hH (by omega) g 0 L M' (by omega) (by omega) h3 h4 h5
    obtain ⟨L', M'', e, f2, m2, q2⟩ := ih (c + 1) L1 M1 (by omega) (by omega) (fun r hr => (f1 105 r rfl).trans (h3 r hr)) m1 (fun A => by rw [q1 A, show 4 * (c + 1) = 4 * c + 4 by omega])
    refine ⟨L', M'', ?_, f1.tr f2, m2, q2⟩
    rw [ifb_neg (by rw [le32 (by omega) (by omega)]; omega), show l_Mod_goesOn_34 g S1 R I 90 (nI c) g L 0 = some L1 from e1, bnd1_c, nI_1]
    exact e
theorem go2 (hR : RG p fe R) : ∀ F k (L : ML), k ≤ 144 → 144 < k + F → (∀ j, j < k → L 106 j = 0) → ∃ L', l_Mod_goesOn_2 S1 R 90 F L (nI k) = some L' ∧ FrL [(106, none)] L L' ∧ ∀ j, j < 144 → L' 106 j = 0 := by
  intro F
  induction F with
  | zero => intro k L h1 h2; omega
  | succ F ih =>
    intro k L h1 h2 h3
    rw [l_Mod_goesOn_2]
    by_cases hk : k = 144
    · subst hk
      exact ⟨L, by rw [ifb_pos (by decide)], FrL.rf, h3⟩
    obtain ⟨L', e, f1, q1⟩ := ih (k + 1) (wL L 106 k 0) (by omega) (by omega) (fun j hj => by
      by_cases ej : j = k
      · subst ej; exact wL_s
      · rw [wL_n (by omega)]; exact h3 j (by omega))
    refine ⟨L', ?_, (FrL.w FrL.rf rfl).tr f1, q1⟩
    rw [ifb_neg (by rw [show (144 : Int32) = nI 144 from rfl, le32 (by omega) (by omega)]; omega), r_90_31 hR, bnd1_c, t_106, asrt_pos rfl, asrt_pos (vir (by omega) (by omega)), cl32 (by omega), lt_c, nI_1]
    exact e
theorem go146 (hR : RG p fe R) : ∀ F k (L : ML), k ≤ 144 → 144 < k + F → (∀ j, j < k → L 105 j = L 106 j) → ∃ L', l_Mod_goesOn_146 S1 R 90 F L (nI k) = some L' ∧ FrL [(105, none)] L L' ∧ ∀ j, j < 144 → L' 105 j = L 106 j := by
  intro F
  induction F with
  | zero => intro k L h1 h2; omega
  | succ F ih =>
    intro k L h1 h2 h3
    rw [l_Mod_goesOn_146]
    by_cases hk : k = 144
    · subst hk
      exact ⟨L, by rw [ifb_pos (by decide)], FrL.rf, h3⟩
    obtain ⟨L', e, f1, q1⟩ := ih (k + 1) (wL L 105 k (L 106 k)) (by omega) (by omega) (fun j hj => by
      rw [wL_n (a := 105) (b := 106) (by omega)]
      by_cases ej : j = k
      · subst ej; exact wL_s
      · rw [wL_n (by omega)]; exact h3 j (by omega))
    refine ⟨L', ?_, (FrL.w FrL.rf rfl).tr f1, fun j hj => (q1 j hj).trans (wL_n (by omega))⟩
    rw [ifb_neg (by rw [show (144 : Int32) = nI 144 from rfl, le32 (by omega) (by omega)]; omega), r_90_30 hR, bnd1_c, r_90_31 hR, bnd1_c, t_106, asrt_pos rfl, asrt_pos (vir (by omega) (by omega)), cl32 (by omega), lt_c, t_105, asrt_pos rfl, asrt_pos (vir (by omega) (by omega)), lt_c, nI_1]
    exact e
theorem goesOn_c {g : Nat} (hg : 1000 ≤ g) (hR : RG p fe R) (hH : MH W H K w hd I) (hM : ∀ r, r < 4 * (W * H) → L 105 r = iL (M r)) : ∃ (L' : ML) (M2 : Nat → Int), f_Mod_goesOn g S1 R I L 90 = some L' ∧ FrL [(105, none), (106, none)] L L' ∧ (∀ r, r < 4 * (W * H) → L' 105 r = iL (M2 r)) ∧ ∀ A, smI (fun r => M2 r * A r) (4 * (W * H)) = smI (fun s => M s * TT W H K w A s) (4 * (W * H)) := by
  have hN := hH.1.N36
  obtain ⟨L6, e1, f1, q1⟩ := go2 hR g 0 L (by omega) (by omega) (fun j hj => by omega)
  obtain ⟨L48, M2, e2, f2, m2, q2⟩ := go24 (M := M) hg hR hH g 0 L6 (fun _ => 0) (by omega) (by omega) (fun r hr => (f1 105 r rfl).trans (hM r hr)) (fun r hr => q1 r (by omega)) (fun A => smI_z _ (fun i _ => Int.zero_mul _))
  obtain ⟨L59, e3, f3, q3⟩ := go146 hR g 0 L48 (by omega) (by omega) (fun j hj => by omega)
  refine ⟨L59, M2, ?_, ((f1.sub rfl).tr (f2.sub rfl)).tr (f3.sub rfl), fun r hr => (q3 r (by omega)).trans (m2 r hr), q2⟩
  unfold f_Mod_goesOn
  rw [show l_Mod_goesOn_2 S1 R 90 g L 0 = some L6 from e1, bnd1_c, show l_Mod_goesOn_24 g S1 R I 90 g L6 0 = some L48 from e2, bnd1_c, show l_Mod_goesOn_146 S1 R 90 g L48 0 = some L59 from e3, bnd1_c]
theorem massOn_c {g : Nat} (hg : 10 ≤ g) (hR : RG p fe R) (hN : W * H ≤ 36) (hc : c < W * H) (hM : ∀ r, r < 4 * (W * H) → L 105 r = iL (M r)) : f_Mod_massOn g S1 R L 90 (nI c) = some (iL (M (4 * c) + M (4 * c + 1) + M (4 * c + 2) + M (4 * c + 3))) := by
  have stp : ∀ h F (z : Int), h < 4 → l_Mod_massOn_5 S1 R L 90 (nI c) (F + 1) (iL z) (nI h) = l_Mod_massOn_5 S1 R L 90 (nI c) F (iL (z + M (4 * c + h))) (nI (h + 1)) := by
    intro h F z hh
    rw [l_Mod_massOn_5, ifb_neg (by rw [show (4 : Int32) = nI 4 from rfl, le32 (by omega) (by omega)]; omega), r_90_30 hR, bnd1_c, show (4 : Int32) = nI 4 from rfl, pk_mul, nI_add, lt_c, t_105, asrt_pos rfl, asrt_pos (vir (by omega) (by omega)), cl32 (by omega), hM _ (by omega), iL_add, lt_c, nI_1]
  obtain ⟨g, rfl⟩ : ∃ g', g = g' + 5 := ⟨g - 5, by omega⟩
  unfold f_Mod_massOn
  rw [show l_Mod_massOn_5 S1 R L 90 (nI c) (g + 5) 0 0 = some (iL (M (4 * c) + M (4 * c + 1) + M (4 * c + 2) + M (4 * c + 3))) by
    refine (stp 0 (g + 4) 0 (by omega)).trans ((stp 1 (g + 3) _ (by omega)).trans ((stp 2 (g + 2) _ (by omega)).trans ((stp 3 (g + 1) _ (by omega)).trans ?_)))
    rw [l_Mod_massOn_5, ifb_pos (by decide), Nat.add_zero, Int.zero_add], bnd1_c]
theorem sum84 {g : Nat} (hg : 1000 ≤ g) (hR : RG p fe R) (hH : MH W H K w hd I) (hM : ∀ r, r < 4 * (W * H) → L 105 r = iL (M r)) {v1 v2 v5 : Int32} {v3 : Int64} : ∀ F o, o ≤ W * H → W * H < o + F → l_Mod_behind_84 g S1 R I L 90 v1 v2 v3 v5 F (iL (smI (fun s => M s * go1 K s) (4 * o))) (nI o) = some (iL (smI (fun s => M s * go1 K s) (4 * (W * H)))) := by
  have hN := hH.1.N36
  intro F
  induction F with
  | zero => intro o h1 h2; omega
  | succ F ih =>
    intro o h1 h2
    rw [l_Mod_behind_84, cells_c hH.1, bnd1_c]
    by_cases hc : o = W * H
    · subst hc
      rw [ifb_pos (by rw [le32 (by omega) (by omega)]; omega)]
    have nx := ih (o + 1) (by omega) (by omega)
    rw [show 4 * (o + 1) = 4 * o + 1 + 1 + 1 + 1 by omega, smI, smI, smI, smI] at nx
    unfold go1 at nx ⊢
    rw [show (4 * o + 1 + 1 + 1) / 4 = o by omega, show (4 * o + 1 + 1) / 4 = o by omega, show (4 * o + 1) / 4 = o by omega, show 4 * o / 4 = o by omega] at nx
    rw [ifb_neg (by rw [le32 (by omega) (by omega)]; omega), isEnd_in hH.1 hR (by omega), bnd1_c]
    unfold eb
    cases hE : isE (K o)
    · rw [hE, if_neg (by decide), Int.mul_one, Int.mul_one, Int.mul_one, Int.mul_one] at nx
      rw [if_neg (by decide), ifb_pos rfl, massOn_c (by omega) hR hN.2 (by omega) hM, bnd1_c, bnd1_c, iL_add, lt_c, nI_1]
      refine Eq.trans ?_ nx
      congr 2
      omega
    · rw [hE, if_pos rfl, Int.mul_zero, Int.mul_zero, Int.mul_zero, Int.mul_zero] at nx
      rw [if_pos rfl, ifb_neg (by decide), bnd1_c, show (0 : Int64) = iL 0 from rfl, iL_add, lt_c, nI_1]
      refine Eq.trans ?_ nx
      congr 2
      omega
theorem rg1 (a b q : Int) : (100 * a + 100 * b) * q = a * (q * 100) + b * (q * 100) := by
  rw [Int.add_mul, Int.mul_comm 100 a, Int.mul_comm 100 b, Int.mul_assoc a 100 q, Int.mul_assoc b 100 q, Int.mul_comm 100 q]
theorem loop72 {g : Nat} (hg : 1000 ≤ g) (hR : RG p fe R) (hH : MH W H K w hd I) (hn : n ≤ 8) {v1 : Int32} {A1 A2 : Nat → Nat → Int} {a1 a2 : Int} (hA1 : ∀ k s, A1 (k + 1) s = TT W H K w (A1 k) s) (hA2 : ∀ k s, A2 (k + 1) s = TT W H K w (A2 k) s + go1 K s * 100 ^ (k + 1)) (h20 : ∀ s, A2 0 s = 0) :
    ∀ F k (L : ML) (M : Nat → Int) (st : Int), k ≤ n → n < k + F → (∀ r, r < 4 * (W * H) → L 105 r = iL (M r)) → smI (fun s => M s * A1 (n - k) s) (4 * (W * H)) = a1 → st * 100 ^ (n - k) + smI (fun s => M s * A2 (n - k) s) (4 * (W * H)) = a2 →
    ∃ (L' : ML) (M' : Nat → Int), l_Mod_behind_72 g S1 R I 90 v1 (nI n) F L (iL st) (nI k) = some (iL a2, L') ∧ FrL [(105, none), (106, none)] L L' ∧ (∀ r, r < 4 * (W * H) → L' 105 r = iL (M' r)) ∧ smI (fun s => M' s * A1 0 s) (4 * (W * H)) = a1 := by
  have hN := hH.1.N36
  intro F
  induction F with
  | zero => intro k L M st h1 h2; omega
  | succ F ih =>
    intro k L M st h1 h2 h3 h4 h5
    rw [l_Mod_behind_72]
    by_cases hk : k = n
    · subst hk
      rw [Nat.sub_self] at h4 h5
      have e2 : st = a2 := by
        rw [← h5, smI_z _ (fun i _ => by rw [h20, Int.mul_zero]), Int.pow_zero, Int.mul_one, Int.add_zero]
      exact ⟨L, M, by rw [ifb_pos (by rw [le32 (by omega) (by omega)]; omega), e2], FrL.rf, h3, h4⟩
    have e84 := sum84 (v1 := v1) (v2 := nI n) (v3 := iL st) (v5 := nI k) hg hR hH h3 g 0 (by omega) (by omega)
    obtain ⟨L1, M1, e1, f1, m1, q1⟩ := goesOn_c hg hR hH h3
    obtain ⟨j, hj⟩ : ∃ j, n - k = j + 1 := ⟨n - k - 1, by omega⟩
    have hj2 : n - (k + 1) = j := by omega
    rw [hj] at h4 h5
    obtain ⟨L', M', e, f2, m2, q2⟩ := ih (k + 1) L1 M1 (100 * st + 100 * smI (fun s => M s * go1 K s) (4 * (W * H))) (by omega) (by omega) m1 (by rw [hj2, q1 (A1 j), ← h4]; exact smI_eq _ (fun i _ => by rw [hA1])) (by
      rw [hj2, q1 (A2 j), rg1, ← h5, Int.pow_succ, ← smI_mul, Int.add_assoc, ← smI_add]
      congr 1
      refine smI_eq _ (fun i _ => ?_)
      rw [hA2, Int.mul_add, Int.pow_succ, Int.mul_assoc (M i) (go1 K i)]
      exact Int.add_comm _ _)
    refine ⟨L', M', ?_, f1.tr f2, m2, q2⟩
    rw [ifb_neg (by rw [le32 (by omega) (by omega)]; omega), show l_Mod_behind_84 g S1 R I L 90 v1 (nI n) (iL st) (nI k) g 0 0 = some _ from e84, bnd1_c, show (100 : Int64) = iL 100 from rfl, iL_mul, iL_mul, iL_add, lt_c, e1, bnd1_c, nI_1]
    exact e
theorem beg24 (hR : RG p fe R) {v1 v2 : Int32} (hc : c < 36) (hh : h < 4) (h7 : I 90 7 = nI c) (h8 : I 90 8 = nI h) : ∀ F k (L : ML), k ≤ 144 → 144 < k + F → (∀ j, j < k → L 105 j = iL (if j = 4 * c + h then 1 else 0)) → ∃ L', l_Mod_behind_24 S1 R I 90 v1 v2 F L (nI k) = some L' ∧ FrL [(105, none)] L L' ∧ ∀ j, j < 144 → L' 105 j = iL (if j = 4 * c + h then 1 else 0) := by
  intro F
  induction F with
  | zero => intro k L h1 h2; omega
  | succ F ih =>
    intro k L h1 h2 h3
    rw [l_Mod_behind_24]
    by_cases hk : k = 144
    · subst hk
      exact ⟨L, by rw [ifb_pos (by decide)], FrL.rf, h3⟩
    obtain ⟨L', e, f1, q1⟩ := ih (k + 1) (wL L 105 k (iL (if k = 4 * c + h then 1 else 0))) (by omega) (by omega) (fun j hj => by
      by_cases ej : j = k
      · subst ej; exact wL_s
      · rw [wL_n (by omega)]; exact h3 j (by omega))
    refine ⟨L', ?_, (FrL.w FrL.rf rfl).tr f1, q1⟩
    rw [ifb_neg (by rw [show (144 : Int32) = nI 144 from rfl, le32 (by omega) (by omega)]; omega), r_90_30 hR, bnd1_c, h7, h8, show (4 : Int32) = nI 4 from rfl, pk_mul, nI_add]
    by_cases ek : k = 4 * c + h
    · rw [ifb_pos (by rw [ek]), bnd1_c, flag_1, bnd1_c, if_pos ek] at *
      rw [lt_c, t_105, asrt_pos rfl, asrt_pos (vir (by omega) (by omega)), cl32 (by omega), lt_c, nI_1]
      exact e
    · rw [ifb_neg (by rw [eq32 (by omega) (by omega)]; exact ek), bnd1_c, flag_0, bnd1_c]
      rw [if_neg ek] at e
      rw [lt_c, t_105, asrt_pos rfl, asrt_pos (vir (by omega) (by omega)), cl32 (by omega), lt_c, nI_1]
      exact e
end BH
