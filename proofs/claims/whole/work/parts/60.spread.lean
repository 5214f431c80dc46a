section SP
variable {W H N m s0 lim M a : Nat} {K : Nat → Nat} {o d : Nat → Nat} {I I' : MI} {R : MR} {p : Bool} {fe : Nat}
def SB (a : Nat) (R : MR) : Prop := R a 0 = some (a + 1) ∧ R a 1 = some (a + 2) ∧ S1 (a + 1) = (20, 144) ∧ S1 (a + 2) = (20, 144)
def ud (f : Nat → Nat) (k v : Nat) : Nat → Nat := fun j => if j = k then v else f j
theorem ud_s {f : Nat → Nat} {k v : Nat} : ud f k v k = v := if_pos rfl
theorem ud_n {f : Nat → Nat} {k v j : Nat} (h : j ≠ k) : ud f k v j = f j := if_neg h
def fSp (a : Nat) : FT := [(a, some 2), (a + 1, none), (a + 2, none)]
theorem inSp {a b k : Nat} (h : b < a ∨ a + 2 < b ∨ (b = a ∧ k ≠ 2)) : inF (fSp a) b k = false := by
  simp only [inF, fSp, List.any_eq_false, List.mem_cons, List.not_mem_nil, or_false, Bool.and_eq_true, Bool.or_eq_true, beq_iff_eq]
  rintro q (rfl | rfl | rfl) <;> simp <;> omega
/-- the row of a spread as it stands: m places found -/
def SC (a N lim m : Nat) (o d : Nat → Nat) (I : MI) : Prop := I a 2 = nI m ∧ (∀ j, j < m → o j < 4 * N ∧ I (a + 1) j = nI (o j) ∧ I (a + 2) (o j) = nI (d (o j)) ∧ d (o j) ≤ lim) ∧
  (∀ s, s < 144 → I (a + 2) s = -1 ∨ ∃ j, j < m ∧ o j = s) ∧ cnf (fun s => I (a + 2) s == -1) 144 = m
theorem SC.le (h : SC a N lim m o d I) : m ≤ 144 := by
  rw [← h.2.2.2]; exact cnf_le _ 144
theorem find_c (hB : SB a R) (hN : N ≤ 36) (hl : lim ≤ 144) (h : SC a N lim m o d I) {x D : Nat} (hx : x < 4 * N) (hD : D ≤ lim) : ∃ m' o' d' I', f_Spread_find S1 R I a (nI x) (nI D) = some I' ∧ Fr (fSp a) I I' ∧ SC a N lim m' o' d' I' ∧
    ((m' = m ∧ o' = o ∧ d' = d ∧ ∃ j, j < m ∧ o j = x) ∨ (m' = m + 1 ∧ (∀ j, j < m → o j ≠ x) ∧ o' = ud o m x ∧ d' = ud d x D)) := by
  have hm := h.le
  obtain ⟨h1, h2, h3, h4⟩ := h
  obtain ⟨b1, b2, b3, b4⟩ := hB
  have e0 : f_Spread_find S1 R I a (nI x) (nI D) = (bnd1 (ifb (I (a + 2) x = -1) (ifb (144 ≤ I a 2) (some I) (lt (wI I (a + 2) x (nI D)) fun I12 => bnd1 (R a 0) fun b13 => asrt ((S1 b13).1 = 20) <| asrt (vp_in (I12 a 2) (S1 b13).2) <| lt (wI I12 b13 (Int32.toNatClampNeg (I12 a 2)) (nI x)) fun I16 => lt ((I16 a 2) + 1) fun x17 => lt (wI I16 a 2 x17) fun I18 => some I18)) (some I)) some) := by
    unfold f_Spread_find
    rw [ifb_neg (zn (by omega)), show (144 : Int32) = nI 144 from rfl, ifb_neg (by rw [le32 (by omega) (by omega)]; omega), b2, bnd1_c, b4, asrt_pos rfl, asrt_pos (vir (by omega) (by omega)), cl32 (by omega)]
    by_cases hc : I (a + 2) x = -1
    · rw [ifb_pos hc, ifb_pos hc, asrt_pos (vir (by omega) (by omega))]
    · rw [ifb_neg hc, ifb_neg hc]
  rcases h3 x (by omega) with hc | ⟨j, hj, hjx⟩
  · have hno : ∀ j, j < m → o j ≠ x := by
      intro j hj e
      have := (h2 j hj).2.2.1
      rw [e, hc] at this
      exact nIm1 (by have := (h2 j hj).2.2.2; rw [e] at this; omega) this.symm
    have hcn : ∀ (g : Nat → Bool), g x = false → (∀ k, k ≠ x → g k = (I (a + 2) k == -1)) → cnf g 144 = m + 1 := by
      intro g h5 h6
      have := @cnf_upd g (fun s => I (a + 2) s == -1) x h5 (by simp [hc]) (fun k hk => (h6 k hk).symm) 144 (by omega)
      omega
    have hlt : m < 144 := by
      have := hcn (fun k => if k = x then false else (I (a + 2) k == -1)) (if_pos rfl) (fun k hk => if_neg hk)
      have := cnf_le (fun k => if k = x then false else (I (a + 2) k == -1)) 144
      omega
    refine ⟨m + 1, ud o m x, ud d x D, wI (wI (wI I (a + 2) x (nI D)) (a + 1) m (nI x)) a 2 (nI (m + 1)), ?_, ?_, ⟨wI_s, ?_, ?_, ?_⟩, Or.inr ⟨rfl, hno, rfl, rfl⟩⟩
    · rw [e0, ifb_pos hc, h1, show (144 : Int32) = nI 144 from rfl, ifb_neg (by rw [le32 (by omega) (by omega)]; omega), lt_c, b1, bnd1_c, b3, asrt_pos rfl, wI_n (by omega), h1, asrt_pos (vir (by omega) (by omega)), cl32 (by omega), lt_c, wI_n (by omega), wI_n (by omega), h1, nI_1, lt_c, lt_c, bnd1_c]
    · intro b k hb
      have : ¬ (b = a + 2 ∧ k = x) ∧ ¬ (b = a + 1 ∧ k = m) ∧ ¬ (b = a ∧ k = 2) := by
        refine ⟨fun e => ?_, fun e => ?_, fun e => ?_⟩ <;> obtain ⟨rfl, rfl⟩ := e <;> simp [inF, fSp] at hb
      rw [wI_n this.2.2, wI_n this.2.1, wI_n this.1]
    · intro j hj
      by_cases e : j = m
      · subst e
        rw [ud_s, ud_s, wI_n (by omega), wI_s, wI_n (by omega), wI_n (by omega), wI_s]
        exact ⟨hx, rfl, rfl, hD⟩
      · have hj' : j < m := by omega
        have hne := hno j hj'
        obtain ⟨g1, g2, g3, g4⟩ := h2 j hj'
        rw [ud_n e, ud_n hne, wI_n (by omega), wI_n (by omega), wI_n (by omega), wI_n (by omega), wI_n (by omega), wI_n (by omega)]
        exact ⟨g1, g2, g3, g4⟩
    · intro s hs
      by_cases e : s = x
      · exact Or.inr ⟨m, by omega, by rw [ud_s, e]⟩
      · rcases h3 s hs with g | ⟨j, hj, g⟩
        · left
          rw [wI_n (by omega), wI_n (by omega), wI_n (by omega)]; exact g
        · exact Or.inr ⟨j, by omega, by rw [ud_n (by omega)]; exact g⟩
    · refine hcn _ ?_ (fun k hk => ?_)
      · rw [wI_n (by omega), wI_n (by omega), wI_s]
        have : nI D ≠ -1 := nIm1 (by omega)
        simp [this]
      · rw [wI_n (by omega), wI_n (by omega), wI_n (by omega)]
  · refine ⟨m, o, d, I, ?_, Fr.rf, ⟨h1, h2, h3, h4⟩, Or.inl ⟨rfl, rfl, rfl, j, hj, hjx⟩⟩
    have := (h2 j hj).2
    rw [hjx] at this
    rw [e0, ifb_neg (by rw [this.2.1]; exact nIm1 (by omega)), bnd1_c]
theorem mask_c : ∀ M, M < 8 → ∀ t, t < 3 → (ius (nI M) (nI t)) &&& 1 = if M.testBit t then 1 else 0 := by decide +kernel
/-- in just k steps, by the turns of the mask -/
def pth (W H : Nat) (K : Nat → Nat) (s0 M : Nat) : Nat → Nat → Prop
  | 0, s => s = s0
  | k + 1, s => ∃ r t, pth W H K s0 M k r ∧ isE (K (r / 4)) = false ∧ t < 3 ∧ M.testBit t = true ∧ s = aft W H K r t
def SQ (a W H : Nat) (K : Nat → Nat) (s0 M lim D m : Nat) (o d : Nat → Nat) (I : MI) : Prop := SC a (W * H) lim m o d I ∧ (∀ i j, i ≤ j → j < m → d (o i) ≤ d (o j)) ∧ (∀ i, i < m → d (o i) ≤ D) ∧ ∀ i, i < m → pth W H K s0 M (d (o i)) (o i)
def Ex (m : Nat) (o d : Nat → Nat) (m' : Nat) (o' d' : Nat → Nat) : Prop := m ≤ m' ∧ ∀ j, j < m → o' j = o j ∧ d' (o j) = d (o j)
theorem Ex.rf {m : Nat} {o d : Nat → Nat} : Ex m o d m o d := ⟨Nat.le_refl _, fun _ _ => ⟨rfl, rfl⟩⟩
theorem Ex.tr {m m' m'' : Nat} {o d o' d' o'' d'' : Nat → Nat} (h : Ex m o d m' o' d') (k : Ex m' o' d' m'' o'' d'') : Ex m o d m'' o'' d'' :=
  ⟨Nat.le_trans h.1 k.1, fun j hj => by
    have a1 := h.2 j hj
    have a2 := k.2 j (Nat.lt_of_lt_of_le hj h.1)
    rw [a1.1] at a2
    exact ⟨a2.1, a2.2.trans a1.2⟩⟩
theorem finds_c (hB : SB a R) (hN : W * H ≤ 36) (hl : lim ≤ 144) {D : Nat} (h : SQ a W H K s0 M lim D m o d I) {x : Nat} (hx : x < 4 * (W * H)) (hD : D ≤ lim) (hp : pth W H K s0 M D x) : ∃ m' o' d' I', f_Spread_find S1 R I a (nI x) (nI D) = some I' ∧ Fr (fSp a) I I' ∧ SQ a W H K s0 M lim D m' o' d' I' ∧ Ex m o d m' o' d' ∧ ∃ j, j < m' ∧ o' j = x := by
  obtain ⟨h1, h2, h3, h4⟩ := h
  obtain ⟨m', o', d', I', e, f, c, q⟩ := find_c hB hN hl h1 hx hD
  rcases q with ⟨rfl, rfl, rfl, j, hj⟩ | ⟨rfl, hn, rfl, rfl⟩
  · exact ⟨m', o', d', I', e, f, ⟨c, h2, h3, h4⟩, Ex.rf, j, hj⟩
  · have old : ∀ i, i < m → ud o m x i = o i ∧ ud d x D (o i) = d (o i) := fun i hi => ⟨ud_n (by omega), ud_n (hn i hi)⟩
    have new : ud o m x m = x ∧ ud d x D x = D := ⟨ud_s, ud_s⟩
    refine ⟨m + 1, _, _, I', e, f, ⟨c, fun i j hij hj => ?_, fun i hi => ?_, fun i hi => ?_⟩, ⟨by omega, old⟩, m, by omega, ud_s⟩
    · by_cases ej : j = m
      · subst ej
        rw [new.1, new.2]
        by_cases ei : i = j
        · subst ei; rw [new.1, new.2]; exact Nat.le_refl _
        · rw [(old i (by omega)).1, (old i (by omega)).2]; exact h3 i (by omega)
      · rw [(old j (by omega)).1, (old j (by omega)).2, (old i (by omega)).1, (old i (by omega)).2]
        exact h2 i j hij (by omega)
    · by_cases ei : i = m
      · subst ei; rw [new.1, new.2]; exact Nat.le_refl _
      · rw [(old i (by omega)).1, (old i (by omega)).2]; exact h3 i (by omega)
    · by_cases ei : i = m
      · subst ei; rw [new.1, new.2]; exact hp
      · rw [(old i (by omega)).1, (old i (by omega)).2]; exact h4 i (by omega)
theorem from77_c (hB : SB a R) (hR : RG p fe R) (hW : 1 ≤ W ∧ W ≤ 6) (hN : W * H ≤ 36) (hl : lim ≤ 144) (hM : M < 8) (ha : a + 2 < 60 ∨ 63 < a) {s D : Nat} {v3 v5 : Int32} (hs : s < 4 * (W * H)) (hD : D + 1 ≤ lim) (hp : pth W H K s0 M D s) (hE : isE (K (s / 4)) = false) : ∀ (f t m : Nat) (o d : Nat → Nat) (I : MI), t ≤ 3 → 3 < t + f → LA W H K I → SQ a W H K s0 M lim (D + 1) m o d I →
    ∃ m' o' d' I', l_Spread_from_77 S1 R a 60 v3 (nI M) v5 (nI s) (nI D) f I (nI t) = some I' ∧ Fr (fSp a) I I' ∧ SQ a W H K s0 M lim (D + 1) m' o' d' I' ∧ Ex m o d m' o' d' ∧ ∀ u, t ≤ u → u < 3 → M.testBit u = true → ∃ j, j < m' ∧ o' j = aft W H K s u := by
  intro f
  induction f with
  | zero => intro t m o d I h1 h2; omega
  | succ f ih =>
    intro t m o d I h1 h2 hA hQ
    rw [l_Spread_from_77]
    by_cases ht : t = 3
    · subst ht
      exact ⟨m, o, d, I, by rw [ifb_pos (by rw [show (3 : Int32) = nI 3 from rfl, le32 (by omega) (by omega)]; omega)], Fr.rf, hQ, Ex.rf, fun u a b => by omega⟩
    have ht3 : t < 3 := by omega
    rw [ifb_neg (by rw [show (3 : Int32) = nI 3 from rfl, le32 (by omega) (by omega)]; omega), mask_c M hM t ht3]
    cases hb : M.testBit t
    · obtain ⟨m', o', d', I', e, f1, q, x, c⟩ := ih (t + 1) m o d I (by omega) (by omega) hA hQ
      refine ⟨m', o', d', I', ?_, f1, q, x, fun u a b eb => ?_⟩
      · rw [if_neg (by simp), ifb_pos rfl, bnd1_c, nI_1]; exact e
      · by_cases hu : u = t
        · rw [hu, hb] at eb; cases eb
        · exact c u (by omega) b eb
    · have hx := @aft_lt W H K hW s t hs
      obtain ⟨m1, o1, d1, I1, e1, f1, q1, x1, j1, hj1⟩ := finds_c hB hN hl hQ hx hD ⟨s, t, hp, hE, ht3, hb, rfl⟩
      have hA1 : LA W H K I1 := hA.ag (fun b k h => f1 b k (inSp (by
        simp only [inF, fLA, List.any_cons, List.any_nil, Bool.or_false, Bool.and_eq_true, beq_iff_eq] at h
        omega)))
      obtain ⟨m', o', d', I', e, f2, q, x, c⟩ := ih (t + 1) m1 o1 d1 I1 (by omega) (by omega) hA1 q1
      refine ⟨m', o', d', I', ?_, f1.tr f2, q, x1.tr x, fun u a b e => ?_⟩
      · rw [if_pos rfl, ifb_neg (by decide), t_60, asrt_pos rfl, after_c hN hA hR hs ht3, bnd1_c, nI_1, e1, bnd1_c, bnd1_c, nI_1]; exact e
      · by_cases hu : u = t
        · subst hu
          exact ⟨j1, by have := x.1; omega, (x.2 j1 hj1.1).1.trans hj1.2⟩
        · exact c u (by omega) b e
/-- a spread that is done up to place q -/
def clo (W H : Nat) (K : Nat → Nat) (M lim q m : Nat) (o d : Nat → Nat) : Prop := ∀ j, j < q → d (o j) < lim → isE (K (o j / 4)) = false → ∀ t, t < 3 → M.testBit t = true → ∃ i, i < m ∧ o i = aft W H K (o j) t ∧ d (o i) ≤ d (o j) + 1
def SPR (a W H : Nat) (K : Nat → Nat) (s0 M lim m : Nat) (o d : Nat → Nat) (I : MI) : Prop := SC a (W * H) lim m o d I ∧ (∀ i j, i ≤ j → j < m → d (o i) ≤ d (o j)) ∧ (∀ i, i < m → pth W H K s0 M (d (o i)) (o i)) ∧ clo W H K M lim m m o d ∧ 0 < m ∧ o 0 = s0 ∧ d s0 = 0
theorem depthOf_c (hB : SB a R) (hN : N ≤ 36) (h : SC a N lim m o d I) {j : Nat} (hj : j < m) : f_Spread_depthOf S1 R I a (nI (o j)) = some (nI (d (o j))) := by
  obtain ⟨h1, h2, h3, h4⟩ := h
  obtain ⟨b1, b2, b3, b4⟩ := hB
  have := h2 j hj
  unfold f_Spread_depthOf
  rw [ifb_neg (zn (by omega)), show (144 : Int32) = nI 144 from rfl, ifb_neg (by rw [le32 (by omega) (by omega)]; omega), b2, bnd1_c, b4, asrt_pos rfl, asrt_pos (vir (by omega) (by omega)), cl32 (by omega), this.2.2.1, bnd1_c]
theorem inLand {a b k : Nat} {l : FT} (ha : a + 2 < 60 ∨ 63 < a) (ha' : a + 2 < 90) (hl : ∀ q ∈ l, (60 ≤ q.1 ∧ q.1 ≤ 63) ∨ 90 ≤ q.1) (h : inF l b k = true) : inF (fSp a) b k = false := inSp (by
  simp only [inF, List.any_eq_true, Bool.and_eq_true, beq_iff_eq] at h
  obtain ⟨q, q1, q2, q3⟩ := h
  have := hl q q1
  omega)
theorem from22_c {g : Nat} (hg : 4 ≤ g) (hB : SB a R) (hR : RG p fe R) (hW : 1 ≤ W ∧ W ≤ 6) (hN : W * H ≤ 36) (hl : lim ≤ 144) (hM : M < 8) (ha : a + 2 < 60 ∨ 63 < a) (ha' : a + 2 < 90) : ∀ (f q m : Nat) (o d : Nat → Nat) (I : MI), q ≤ m → 144 < q + f → LKc W H K I → LA W H K I → SC a (W * H) lim m o d I → (∀ i j, i ≤ j → j < m → d (o i) ≤ d (o j)) → (∀ i, i < m → pth W H K s0 M (d (o i)) (o i)) → (q < m → ∀ i, i < m → d (o i) ≤ d (o q) + 1) → clo W H K M lim q m o d →
    ∃ m' o' d' I', l_Spread_from_22 g S1 R a 60 (nI lim) (nI M) f I (nI q) = some I' ∧ Fr (fSp a) I I' ∧ SC a (W * H) lim m' o' d' I' ∧ (∀ i j, i ≤ j → j < m' → d' (o' i) ≤ d' (o' j)) ∧ (∀ i, i < m' → pth W H K s0 M (d' (o' i)) (o' i)) ∧ clo W H K M lim m' m' o' d' ∧ Ex m o d m' o' d' := by
  intro f
  induction f with
  | zero => intro q m o d I h1 h2 h3 h4 hC; have := hC.le; omega
  | succ f ih =>
    intro q m o d I h1 h2 hL hA hC hS hP hD hcl
    have hm := hC.le
    rw [l_Spread_from_22]
    by_cases hq : q = m
    · subst hq
      exact ⟨q, o, d, I, by rw [hC.1, ifb_pos (by rw [le32 (by omega) (by omega)]; omega)], Fr.rf, hC, hS, hP, hcl, Ex.rf⟩
    have hqm : q < m := by omega
    obtain ⟨b1, b2, b3, b4⟩ := id hB
    obtain ⟨g1, g2, g3, g4⟩ := hC.2.1 q hqm
    have pre : ∀ (X : MI → Option MI), ifb ((I a 2) ≤ nI q) (some I) (ifb (144 ≤ nI q) (some I) (bnd1 (R a 0) fun b9 => asrt ((S1 b9).1 = 20) <| asrt (vp_in (nI q) (S1 b9).2) <| lt (I b9 (Int32.toNatClampNeg (nI q))) fun x12 => bnd1 (f_Spread_depthOf S1 R I a x12) fun x13 => bnd1 (ifb (nI lim ≤ x13) (some I) (bnd1 (f_GWL_cellOf x12) fun x19 => asrt ((S1 60).1 = 2) <| bnd1 (f_Land_endsAt S1 R I 60 x19) fun x22 => ifb (x22 = 0) (bnd1 (l_Spread_from_77 S1 R a 60 (nI lim) (nI M) (nI q) x12 x13 g I 0) fun I35 => some I35) (some I))) X)) =
        bnd1 (ifb (lim ≤ d (o q)) (some I) (ifb (isE (K (o q / 4)) = true) (some I) (l_Spread_from_77 S1 R a 60 (nI lim) (nI M) (nI q) (nI (o q)) (nI (d (o q))) g I 0))) X := by
      intro X
      rw [hC.1, ifb_neg (by rw [le32 (by omega) (by omega)]; omega), show (144 : Int32) = nI 144 from rfl, ifb_neg (by rw [le32 (by omega) (by omega)]; omega), b1, bnd1_c, b3, asrt_pos rfl, asrt_pos (vir (by omega) (by omega)), cl32 (by omega), g2, lt_c, depthOf_c hB hN hC hqm, bnd1_c]
      by_cases c1 : lim ≤ d (o q)
      · rw [ifb_pos (by rw [le32 (by omega) (by omega)]; omega), ifb_pos c1]
      · rw [ifb_neg (by rw [le32 (by omega) (by omega)]; omega), ifb_neg c1, cellOf_c (by omega), bnd1_c, t_60, asrt_pos rfl, endsAt_in hL hR (by omega), bnd1_c]
        cases c2 : isE (K (o q / 4))
        · rw [show eb (K (o q / 4)) = 0 by unfold eb; rw [c2]; rfl, ifb_pos rfl, ifb_neg (by simp)]
          cases l_Spread_from_77 S1 R a 60 (nI lim) (nI M) (nI q) (nI (o q)) (nI (d (o q))) g I 0 <;> rfl
        · rw [show eb (K (o q / 4)) = 1 by unfold eb; rw [c2]; rfl, ifb_neg (by decide), ifb_pos rfl]
    rw [pre]
    have skip : (lim ≤ d (o q) ∨ isE (K (o q / 4)) = true) → ∃ m' o' d' I', l_Spread_from_22 g S1 R a 60 (nI lim) (nI M) f I (nI q + 1) = some I' ∧ Fr (fSp a) I I' ∧ SC a (W * H) lim m' o' d' I' ∧ (∀ i j, i ≤ j → j < m' → d' (o' i) ≤ d' (o' j)) ∧ (∀ i, i < m' → pth W H K s0 M (d' (o' i)) (o' i)) ∧ clo W H K M lim m' m' o' d' ∧ Ex m o d m' o' d' := by
      intro hsk
      rw [nI_1]
      refine ih (q + 1) m o d I (by omega) (by omega) hL hA hC hS hP (fun h i hi => Nat.le_trans (hD hqm i hi) ?_) (fun j hj e1 e2 => ?_)
      · have := hS q (q + 1) (by omega) h
        omega
      · by_cases ej : j = q
        · subst ej
          rcases hsk with h | h
          · omega
          · rw [h] at e2; cases e2
        · exact hcl j (by omega) e1 e2
    by_cases c1 : lim ≤ d (o q)
    · rw [ifb_pos c1, bnd1_c]; exact skip (Or.inl c1)
    rw [ifb_neg c1]
    cases c2 : isE (K (o q / 4))
    · rw [ifb_neg (by simp)]
      obtain ⟨m1, o1, d1, I1, e1, f1, ⟨s1, s2, s3, s4⟩, x1, c⟩ := from77_c (v3 := nI lim) (v5 := nI q) hB hR hW hN hl hM ha g1 (by omega) (hP q hqm) c2 g 0 m o d I (by omega) (by omega) hA ⟨hC, hS, hD hqm, hP⟩
      rw [show l_Spread_from_77 S1 R a 60 (nI lim) (nI M) (nI q) (nI (o q)) (nI (d (o q))) g I 0 = some I1 from e1, bnd1_c, nI_1]
      have hL1 : LKc W H K I1 := hL.ag (fun b k h => f1 b k (inLand ha ha' (by simp [fLK]) h))
      have hA1 : LA W H K I1 := hA.ag (fun b k h => f1 b k (inLand ha ha' (by simp [fLA]) h))
      have xq := x1.2 q hqm
      have hmm := x1.1
      obtain ⟨m', o', d', I', e, f2, r1, r2, r3, r4, r5⟩ := ih (q + 1) m1 o1 d1 I1 (by omega) (by omega) hL1 hA1 s1 s2 s4 (fun h i hi => Nat.le_trans (s3 i hi) (by
        have := s2 q (q + 1) (by omega) h
        rw [xq.1, xq.2] at this
        omega)) (fun j hj u1 u2 t ht hb => by
          by_cases ej : j = q
          · subst ej
            rw [xq.1] at u1 u2 ⊢
            obtain ⟨i, hi, he⟩ := c t (by omega) ht hb
            refine ⟨i, hi, he, ?_⟩
            rw [xq.2]
            exact s3 i hi
          · have xj := x1.2 j (by omega)
            rw [xj.1] at u1 u2 ⊢
            rw [xj.2] at u1
            obtain ⟨i, hi, he, hd⟩ := hcl j (by omega) u1 u2 t ht hb
            have xi := x1.2 i hi
            exact ⟨i, by omega, xi.1.trans he, by rw [xi.1, xi.2, xj.2]; exact hd⟩)
      exact ⟨m', o', d', I', e, f1.tr f2, r1, r2, r3, r4, x1.tr r5⟩
    · rw [ifb_pos rfl, bnd1_c]; exact skip (Or.inr c2)
theorem cnf_all {f : Nat → Bool} : ∀ n, (∀ k, k < n → f k = true) → cnf f n = 0
  | 0, _ => rfl
  | n + 1, h => by
    unfold cnf
    rw [cnf_all n (fun k hk => h k (by omega)), h n (by omega)]
    rfl
theorem fill_c {g n b : Nat} (hg : n < g) (hb : S1 b = (20, n)) (hn : n < 2147483647) (v : Int32) : ∃ I', f_JArr_fill g S1 I b v = some I' ∧ Fr [(b, none)] I I' ∧ ∀ k, k < n → I' b k = v := by
  have loop : ∀ f k I, k ≤ n → n < k + f → ∃ I', l_JArr_fill_5 S1 b v (nI n) f I (nI k) = some I' ∧ Fr [(b, none)] I I' ∧ (∀ i, k ≤ i → i < n → I' b i = v) ∧ ∀ i, i < k → I' b i = I b i := by
    intro f
    induction f with
    | zero => intro k I h1 h2; omega
    | succ f ih =>
      intro k I h1 h2
      rw [l_JArr_fill_5]
      by_cases hk : k = n
      · subst hk
        exact ⟨I, by rw [ifb_pos (by rw [le32 (by omega) (by omega)]; omega)], Fr.rf, fun i a b => by omega, fun i _ => rfl⟩
      rw [ifb_neg (by rw [le32 (by omega) (by omega)]; omega), hb, asrt_pos rfl, asrt_pos (vir (by omega) (by omega)), cl32 (by omega), lt_c, nI_1]
      obtain ⟨I', e, f1, c, c'⟩ := ih (k + 1) (wI I b k v) (by omega) (by omega)
      refine ⟨I', e, (Fr.w Fr.rf (by simp [inF])).tr f1, fun i h3 h4 => ?_, fun i h3 => ?_⟩
      · by_cases hi : i = k
        · subst hi; rw [c' i (by omega), wI_s]
        · exact c i (by omega) h4
      · rw [c' i (by omega), wI_n (by omega)]
  unfold f_JArr_fill
  rw [hb, asrt_pos rfl, lt_c]
  obtain ⟨I', e, f1, c, -⟩ := loop g 0 I (by omega) (by omega)
  exact ⟨I', by rw [show l_JArr_fill_5 S1 b v (Int32.ofNat (20, n).2) g I 0 = some I' from e, bnd1_c], f1, fun k hk => c k (by omega) hk⟩
theorem spread_c {g : Nat} (hg : 145 ≤ g) (hB : SB a R) (hR : RG p fe R) (hW : 1 ≤ W ∧ W ≤ 6) (hN : W * H ≤ 36) (hl : lim ≤ 144) (hM : M < 8) (ha : a + 2 < 60 ∨ 63 < a) (ha' : a + 2 < 90) (hL : LKc W H K I) (hA : LA W H K I) (hs : s0 < 4 * (W * H)) :
    ∃ m o d I', f_Spread_from g S1 R I a 60 (nI s0) (nI lim) (nI M) = some I' ∧ Fr (fSp a) I I' ∧ SPR a W H K s0 M lim m o d I' := by
  obtain ⟨b1, b2, b3, b4⟩ := id hB
  unfold f_Spread_from
  obtain ⟨I1, e1, f1, c1⟩ := fill_c (I := I) (n := 144) (g := g) (by omega) b4 (by omega) (-1)
  rw [b2, bnd1_c, e1, bnd1_c, lt_c]
  have c0 : SC a (W * H) lim 0 (fun _ => 0) (fun _ => 0) (wI I1 a 2 0) := by
    refine ⟨wI_s, fun j hj => by omega, fun s hs => Or.inl ?_, ?_⟩
    · rw [wI_n (by omega)]; exact c1 s hs
    · exact cnf_all 144 (fun k hk => by
        show (wI I1 a 2 0 (a + 2) k == -1) = true
        rw [wI_n (by omega), c1 k hk]; rfl)
  obtain ⟨m1, o1, d1, I2, e2, f2, r1, q⟩ := find_c hB hN hl c0 hs (Nat.zero_le lim)
  rcases q with ⟨-, -, -, j, hj, -⟩ | ⟨rfl, -, rfl, rfl⟩
  · omega
  have f12 : Fr (fSp a) I I2 := by
    refine Fr.tr (Fr.w (fun b k h => f1 b k ?_) (by simp [inF, fSp])) f2
    cases hc : inF [(a + 2, none)] b k with
    | false => rfl
    | true =>
      simp [inF] at hc
      simp [inF, fSp, hc] at h
  have o0 : ud (fun _ => 0) 0 s0 0 = s0 := ud_s
  have d0 : ud (fun _ => 0) s0 0 s0 = 0 := ud_s
  have hL2 : LKc W H K I2 := hL.ag (fun b k h => f12 b k (inLand ha ha' (by simp [fLK]) h))
  have hA2 : LA W H K I2 := hA.ag (fun b k h => f12 b k (inLand ha ha' (by simp [fLA]) h))
  obtain ⟨m', o', d', I', e, f3, r1, r2, r3, r4, r5⟩ := from22_c (s0 := s0) (M := M) (g := g) (by omega) hB hR hW hN hl hM ha ha' g 0 (0 + 1) _ _ I2 (by omega) (by omega) hL2 hA2 r1 (fun i j hij hj => by
    obtain rfl : j = 0 := by omega
    obtain rfl : i = 0 := by omega
    exact Nat.le_refl _) (fun i hi => by
    obtain rfl : i = 0 := by omega
    rw [o0, d0]; rfl) (fun _ i hi => by
    obtain rfl : i = 0 := by omega
    exact Nat.le_succ _) (fun j hj => absurd hj (Nat.not_lt_zero _))
  have x0 := r5.2 0 (by omega)
  have hm := r5.1
  rw [o0, d0] at x0
  refine ⟨m', o', d', I', ?_, f12.tr f3, r1, r2, r3, r4, by omega, x0.1, x0.2⟩
  rw [show f_Spread_find S1 R (wI I1 a 2 0) a (nI s0) 0 = some I2 from e2, bnd1_c, show l_Spread_from_22 g S1 R a 60 (nI lim) (nI M) g I2 0 = some I' from e]
  rfl
end SP
