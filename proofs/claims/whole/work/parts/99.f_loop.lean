/-! the law's loop comes to 1 -/
def Gd (o : Option (Int32 × MI × ML × MR)) : Prop := ∃ I L R, o = some (1, I, L, R)
section GD
variable {α β γ δ ε : Type}
theorem Gd_if {c : Prop} {a b : Option (Int32 × MI × ML × MR)} (ht : c → Gd a) (hf : ¬ c → Gd b) : Gd (ifb c a b) := by
  by_cases h : c
  · rw [ifb_pos h]; exact ht h
  · rw [ifb_neg h]; exact hf h
theorem Gd_lt {e : α} {f : α → Option (Int32 × MI × ML × MR)} (h : Gd (f e)) : Gd (lt e f) := by rw [lt_c]; exact h
theorem Gd_as {c : Prop} {a : Option (Int32 × MI × ML × MR)} (h : c) (k : Gd a) : Gd (asrt c a) := by rw [asrt_pos h]; exact k
theorem Gd_1 {o : Option α} {a : α} {f : α → Option (Int32 × MI × ML × MR)} (h : o = some a) (k : Gd (f a)) : Gd (bnd1 o f) := by rw [h, bnd1_c]; exact k
theorem Gd_2 {o : Option (α × β)} {a : α} {b : β} {f : α → β → Option (Int32 × MI × ML × MR)} (h : o = some (a, b)) (k : Gd (f a b)) : Gd (bnd2 o f) := by rw [h, bnd2_c]; exact k
theorem Gd_3 {o : Option (α × β × γ)} {a : α} {b : β} {c : γ} {f : α → β → γ → Option (Int32 × MI × ML × MR)} (h : o = some (a, b, c)) (k : Gd (f a b c)) : Gd (bnd3 o f) := by rw [h, bnd3_c]; exact k
theorem Gd_4 {o : Option (α × β × γ × δ)} {a : α} {b : β} {c : γ} {d : δ} {f : α → β → γ → δ → Option (Int32 × MI × ML × MR)} (h : o = some (a, b, c, d)) (k : Gd (f a b c d)) : Gd (bnd4 o f) := by rw [h, bnd4_c]; exact k
end GD
theorem lgc_0 (v : Int64) : lg_cmp v v = 0 := by
  unfold lg_cmp
  simp
theorem vpk {k c N : Nat} (h : 5 * k + c < N) (hN : N ≤ 2560) {x : Int32} (hx : x = nI (5 * k + c)) : vp_in x N := by
  rw [hx]
  exact vp_in_nI h (by omega)
theorem nIk (a b : Nat) : nI a + nI b = nI (a + b) := (Int32.ofNat_add a b).symm
set_option maxRecDepth 100000 in
set_option maxHeartbeats 4000000 in
theorem law_loop {N : Nat} {xs : Nat → Int32} {g v0 : Nat} (hN : N ≤ 2560) (hg9 : 1000000000 ≤ g) : ∀ (F k : Nat) (I : MI) (L : ML) (R : MR), 5 * k ≤ N → N < 5 * (k + F) → Cp k I L R → Gd (l_Law_law_23 N xs g S1 v0 0 90 123 F I L R (nI (5 * k))) := by
  have hg3 : 1000 ≤ g := by omega
  have a0 : (S1 0).1 = 11 := rfl
  have a90 : (S1 90).1 = 12 := rfl
  have a123 : (S1 123).1 = 21 := rfl
  have b123 : vp_in 0 (S1 123).2 := vp0 (by rw [t_123]; decide)
  intro F
  induction F with
  | zero => intro k I L R h1 h2; omega
  | succ F ih =>
    intro k I L R h1 h2 hC
    rw [l_Law_law_23]
    refine Gd_if (fun _ => ⟨_, _, _, rfl⟩) (fun hq => ?_)
    have h5 : 5 * k + 5 ≤ N := by
      apply Nat.le_of_not_lt
      intro hlt
      apply hq
      rw [Int32.lt_iff_toInt_lt, tI_n (by omega), show (Int32.ofNat N) = nI N from rfl, show (5 : Int32) = nI 5 from rfl, Int32.toInt_sub, tI_n (by omega), tI_n (by omega), Int.bmod_def]
      omega
    have hB : k < 1000 := by omega
    have v0' : vp_in (nI (5 * k)) N := vp_in_nI (by omega) (by omega)
    have c1 : vp_in (nI (5 * k) + 1) N := vpk (c := 1) (by omega) hN (nIk _ _)
    have c2 : vp_in (nI (5 * k) + 2) N := vpk (c := 2) (by omega) hN (nIk _ _)
    have c3 : vp_in (nI (5 * k) + 3) N := vpk (c := 3) (by omega) hN (nIk _ _)
    have c4 : vp_in (nI (5 * k) + 4) N := vpk (c := 4) (by omega) hN (nIk _ _)
    have lp : ∀ (I : MI) (L : ML) (R : MR), Cp (k + 1) I L R → Gd (l_Law_law_23 N xs g S1 v0 0 90 123 F I L R (nI (5 * k) + 5)) := fun I L R h => by
      rw [show nI (5 * k) + 5 = nI (5 * (k + 1)) from nIk _ _]
      exact ih (k + 1) I L R (by omega) (by omega) h
    clear ih hq
    refine Gd_as v0' ?_
    refine Gd_lt ?_
    refine Gd_if (fun _ => ?_) (fun _ => ?_)
    · obtain ⟨v, I1, I2, e1, e2, hc⟩ := op_sign hg3 hC (xs (Int32.toNatClampNeg (nI (5 * k) + 1)))
      refine Gd_lt ?_
      refine Gd_as c1 ?_
      refine Gd_as a0 ?_
      refine Gd_2 e1 ?_
      refine Gd_lt ?_
      refine Gd_as c1 ?_
      refine Gd_as a90 ?_
      refine Gd_2 e2 ?_
      exact Gd_if (fun _ => lp _ _ _ hc) (fun z => absurd rfl z)
    refine Gd_if (fun _ => ?_) (fun _ => ?_)
    · obtain ⟨v, I1, I2, e1, e2, hc⟩ := op_end hC (xs (Int32.toNatClampNeg (nI (5 * k) + 1)))
      refine Gd_lt ?_
      refine Gd_as c1 ?_
      refine Gd_as a0 ?_
      refine Gd_2 e1 ?_
      refine Gd_lt ?_
      refine Gd_as c1 ?_
      refine Gd_as a90 ?_
      refine Gd_2 e2 ?_
      exact Gd_if (fun _ => lp _ _ _ hc) (fun z => absurd rfl z)
    refine Gd_if (fun _ => ?_) (fun _ => ?_)
    · obtain ⟨v, I1, I2, e1, e2, hc⟩ := op_moor hg3 hB hC
      refine Gd_as a0 ?_
      refine Gd_2 e1 ?_
      refine Gd_as a90 ?_
      refine Gd_2 e2 ?_
      exact Gd_if (fun _ => lp _ _ _ hc) (fun z => absurd rfl z)
    refine Gd_if (fun _ => ?_) (fun _ => ?_)
    · obtain ⟨v, I1, I2, e1, e2, hc⟩ := op_fee hg3 hC
      refine Gd_as a0 ?_
      refine Gd_2 e1 ?_
      refine Gd_as a90 ?_
      refine Gd_2 e2 ?_
      exact Gd_if (fun _ => lp _ _ _ hc) (fun z => absurd rfl z)
    refine Gd_if (fun _ => ?_) (fun _ => ?_)
    · obtain ⟨v, I2, e1, e2, hc⟩ := op_cell hC (xs (Int32.toNatClampNeg (nI (5 * k) + 1)))
      refine Gd_lt ?_
      refine Gd_as c1 ?_
      refine Gd_as a0 ?_
      refine Gd_1 e1 ?_
      refine Gd_lt ?_
      refine Gd_as c1 ?_
      refine Gd_as a90 ?_
      refine Gd_2 e2 ?_
      exact Gd_if (fun _ => lp _ _ _ hc) (fun z => absurd rfl z)
    refine Gd_if (fun _ => ?_) (fun _ => ?_)
    · obtain ⟨v, I1, I2, e1, e2, hc⟩ := op_put hg3 hC (xs (Int32.toNatClampNeg (nI (5 * k) + 1))) (xs (Int32.toNatClampNeg (nI (5 * k) + 2)))
      refine Gd_lt ?_
      refine Gd_as c1 ?_
      refine Gd_lt ?_
      refine Gd_as c2 ?_
      refine Gd_as a0 ?_
      refine Gd_2 e1 ?_
      refine Gd_lt ?_
      refine Gd_as c1 ?_
      refine Gd_lt ?_
      refine Gd_as c2 ?_
      refine Gd_as a90 ?_
      refine Gd_2 e2 ?_
      exact Gd_if (fun _ => lp _ _ _ hc) (fun z => absurd rfl z)
    refine Gd_if (fun _ => ?_) (fun _ => ?_)
    · obtain ⟨v, I1, I2, e1, e2, hc⟩ := op_go hC (xs (Int32.toNatClampNeg (nI (5 * k) + 1))) (xs (Int32.toNatClampNeg (nI (5 * k) + 2)))
      refine Gd_lt ?_
      refine Gd_as c1 ?_
      refine Gd_lt ?_
      refine Gd_as c2 ?_
      refine Gd_as a0 ?_
      refine Gd_2 e1 ?_
      refine Gd_lt ?_
      refine Gd_as c1 ?_
      refine Gd_lt ?_
      refine Gd_as c2 ?_
      refine Gd_as a90 ?_
      refine Gd_2 e2 ?_
      exact Gd_if (fun _ => lp _ _ _ hc) (fun z => absurd rfl z)
    refine Gd_if (fun _ => ?_) (fun _ => ?_)
    · obtain ⟨v, I1, I2, e1, e2, hc⟩ := op_weights hC (xs (Int32.toNatClampNeg (nI (5 * k) + 1))) (xs (Int32.toNatClampNeg (nI (5 * k) + 2)))
      refine Gd_lt ?_
      refine Gd_as c1 ?_
      refine Gd_lt ?_
      refine Gd_as c2 ?_
      refine Gd_as a0 ?_
      refine Gd_2 e1 ?_
      refine Gd_lt ?_
      refine Gd_as c1 ?_
      refine Gd_lt ?_
      refine Gd_as c2 ?_
      refine Gd_as a90 ?_
      refine Gd_2 e2 ?_
      exact Gd_if (fun _ => lp _ _ _ hc) (fun z => absurd rfl z)
    refine Gd_if (fun _ => ?_) (fun _ => ?_)
    · obtain ⟨v, I1, I2, e1, e2, hc⟩ := op_set hC (xs (Int32.toNatClampNeg (nI (5 * k) + 1))) (xs (Int32.toNatClampNeg (nI (5 * k) + 2)))
      refine Gd_lt ?_
      refine Gd_as c1 ?_
      refine Gd_lt ?_
      refine Gd_as c2 ?_
      refine Gd_as a0 ?_
      refine Gd_2 e1 ?_
      refine Gd_lt ?_
      refine Gd_as c1 ?_
      refine Gd_lt ?_
      refine Gd_as c2 ?_
      refine Gd_as a90 ?_
      refine Gd_2 e2 ?_
      exact Gd_if (fun _ => lp _ _ _ hc) (fun z => absurd rfl z)
    refine Gd_if (fun _ => ?_) (fun _ => ?_)
    · obtain ⟨v, I1, I2, e1, e2, hc⟩ := op_sheet hg3 hC (xs (Int32.toNatClampNeg (nI (5 * k) + 1))) (xs (Int32.toNatClampNeg (nI (5 * k) + 2))) (xs (Int32.toNatClampNeg (nI (5 * k) + 3))) (xs (Int32.toNatClampNeg (nI (5 * k) + 4)))
      refine Gd_lt ?_
      refine Gd_as c1 ?_
      refine Gd_lt ?_
      refine Gd_as c2 ?_
      refine Gd_lt ?_
      refine Gd_as c3 ?_
      refine Gd_lt ?_
      refine Gd_as c4 ?_
      refine Gd_as a0 ?_
      refine Gd_2 e1 ?_
      refine Gd_lt ?_
      refine Gd_as c1 ?_
      refine Gd_lt ?_
      refine Gd_as c2 ?_
      refine Gd_lt ?_
      refine Gd_as c3 ?_
      refine Gd_lt ?_
      refine Gd_as c4 ?_
      refine Gd_as a90 ?_
      refine Gd_2 e2 ?_
      exact Gd_if (fun _ => lp _ _ _ hc) (fun z => absurd rfl z)
    refine Gd_if (fun _ => ?_) (fun _ => ?_)
    · obtain ⟨v, I1, I2, e1, e2, hc⟩ := op_step hg3 hC (xs (Int32.toNatClampNeg (nI (5 * k) + 1)))
      refine Gd_lt ?_
      refine Gd_as c1 ?_
      refine Gd_as a0 ?_
      refine Gd_2 e1 ?_
      refine Gd_lt ?_
      refine Gd_as c1 ?_
      refine Gd_as a90 ?_
      refine Gd_2 e2 ?_
      exact Gd_if (fun _ => lp _ _ _ hc) (fun z => absurd rfl z)
    refine Gd_if (fun _ => ?_) (fun _ => ?_)
    · obtain ⟨v, I1, L1, I2, L2, e1, e2, hc⟩ := op_alone hg3 hC
      refine Gd_as a0 ?_
      refine Gd_3 e1 ?_
      refine Gd_as a90 ?_
      refine Gd_3 e2 ?_
      exact Gd_if (fun _ => lp _ _ _ hc) (fun z => absurd rfl z)
    refine Gd_if (fun _ => ?_) (fun _ => ?_)
    · obtain ⟨v, I1, L1, I2, L2, e1, e2, hc⟩ := op_ask hg3 hC (xs (Int32.toNatClampNeg (nI (5 * k) + 1)))
      refine Gd_lt ?_
      refine Gd_as c1 ?_
      refine Gd_as a0 ?_
      refine Gd_3 e1 ?_
      refine Gd_lt ?_
      refine Gd_as c1 ?_
      refine Gd_as a90 ?_
      refine Gd_3 e2 ?_
      exact Gd_if (fun _ => lp _ _ _ hc) (fun z => absurd rfl z)
    refine Gd_if (fun _ => ?_) (fun _ => ?_)
    · obtain ⟨v, I1, I2, e1, e2, hc⟩ := op_undo hg3 hC
      refine Gd_as a0 ?_
      refine Gd_2 e1 ?_
      refine Gd_as a90 ?_
      refine Gd_2 e2 ?_
      exact Gd_if (fun _ => lp _ _ _ hc) (fun z => absurd rfl z)
    refine Gd_if (fun _ => ?_) (fun _ => ?_)
    · obtain ⟨v, I1, L1, I2, L2, e1, e2, hc⟩ := op_look hg3 hC
      refine Gd_as a0 ?_
      refine Gd_3 e1 ?_
      refine Gd_as a90 ?_
      refine Gd_3 e2 ?_
      exact Gd_if (fun _ => lp _ _ _ hc) (fun z => absurd rfl z)
    refine Gd_if (fun _ => ?_) (fun _ => ?_)
    · obtain ⟨v, I1, L1, I2, L2, e1, e2, hc⟩ := op_way hg9 hC
      refine Gd_as a0 ?_
      refine Gd_3 e1 ?_
      refine Gd_as a90 ?_
      refine Gd_3 e2 ?_
      exact Gd_if (fun _ => lp _ _ _ hc) (fun z => absurd rfl z)
    refine Gd_if (fun _ => ?_) (fun _ => ?_)
    · obtain ⟨v, I1, L1, I2, L2, e1, e2, hc⟩ := op_reach hg3 hC
      refine Gd_as a0 ?_
      refine Gd_3 e1 ?_
      refine Gd_as a90 ?_
      refine Gd_3 e2 ?_
      exact Gd_if (fun _ => lp _ _ _ hc) (fun z => absurd rfl z)
    refine Gd_if (fun _ => ?_) (fun _ => ?_)
    · obtain ⟨v, I1, L1, R1, I2, L2, e1, e2, hc⟩ := op_never hg9 hC (xs (Int32.toNatClampNeg (nI (5 * k) + 1)))
      refine Gd_lt ?_
      refine Gd_as c1 ?_
      refine Gd_as a0 ?_
      refine Gd_4 e1 ?_
      refine Gd_lt ?_
      refine Gd_as c1 ?_
      refine Gd_as a90 ?_
      refine Gd_3 e2 ?_
      exact Gd_if (fun _ => lp _ _ _ hc) (fun z => absurd rfl z)
    refine Gd_if (fun _ => ?_) (fun _ => ?_)
    · obtain ⟨v, I1, L1, R1, I2, L2, e1, e2, hc⟩ := op_best hg9 hC (xs (Int32.toNatClampNeg (nI (5 * k) + 1)))
      refine Gd_lt ?_
      refine Gd_as c1 ?_
      refine Gd_as a0 ?_
      refine Gd_4 e1 ?_
      refine Gd_lt ?_
      refine Gd_as c1 ?_
      refine Gd_as a90 ?_
      refine Gd_3 e2 ?_
      exact Gd_if (fun _ => lp _ _ _ hc) (fun z => absurd rfl z)
    refine Gd_if (fun _ => ?_) (fun _ => ?_)
    · obtain ⟨v, I1, L1, R1, I2, L2, e1, e2, hc⟩ := op_fewest hg9 hC (xs (Int32.toNatClampNeg (nI (5 * k) + 1))) (xs (Int32.toNatClampNeg (nI (5 * k) + 2)))
      refine Gd_lt ?_
      refine Gd_as c1 ?_
      refine Gd_lt ?_
      refine Gd_as c2 ?_
      refine Gd_as a0 ?_
      refine Gd_4 e1 ?_
      refine Gd_lt ?_
      refine Gd_as c1 ?_
      refine Gd_lt ?_
      refine Gd_as c2 ?_
      refine Gd_as a90 ?_
      refine Gd_3 e2 ?_
      exact Gd_if (fun _ => lp _ _ _ hc) (fun z => absurd rfl z)
    refine Gd_if (fun _ => ?_) (fun _ => ?_)
    · obtain ⟨v, I1, L1, R1, I2, L2, e1, e2, hc⟩ := op_should hg9 hC (xs (Int32.toNatClampNeg (nI (5 * k) + 1)))
      refine Gd_lt ?_
      refine Gd_as c1 ?_
      refine Gd_as a0 ?_
      refine Gd_4 e1 ?_
      refine Gd_lt ?_
      refine Gd_as c1 ?_
      refine Gd_as a90 ?_
      refine Gd_3 e2 ?_
      exact Gd_if (fun _ => lp _ _ _ hc) (fun z => absurd rfl z)
    refine Gd_if (fun _ => ?_) (fun _ => ?_)
    · obtain ⟨v, I1, L1, R1, I2, L2, e1, e2, hc⟩ := op_safest hg9 hC (xs (Int32.toNatClampNeg (nI (5 * k) + 1)))
      refine Gd_lt ?_
      refine Gd_as c1 ?_
      refine Gd_as a0 ?_
      refine Gd_4 e1 ?_
      refine Gd_lt ?_
      refine Gd_as c1 ?_
      refine Gd_as a90 ?_
      refine Gd_3 e2 ?_
      exact Gd_if (fun _ => lp _ _ _ hc) (fun z => absurd rfl z)
    refine Gd_if (fun _ => ?_) (fun _ => ?_)
    · obtain ⟨v, I1, L1, I2, L2, e1, e2, hc⟩ := op_perils hg3 hC (xs (Int32.toNatClampNeg (nI (5 * k) + 1)))
      refine Gd_lt ?_
      refine Gd_as c1 ?_
      refine Gd_as a0 ?_
      refine Gd_3 e1 ?_
      refine Gd_lt ?_
      refine Gd_as c1 ?_
      refine Gd_as a90 ?_
      refine Gd_3 e2 ?_
      exact Gd_if (fun _ => lp _ _ _ hc) (fun z => absurd rfl z)
    refine Gd_if (fun _ => ?_) (fun _ => ?_)
    · obtain ⟨v, I1, L1, R1, I2, L2, e1, e2, hc⟩ := op_behind hg9 hC (xs (Int32.toNatClampNeg (nI (5 * k) + 1))) (xs (Int32.toNatClampNeg (nI (5 * k) + 2)))
      refine Gd_lt ?_
      refine Gd_as c1 ?_
      refine Gd_lt ?_
      refine Gd_as c2 ?_
      refine Gd_as a0 ?_
      refine Gd_4 e1 ?_
      refine Gd_lt ?_
      refine Gd_as c1 ?_
      refine Gd_lt ?_
      refine Gd_as c2 ?_
      refine Gd_as a90 ?_
      refine Gd_3 e2 ?_
      exact Gd_if (fun _ => lp _ _ _ hc) (fun z => absurd rfl z)
    refine Gd_if (fun _ => ?_) (fun _ => ?_)
    · obtain ⟨v, I1, L1, R1, I2, L2, e1, e2, hc⟩ := op_loud hg9 hC (xs (Int32.toNatClampNeg (nI (5 * k) + 1))) (xs (Int32.toNatClampNeg (nI (5 * k) + 2)))
      refine Gd_lt ?_
      refine Gd_as c1 ?_
      refine Gd_lt ?_
      refine Gd_as c2 ?_
      refine Gd_as a0 ?_
      refine Gd_4 e1 ?_
      refine Gd_lt ?_
      refine Gd_as c1 ?_
      refine Gd_lt ?_
      refine Gd_as c2 ?_
      refine Gd_as a90 ?_
      refine Gd_3 e2 ?_
      exact Gd_if (fun _ => lp _ _ _ hc) (fun z => absurd rfl z)
    refine Gd_if (fun _ => ?_) (fun _ => ?_)
    · obtain ⟨v, I2, e1, e2, hc⟩ := op_owed hC
      refine Gd_as a0 ?_
      refine Gd_1 e1 ?_
      refine Gd_as a90 ?_
      refine Gd_2 e2 ?_
      exact Gd_if (fun _ => lp _ _ _ hc) (fun z => absurd rfl z)
    refine Gd_if (fun _ => ?_) (fun _ => ?_)
    · obtain ⟨v, I1, L1, R1, I2, L2, e1, e2, hc⟩ := op_greed hg9 hC (xs (Int32.toNatClampNeg (nI (5 * k) + 1)))
      refine Gd_lt ?_
      refine Gd_as c1 ?_
      refine Gd_as a0 ?_
      refine Gd_4 e1 ?_
      refine Gd_lt ?_
      refine Gd_as c1 ?_
      refine Gd_as a90 ?_
      refine Gd_3 e2 ?_
      exact Gd_if (fun _ => lp _ _ _ hc) (fun z => absurd rfl z)
    refine Gd_if (fun _ => ?_) (fun _ => ?_)
    · obtain ⟨v, I1, L1, R1, I2, L2, e1, e2, hc⟩ := op_honest hg9 hC (xs (Int32.toNatClampNeg (nI (5 * k) + 1)))
      refine Gd_lt ?_
      refine Gd_as c1 ?_
      refine Gd_as a0 ?_
      refine Gd_4 e1 ?_
      refine Gd_lt ?_
      refine Gd_as c1 ?_
      refine Gd_as a90 ?_
      refine Gd_3 e2 ?_
      exact Gd_if (fun _ => lp _ _ _ hc) (fun z => absurd rfl z)
    refine Gd_if (fun _ => ?_) (fun _ => ?_)
    · obtain ⟨v, I1, I2, e1, e2, hc⟩ := op_shelf hg3 hC (xs (Int32.toNatClampNeg (nI (5 * k) + 1)))
      refine Gd_lt ?_
      refine Gd_as c1 ?_
      refine Gd_as a0 ?_
      refine Gd_2 e1 ?_
      refine Gd_lt ?_
      refine Gd_as c1 ?_
      refine Gd_as a90 ?_
      refine Gd_2 e2 ?_
      exact Gd_if (fun _ => lp _ _ _ hc) (fun z => absurd rfl z)
    refine Gd_if (fun _ => ?_) (fun _ => ?_)
    · obtain ⟨v, I1, L1, R1, I2, L2, e1, e2, hc⟩ := op_fairest hg9 hC (xs (Int32.toNatClampNeg (nI (5 * k) + 1)))
      refine Gd_lt ?_
      refine Gd_as c1 ?_
      refine Gd_as a0 ?_
      refine Gd_4 e1 ?_
      refine Gd_lt ?_
      refine Gd_as c1 ?_
      refine Gd_as a90 ?_
      refine Gd_3 e2 ?_
      exact Gd_if (fun _ => lp _ _ _ hc) (fun z => absurd rfl z)
    refine Gd_if (fun _ => ?_) (fun _ => ?_)
    · obtain ⟨v, I2, e1, e2, hc⟩ := op_track hC (xs (Int32.toNatClampNeg (nI (5 * k) + 1)))
      refine Gd_lt ?_
      refine Gd_as c1 ?_
      refine Gd_as a0 ?_
      refine Gd_1 e1 ?_
      refine Gd_lt ?_
      refine Gd_as c1 ?_
      refine Gd_as a90 ?_
      refine Gd_2 e2 ?_
      exact Gd_if (fun _ => lp _ _ _ hc) (fun z => absurd rfl z)
    refine Gd_if (fun _ => ?_) (fun _ => ?_)
    · obtain ⟨v, I1, I2, e1, e2, hc⟩ := op_rain hg3 hC
      refine Gd_as a0 ?_
      refine Gd_2 e1 ?_
      refine Gd_as a90 ?_
      refine Gd_2 e2 ?_
      exact Gd_if (fun _ => lp _ _ _ hc) (fun z => absurd rfl z)
    refine Gd_if (fun _ => ?_) (fun _ => ?_)
    · obtain ⟨v, I1, L1, I2, L2, e1, e2, hc⟩ := op_follow hg3 hC (xs (Int32.toNatClampNeg (nI (5 * k) + 1)))
      refine Gd_lt ?_
      refine Gd_as c1 ?_
      refine Gd_as a0 ?_
      refine Gd_3 e1 ?_
      refine Gd_lt ?_
      refine Gd_as c1 ?_
      refine Gd_as a90 ?_
      refine Gd_3 e2 ?_
      exact Gd_if (fun _ => lp _ _ _ hc) (fun z => absurd rfl z)
    refine Gd_if (fun _ => ?_) (fun _ => ?_)
    · obtain ⟨v, I1, L1, I2, L2, e1, e2, hc⟩ := op_warned hg9 hC
      refine Gd_as a0 ?_
      refine Gd_3 e1 ?_
      refine Gd_as a90 ?_
      refine Gd_3 e2 ?_
      exact Gd_if (fun _ => lp _ _ _ hc) (fun z => absurd rfl z)
    refine Gd_if (fun _ => ?_) (fun _ => ?_)
    · obtain ⟨v, I1, L1, I2, L2, e1, e2, hc⟩ := op_codes hg3 hC (xs (Int32.toNatClampNeg (nI (5 * k) + 1))) (xs (Int32.toNatClampNeg (nI (5 * k) + 2)))
      refine Gd_lt ?_
      refine Gd_as c1 ?_
      refine Gd_lt ?_
      refine Gd_as c2 ?_
      refine Gd_as a0 ?_
      refine Gd_3 e1 ?_
      refine Gd_lt ?_
      refine Gd_as c1 ?_
      refine Gd_lt ?_
      refine Gd_as c2 ?_
      refine Gd_as a90 ?_
      refine Gd_3 e2 ?_
      exact Gd_if (fun _ => lp _ _ _ hc) (fun z => absurd rfl z)
    refine Gd_if (fun _ => ?_) (fun _ => ?_)
    · obtain ⟨v, I2, e1, e2, hc⟩ := op_meant hg3 hC (xs (Int32.toNatClampNeg (nI (5 * k) + 1))) (xs (Int32.toNatClampNeg (nI (5 * k) + 2))) (xs (Int32.toNatClampNeg (nI (5 * k) + 3))) (xs (Int32.toNatClampNeg (nI (5 * k) + 4)))
      refine Gd_lt ?_
      refine Gd_as c1 ?_
      refine Gd_lt ?_
      refine Gd_as c2 ?_
      refine Gd_lt ?_
      refine Gd_as c3 ?_
      refine Gd_lt ?_
      refine Gd_as c4 ?_
      refine Gd_as a0 ?_
      refine Gd_1 e1 ?_
      refine Gd_lt ?_
      refine Gd_as c1 ?_
      refine Gd_lt ?_
      refine Gd_as c2 ?_
      refine Gd_lt ?_
      refine Gd_as c3 ?_
      refine Gd_lt ?_
      refine Gd_as c4 ?_
      refine Gd_as a90 ?_
      refine Gd_2 e2 ?_
      exact Gd_if (fun _ => lp _ _ _ hc) (fun z => absurd rfl z)
    refine Gd_if (fun _ => ?_) (fun _ => ?_)
    · obtain ⟨v, I1, I2, e1, e2, hc⟩ := op_print hC (xs (Int32.toNatClampNeg (nI (5 * k) + 1))) (xs (Int32.toNatClampNeg (nI (5 * k) + 2)))
      refine Gd_lt ?_
      refine Gd_as c1 ?_
      refine Gd_lt ?_
      refine Gd_as c2 ?_
      refine Gd_as a0 ?_
      refine Gd_2 e1 ?_
      refine Gd_lt ?_
      refine Gd_as c1 ?_
      refine Gd_lt ?_
      refine Gd_as c2 ?_
      refine Gd_as a90 ?_
      refine Gd_2 e2 ?_
      exact Gd_if (fun _ => lp _ _ _ hc) (fun z => absurd rfl z)
    refine Gd_if (fun _ => ?_) (fun _ => ?_)
    · obtain ⟨v, I1, I2, e1, e2, hc⟩ := op_wipe hC
      refine Gd_as a0 ?_
      refine Gd_2 e1 ?_
      refine Gd_as a90 ?_
      refine Gd_2 e2 ?_
      exact Gd_if (fun _ => lp _ _ _ hc) (fun z => absurd rfl z)
    refine Gd_if (fun _ => ?_) (fun _ => ?_)
    · obtain ⟨v, I1, L1, I2, L2, e1, e2, hc⟩ := op_rows hg9 hC
      refine Gd_as a0 ?_
      refine Gd_3 e1 ?_
      refine Gd_as a90 ?_
      refine Gd_3 e2 ?_
      exact Gd_if (fun _ => lp _ _ _ hc) (fun z => absurd (lgc_0 _) z)
    refine Gd_if (fun _ => ?_) (fun _ => ?_)
    · obtain ⟨v, I1, L1, I2, L2, e1, e2, hc⟩ := op_lies hg9 hC
      refine Gd_as a0 ?_
      refine Gd_3 e1 ?_
      refine Gd_as a90 ?_
      refine Gd_3 e2 ?_
      exact Gd_if (fun _ => lp _ _ _ hc) (fun z => absurd rfl z)
    refine Gd_if (fun _ => ?_) (fun _ => ?_)
    · obtain ⟨v, I1, I2, e1, e2, hc⟩ := op_worth hC (xs (Int32.toNatClampNeg (nI (5 * k) + 1))) (xs (Int32.toNatClampNeg (nI (5 * k) + 2))) (xs (Int32.toNatClampNeg (nI (5 * k) + 3)))
      refine Gd_lt ?_
      refine Gd_as c1 ?_
      refine Gd_lt ?_
      refine Gd_as c2 ?_
      refine Gd_lt ?_
      refine Gd_as c3 ?_
      refine Gd_as a0 ?_
      refine Gd_2 e1 ?_
      refine Gd_lt ?_
      refine Gd_as c1 ?_
      refine Gd_lt ?_
      refine Gd_as c2 ?_
      refine Gd_lt ?_
      refine Gd_as c3 ?_
      refine Gd_as a90 ?_
      refine Gd_2 e2 ?_
      exact Gd_if (fun _ => lp _ _ _ hc) (fun z => absurd rfl z)
    refine Gd_if (fun _ => ?_) (fun _ => ?_)
    · obtain ⟨v, I1, L1, I2, L2, e1, e2, hc⟩ := op_hire hg3 hC (xs (Int32.toNatClampNeg (nI (5 * k) + 1)))
      refine Gd_lt ?_
      refine Gd_as c1 ?_
      refine Gd_as a0 ?_
      refine Gd_3 e1 ?_
      refine Gd_lt ?_
      refine Gd_as c1 ?_
      refine Gd_as a90 ?_
      refine Gd_3 e2 ?_
      exact Gd_if (fun _ => lp _ _ _ hc) (fun z => absurd rfl z)
    refine Gd_if (fun _ => ?_) (fun _ => ?_)
    · obtain ⟨v, I1, I2, e1, e2, hc⟩ := op_hoarse hg3 hC (xs (Int32.toNatClampNeg (nI (5 * k) + 1))) (xs (Int32.toNatClampNeg (nI (5 * k) + 2)))
      refine Gd_lt ?_
      refine Gd_as c1 ?_
      refine Gd_lt ?_
      refine Gd_as c2 ?_
      refine Gd_as a0 ?_
      refine Gd_2 e1 ?_
      refine Gd_lt ?_
      refine Gd_as c1 ?_
      refine Gd_lt ?_
      refine Gd_as c2 ?_
      refine Gd_as a90 ?_
      refine Gd_2 e2 ?_
      exact Gd_if (fun _ => lp _ _ _ hc) (fun z => absurd rfl z)
    refine Gd_if (fun _ => ?_) (fun _ => ?_)
    · obtain ⟨v, I1, I2, e1, e2, hc⟩ := op_seed hC (xs (Int32.toNatClampNeg (nI (5 * k) + 1)))
      refine Gd_lt ?_
      refine Gd_as c1 ?_
      refine Gd_as a0 ?_
      refine Gd_2 e1 ?_
      refine Gd_lt ?_
      refine Gd_as c1 ?_
      refine Gd_as a90 ?_
      refine Gd_2 e2 ?_
      exact Gd_if (fun _ => lp _ _ _ hc) (fun z => absurd rfl z)
    refine Gd_if (fun _ => ?_) (fun _ => ?_)
    · obtain ⟨v, I1, I2, e1, e2, hc⟩ := op_keep hg3 hC (xs (Int32.toNatClampNeg (nI (5 * k) + 1)))
      refine Gd_lt ?_
      refine Gd_as c1 ?_
      refine Gd_as a0 ?_
      refine Gd_2 e1 ?_
      refine Gd_lt ?_
      refine Gd_as c1 ?_
      refine Gd_as a90 ?_
      refine Gd_2 e2 ?_
      exact Gd_if (fun _ => lp _ _ _ hc) (fun z => absurd rfl z)
    refine Gd_if (fun _ => ?_) (fun _ => ?_)
    · obtain ⟨v, I1, I2, e1, e2, hc⟩ := op_again hg3 hB hC (xs (Int32.toNatClampNeg (nI (5 * k) + 1)))
      refine Gd_lt ?_
      refine Gd_as c1 ?_
      refine Gd_as a0 ?_
      refine Gd_2 e1 ?_
      refine Gd_lt ?_
      refine Gd_as c1 ?_
      refine Gd_as a90 ?_
      refine Gd_2 e2 ?_
      exact Gd_if (fun _ => lp _ _ _ hc) (fun z => absurd rfl z)
    refine Gd_if (fun _ => ?_) (fun _ => ?_)
    · obtain ⟨v, I2, e1, e2, hc⟩ := op_count hC (xs (Int32.toNatClampNeg (nI (5 * k) + 1)))
      refine Gd_lt ?_
      refine Gd_as c1 ?_
      refine Gd_as a0 ?_
      refine Gd_1 e1 ?_
      refine Gd_lt ?_
      refine Gd_as c1 ?_
      refine Gd_as a90 ?_
      refine Gd_2 e2 ?_
      exact Gd_if (fun _ => lp _ _ _ hc) (fun z => absurd rfl z)
    refine Gd_if (fun _ => ?_) (fun _ => ?_)
    · obtain ⟨v, L1, b, I2, e1, e2, e3, e4, hc⟩ := op_row hC (xs (Int32.toNatClampNeg (nI (5 * k) + 1)))
      refine Gd_lt (Gd_as c1 (Gd_2 e1 (Gd_lt (Gd_as c1 (Gd_as a90 (Gd_2 e2 (Gd_1 e3 ?_)))))))
      refine Gd_if (fun _ => ?_) (fun z => absurd rfl z)
      refine Gd_if (fun z => ?_) (fun _ => lp _ _ _ hc)
      refine Gd_as a123 (Gd_as b123 (Gd_if (fun _ => lp _ _ _ hc) (fun z2 => absurd ?_ z2)))
      rw [show Int32.toNatClampNeg 0 = 0 from by decide, e4 z]
      exact lgc_0 _
    exact lp _ _ _ hC.up
