section VL
variable {W H m s0 n k hd h0 N b q : Nat} {K w : Nat → Nat} {l e : Nat → Int} {fs fa : Int} {I I' : MI} {L L' L0 : ML} {R : MR} {p : Bool} {fe : Nat}
theorem bw_eq {A B : Nat → Int} (h : ∀ r, A r = B r) (s : Nat) : bw W H K w A s = bw W H K w B s := by
  unfold bw; rw [h, h, h]
theorem wm3 {A : Nat → Int} (s : Nat) : wm W H K w hd 3 A s = 10 * bw W H K w A s := by
  unfold wm bw ptn
  rw [if_pos rfl, if_pos rfl, if_pos rfl, Int.mul_add, Int.mul_add, ← Int.mul_assoc, ← Int.mul_assoc, ← Int.mul_assoc]
  push_cast
  rfl
theorem wmt {A : Nat → Int} (hh : hd ≤ 10) (s : Nat) {t : Nat} (ht : t < 3) : wm W H K w hd t A s = (10 - (hd : Int)) * bw W H K w A s + 10 * (hd : Int) * A (aft W H K s t) := by
  have h1 : ((10 - hd : Nat) : Int) = 10 - (hd : Int) := by omega
  unfold wm bw ptn
  rw [Int.mul_add, Int.mul_add, ← Int.mul_assoc, ← Int.mul_assoc, ← Int.mul_assoc]
  have : t = 0 ∨ t = 1 ∨ t = 2 := by omega
  rcases this with rfl | rfl | rfl <;> simp <;> rw [h1] <;> rw [Int.add_mul] <;> omega
theorem pick1 (a b : Int × Int × Nat) : (pick a b).1 = max a.1 b.1 := by
  unfold pick
  repeat' split
  all_goals omega
theorem V_e (he : isE (K (s0 / 4)) = true) (v : Nat) : (V W H K w hd e fs fa k s0 v).1 = e (s0 / 4) * 100 ^ k ∧ (V W H K w hd e fs fa k s0 v).2.1 = (if K (s0 / 4) = 3 then 1 else 0) * 100 ^ k := by
  cases k with
  | zero => unfold V; simp
  | succ k =>
    rw [V, if_pos he]
    refine ⟨rfl, ?_⟩
    simp only
    split <;> simp
/-- with calls, and nothing to be had but at the end -/
theorem V_mW (hh : hd ≤ 10) (hl : ∀ c, e c = l c) : ∀ k s v, (V W H K w hd e 0 0 k s v).1 = mW W H K w hd l 1 k s v := by
  intro k
  induction k with
  | zero => intro s v; unfold V mW; exact hl _
  | succ k ih =>
    intro s v
    by_cases he : isE (K (s / 4)) = true
    · rw [(V_e he v).1, mW, if_pos he, ← ih, (V_e he v).1, Int.pow_succ, ← Int.mul_assoc, Int.mul_comm]
    · have ihm : ∀ r, (V W H K w hd e 0 0 k r (min v k)).1 = mW W H K w hd l 1 k r v := fun r => by rw [← V_min, ih]
      have hb : (base W H K w 0 (V W H K w hd e 0 0 k) k s v).1 = wm W H K w hd 3 (fun r => mW W H K w hd l 1 k r v) s := by
        rw [wm3]
        unfold base
        simp only
        rw [bw_eq ihm, Int.zero_mul, Int.add_zero]
      have hc : ∀ t, t < 3 → (cand W H K w hd 0 0 (V W H K w hd e 0 0 k) k s v t).1 = wm W H K w hd t (fun r => mW W H K w hd l 1 k r (v - 1)) s := by
        intro t ht
        rw [wmt hh s ht]
        unfold cand
        simp only
        rw [bw_eq (fun r => ih r (v - 1)), ih]
        omega
      rw [V, mW, if_neg he, if_neg he]
      by_cases hv : v = 0
      · rw [if_pos hv, if_pos (Or.inr hv), hb]
      · rw [if_neg hv, if_neg (by omega), pick1, pick1, pick1, hb, hc 0 (by omega), hc 1 (by omega), hc 2 (by omega)]
/-- what turns by weights alone make of a place -/
theorem mW_lin (Y : Nat → Nat → Int) (h0 : ∀ s, Y 0 s = l (s / 4)) (h1 : ∀ k s, isE (K (s / 4)) = true → Y (k + 1) s = 100 * Y k s) (h2 : ∀ k s, ¬ isE (K (s / 4)) = true → Y (k + 1) s = 10 * bw W H K w (Y k) s) : ∀ k s v, Y k s = mW W H K w hd l 0 k s v := by
  intro k
  induction k with
  | zero => intro s v; unfold mW; exact h0 s
  | succ k ih =>
    intro s v
    rw [mW]
    by_cases he : isE (K (s / 4)) = true
    · rw [if_pos he, h1 k s he, ih s v]
    · rw [if_neg he, if_pos (Or.inl rfl), h2 k s he, wm3, bw_eq (fun r => ih r v)]
theorem V0 (he : ¬ isE (K (s0 / 4)) = true) : V W H K w hd e fs fa (k + 1) s0 0 = (10 * bw W H K w (fun r => (V W H K w hd e fs fa k r 0).1) s0 + fs * 100 ^ (k + 1), 10 * bw W H K w (fun r => (V W H K w hd e fs fa k r 0).2.1) s0, 3) := by
  rw [V, if_neg he, if_pos rfl]
  unfold base
  rw [Nat.zero_min]
theorem V_home (k s v : Nat) : (V W H K w hd e fs fa k s 0).2.1 = mW W H K w hd (lay K 0) 0 k s v := by
  refine mW_lin (fun k s => (V W H K w hd e fs fa k s 0).2.1) (fun s => ?_) (fun k s he => ?_) (fun k s he => ?_) k s v
  · unfold V lay
    simp
  · show (V W H K w hd e fs fa (k + 1) s 0).2.1 = 100 * (V W H K w hd e fs fa k s 0).2.1
    rw [(V_e he 0).2, (V_e he 0).2, Int.pow_succ, ← Int.mul_assoc, Int.mul_comm]
  · show (V W H K w hd e fs fa (k + 1) s 0).2.1 = _
    rw [V0 he]
theorem V_sunk (hw : w 0 + w 1 + w 2 = 10) (hl : ∀ c, e c = 1 - lay K 1 c) (k s v : Nat) : (V W H K w hd e 0 0 k s 0).1 = 100 ^ k - mW W H K w hd (lay K 1) 0 k s v := by
  have := mW_lin (W := W) (H := H) (K := K) (w := w) (hd := hd) (l := lay K 1) (fun k s => 100 ^ k - (V W H K w hd e 0 0 k s 0).1) (fun s => ?_) (fun k s he => ?_) (fun k s he => ?_) k s v
  · have h : 100 ^ k - (V W H K w hd e 0 0 k s 0).1 = mW W H K w hd (lay K 1) 0 k s v := this
    omega
  · try simp only
    unfold V
    try simp only
    rw [hl, Int.pow_zero]; omega
  · try simp only
    rw [(V_e he 0).1, (V_e he 0).1, Int.pow_succ, ← Int.mul_assoc, Int.mul_sub, Int.mul_comm (100 ^ k) 100, Int.mul_comm (e _ * 100 ^ k) 100]
  · try simp only
    rw [V0 he]
    try simp only
    have : bw W H K w (fun r => 100 ^ k - (V W H K w hd e 0 0 k r 0).1) s = 10 * 100 ^ k - bw W H K w (fun r => (V W H K w hd e 0 0 k r 0).1) s := by
      have hs : (10 : Int) * 100 ^ k = (w 0 : Nat) * 100 ^ k + (w 1 : Nat) * 100 ^ k + (w 2 : Nat) * 100 ^ k := by
        rw [← Int.add_mul, ← Int.add_mul]
        congr 1
        omega
      rw [hs]
      unfold bw
      simp only [Int.mul_sub]
      omega
    rw [this, Int.pow_succ, Int.zero_mul]
    omega
end VL
