section GD
variable {W H m s0 n k vo hd fb : Nat} {K w : Nat → Nat} {e : Nat → Int} {fs fa : Int} {o d : Nat → Nat} {I I' : MI} {L L' : ML} {R : MR} {p : Bool} {fe : Nat}
/-! the worth of a stance, k steps left, v calls left: what it pays and its luck -/
def bw (W H : Nat) (K w : Nat → Nat) (A : Nat → Int) (s : Nat) : Int := (w 0 : Nat) * A (aft W H K s 0) + (w 1 : Nat) * A (aft W H K s 1) + (w 2 : Nat) * A (aft W H K s 2)
def pick (a b : Int × Int × Nat) : Int × Int × Nat := if a.1 < b.1 then b else if a.1 = b.1 then (if a.2.1 < b.2.1 then b else a) else a
def cand (W H : Nat) (K w : Nat → Nat) (hd : Nat) (fs fa : Int) (P : Nat → Nat → Int × Int × Nat) (k s v t : Nat) : Int × Int × Nat :=
  ((10 - (hd : Int)) * bw W H K w (fun r => (P r (v - 1)).1) s + 10 * (hd : Int) * (P (aft W H K s t) (v - 1)).1 + (fs + fa) * 100 ^ (k + 1), (10 - (hd : Int)) * bw W H K w (fun r => (P r (v - 1)).2.1) s + 10 * (hd : Int) * (P (aft W H K s t) (v - 1)).2.1, t)
def base (W H : Nat) (K w : Nat → Nat) (fs : Int) (P : Nat → Nat → Int × Int × Nat) (k s v : Nat) : Int × Int × Nat :=
  (10 * bw W H K w (fun r => (P r (min v k)).1) s + fs * 100 ^ (k + 1), 10 * bw W H K w (fun r => (P r (min v k)).2.1) s, 3)
def V (W H : Nat) (K w : Nat → Nat) (hd : Nat) (e : Nat → Int) (fs fa : Int) : Nat → Nat → Nat → Int × Int × Nat
  | 0, s, _ => (e (s / 4), if K (s / 4) = 3 then 1 else 0, 3)
  | k + 1, s, v => if isE (K (s / 4)) = true then (e (s / 4) * 100 ^ (k + 1), if K (s / 4) = 3 then 100 ^ (k + 1) else 0, 3) else
    if v = 0 then base W H K w fs (V W H K w hd e fs fa k) k s v else
      pick (pick (pick (base W H K w fs (V W H K w hd e fs fa k) k s v) (cand W H K w hd fs fa (V W H K w hd e fs fa k) k s v 0)) (cand W H K w hd fs fa (V W H K w hd e fs fa k) k s v 1)) (cand W H K w hd fs fa (V W H K w hd e fs fa k) k s v 2)
theorem p100 (k : Nat) : (0 : Int) < 100 ^ k := Int.pow_pos (by decide)
theorem mulB {x a X : Int} (hx : 0 ≤ x) (h1 : -X ≤ a) (h2 : a ≤ X) : -(x * X) ≤ x * a ∧ x * a ≤ x * X := by
  have a1 := Int.mul_le_mul_of_nonneg_left h1 hx
  have a2 := Int.mul_le_mul_of_nonneg_left h2 hx
  rw [Int.mul_neg] at a1
  exact ⟨a1, a2⟩
theorem bwB {A : Nat → Int} {X : Int} (hw : w 0 + w 1 + w 2 = 10) (s : Nat) (h : ∀ t, t < 3 → -X ≤ A (aft W H K s t) ∧ A (aft W H K s t) ≤ X) : -(10 * X) ≤ bw W H K w A s ∧ bw W H K w A s ≤ 10 * X := by
  have h0 := mulB (x := (w 0 : Nat)) (by omega) (h 0 (by omega)).1 (h 0 (by omega)).2
  have h1 := mulB (x := (w 1 : Nat)) (by omega) (h 1 (by omega)).1 (h 1 (by omega)).2
  have h2 := mulB (x := (w 2 : Nat)) (by omega) (h 2 (by omega)).1 (h 2 (by omega)).2
  have hs : (10 : Int) * X = (w 0 : Nat) * X + (w 1 : Nat) * X + (w 2 : Nat) * X := by
    rw [← Int.add_mul, ← Int.add_mul]
    congr 1
    omega
  unfold bw
  omega
def EB (M : Int) (e : Nat → Int) (fs fa : Int) : Prop := 0 ≤ M ∧ (∀ c, -M ≤ e c ∧ e c ≤ M) ∧ (-M ≤ fs ∧ fs ≤ M) ∧ -M ≤ fa ∧ fa ≤ M
def pB (M : Int) (k : Nat) : Int := M * (1 + 2 * (k : Int)) * 100 ^ k
def inP (M : Int) (k : Nat) (z : Int × Int × Nat) : Prop := (-(pB M k) ≤ z.1 ∧ z.1 ≤ pB M k) ∧ (0 ≤ z.2.1 ∧ z.2.1 ≤ 100 ^ k) ∧ z.2.2 ≤ 3
theorem pick_in {M : Int} {a b : Int × Int × Nat} (ha : inP M k a) (hb : inP M k b) : inP M k (pick a b) := by
  unfold pick
  repeat' split
  all_goals assumption
theorem pB_s (M : Int) (k : Nat) : pB M (k + 1) = 100 * pB M k + 2 * (M * 100 ^ (k + 1)) := by
  unfold pB
  rw [Int.pow_succ]
  generalize (100 : Int) ^ k = q
  have : ((k + 1 : Nat) : Int) = (k : Int) + 1 := by omega
  rw [this]
  rw [show 1 + 2 * ((k : Int) + 1) = (1 + 2 * (k : Int)) + 2 by omega, Int.mul_add, Int.add_mul]
  have h1 : M * (1 + 2 * (k : Int)) * (q * 100) = 100 * (M * (1 + 2 * (k : Int)) * q) := by
    rw [← Int.mul_assoc, Int.mul_comm]
  rw [h1]
  have h2 : M * 2 * (q * 100) = 2 * (M * (q * 100)) := by
    rw [Int.mul_comm M 2, Int.mul_assoc]
  rw [h2]
theorem bwB0 {A : Nat → Int} {X : Int} (hw : w 0 + w 1 + w 2 = 10) (s : Nat) (h : ∀ t, t < 3 → 0 ≤ A (aft W H K s t) ∧ A (aft W H K s t) ≤ X) : 0 ≤ bw W H K w A s ∧ bw W H K w A s ≤ 10 * X := by
  have h0 := Int.mul_le_mul_of_nonneg_left (h 0 (by omega)).2 (show (0 : Int) ≤ (w 0 : Nat) by omega)
  have h1 := Int.mul_le_mul_of_nonneg_left (h 1 (by omega)).2 (show (0 : Int) ≤ (w 1 : Nat) by omega)
  have h2 := Int.mul_le_mul_of_nonneg_left (h 2 (by omega)).2 (show (0 : Int) ≤ (w 2 : Nat) by omega)
  have g0 := Int.mul_nonneg (show (0 : Int) ≤ (w 0 : Nat) by omega) (h 0 (by omega)).1
  have g1 := Int.mul_nonneg (show (0 : Int) ≤ (w 1 : Nat) by omega) (h 1 (by omega)).1
  have g2 := Int.mul_nonneg (show (0 : Int) ≤ (w 2 : Nat) by omega) (h 2 (by omega)).1
  have hs : (10 : Int) * X = (w 0 : Nat) * X + (w 1 : Nat) * X + (w 2 : Nat) * X := by
    rw [← Int.add_mul, ← Int.add_mul]
    congr 1
    omega
  unfold bw
  omega
theorem base_in {M : Int} {P : Nat → Nat → Int × Int × Nat} (hE : EB M e fs fa) (hw : w 0 + w 1 + w 2 = 10) (hP : ∀ s v, inP M k (P s v)) (s v : Nat) : inP M (k + 1) (base W H K w fs P k s v) := by
  have a1 := bwB (K := K) (W := W) (H := H) (A := fun r => (P r (min v k)).1) hw s (fun t _ => (hP _ _).1)
  have a2 := bwB0 (K := K) (W := W) (H := H) (A := fun r => (P r (min v k)).2.1) hw s (fun t _ => (hP _ _).2.1)
  have a3 := mulB (x := 100 ^ (k + 1)) (Int.le_of_lt (p100 (k + 1))) hE.2.2.1.1 hE.2.2.1.2
  have h0 := Int.mul_nonneg hE.1 (Int.le_of_lt (p100 (k + 1)))
  rw [Int.mul_comm (100 ^ (k + 1)) M, Int.mul_comm (100 ^ (k + 1)) fs] at a3
  have h4 : (100 : Int) ^ (k + 1) = 100 ^ k * 100 := Int.pow_succ ..
  refine ⟨?_, ?_, Nat.le_refl _⟩
  · rw [pB_s]; unfold base; simp only; omega
  · unfold base; simp only; omega
theorem cand_in {M : Int} {P : Nat → Nat → Int × Int × Nat} (hE : EB M e fs fa) (hw : w 0 + w 1 + w 2 = 10) (hh : hd ≤ 10) (hP : ∀ s v, inP M k (P s v)) (s v : Nat) {t : Nat} (ht : t < 3) : inP M (k + 1) (cand W H K w hd fs fa P k s v t) := by
  have a1 := bwB (K := K) (W := W) (H := H) (A := fun r => (P r (v - 1)).1) hw s (fun t _ => (hP _ _).1)
  have a2 := bwB0 (K := K) (W := W) (H := H) (A := fun r => (P r (v - 1)).2.1) hw s (fun t _ => (hP _ _).2.1)
  have a3 := mulB (x := 100 ^ (k + 1)) (Int.le_of_lt (p100 (k + 1))) hE.2.2.1.1 hE.2.2.1.2
  have a4 := mulB (x := 100 ^ (k + 1)) (Int.le_of_lt (p100 (k + 1))) hE.2.2.2.1 hE.2.2.2.2
  have h0 := Int.mul_nonneg hE.1 (Int.le_of_lt (p100 (k + 1)))
  rw [Int.mul_comm (100 ^ (k + 1)) M, Int.mul_comm (100 ^ (k + 1)) fs] at a3
  rw [Int.mul_comm (100 ^ (k + 1)) M, Int.mul_comm (100 ^ (k + 1)) fa] at a4
  have h4 : (100 : Int) ^ (k + 1) = 100 ^ k * 100 := Int.pow_succ ..
  have b1 := mulB (x := 10 - (hd : Int)) (by omega) a1.1 a1.2
  have b2 := mulB (x := 10 * (hd : Int)) (by omega) (hP (aft W H K s t) (v - 1)).1.1 (hP (aft W H K s t) (v - 1)).1.2
  have b3 := Int.mul_le_mul_of_nonneg_left a2.2 (show (0 : Int) ≤ 10 - (hd : Int) by omega)
  have b4 := Int.mul_nonneg (show (0 : Int) ≤ 10 - (hd : Int) by omega) a2.1
  have b5 := Int.mul_le_mul_of_nonneg_left (hP (aft W H K s t) (v - 1)).2.1.2 (show (0 : Int) ≤ 10 * (hd : Int) by omega)
  have b6 := Int.mul_nonneg (show (0 : Int) ≤ 10 * (hd : Int) by omega) (hP (aft W H K s t) (v - 1)).2.1.1
  have q1 : ∀ X : Int, (10 - (hd : Int)) * (10 * X) + 10 * (hd : Int) * X = 100 * X := by
    intro X
    rw [← Int.mul_assoc, ← Int.add_mul]
    congr 1
    omega
  have q2 := q1 (pB M k)
  have q3 := q1 (100 ^ k)
  refine ⟨?_, ?_, by unfold cand; simp only; omega⟩
  · rw [pB_s]; unfold cand; simp only; rw [Int.add_mul]; omega
  · unfold cand; simp only; omega
theorem V_in {M : Int} (hE : EB M e fs fa) (hw : w 0 + w 1 + w 2 = 10) (hh : hd ≤ 10) : ∀ k s v, inP M k (V W H K w hd e fs fa k s v) := by
  intro k
  induction k with
  | zero =>
    intro s v
    have := hE.2.1 (s / 4)
    refine ⟨?_, ?_, Nat.le_refl _⟩
    · unfold V pB; simp only [Int.pow_zero]; omega
    · unfold V; simp only; split <;> simp
  | succ k ih =>
    intro s v
    have hb := fun s v => base_in (W := W) (H := H) (K := K) hE hw ih s v
    have hc := fun s v t (ht : t < 3) => cand_in (W := W) (H := H) (K := K) hE hw hh ih s v ht
    unfold V
    split
    · have h1 := mulB (x := 100 ^ (k + 1)) (Int.le_of_lt (p100 (k + 1))) (hE.2.1 (s / 4)).1 (hE.2.1 (s / 4)).2
      rw [Int.mul_comm (100 ^ (k + 1)) M, Int.mul_comm (100 ^ (k + 1)) (e _)] at h1
      have h2 := p100 (k + 1)
      have h3 := Int.mul_nonneg (Int.mul_nonneg hE.1 (show (0 : Int) ≤ 1 + 2 * (k : Int) by omega)) (Int.le_of_lt (p100 k))
      have h4 := Int.mul_nonneg hE.1 (Int.le_of_lt h2)
      refine ⟨?_, ?_, Nat.le_refl _⟩
      · rw [pB_s]; unfold pB; simp only; omega
      · simp only; split <;> omega
    · split
      · exact hb s v
      · exact pick_in (pick_in (pick_in (hb s v) (hc s v 0 (by omega))) (hc s v 1 (by omega))) (hc s v 2 (by omega))
end GD
