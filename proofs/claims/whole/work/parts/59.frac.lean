section FR
variable {W H B n : Nat} {I I' : MI} {L : ML} {R : MR} {p : Bool} {fe : Nat}
/-- longs that are whole numbers of either sign -/
def iL (z : Int) : Int64 := Int64.ofInt z
def B63 (z : Int) : Prop := -9000000000000000000 ≤ z ∧ z ≤ 9000000000000000000
theorem iL_t {z : Int} (h : B63 z) : (iL z).toInt = z := Int64.toInt_ofInt_of_le (by have := h.1; omega) (by have := h.2; omega)
theorem iL_add (a b : Int) : iL a + iL b = iL (a + b) := (Int64.ofInt_add a b).symm
theorem iL_sub (a b : Int) : iL a - iL b = iL (a - b) := (Int64.ofInt_sub a b).symm
theorem iL_mul (a b : Int) : iL a * iL b = iL (a * b) := (Int64.ofInt_mul a b).symm
theorem iL_neg (a : Int) : -iL a = iL (-a) := (Int64.ofInt_neg a).symm
theorem wI_w {I : MI} {a k : Nat} {v w : Int32} : wI (wI I a k v) a k w = wI I a k w := by
  funext b j
  simp only [wI]
  split <;> rfl
theorem iL_N (n : Nat) : lN n = iL (n : Int) := Int64.ofInt_eq_ofNat.symm
theorem iL_0 : (0 : Int64) = iL 0 := rfl
theorem iL_le {a b : Int} (ha : B63 a) (hb : B63 b) : iL a ≤ iL b ↔ a ≤ b := by
  rw [Int64.le_iff_toInt_le, iL_t ha, iL_t hb]
theorem iL_lt {a b : Int} (ha : B63 a) (hb : B63 b) : iL a < iL b ↔ a < b := by
  rw [Int64.lt_iff_toInt_lt, iL_t ha, iL_t hb]
theorem iL_eq {a b : Int} (ha : B63 a) (hb : B63 b) : iL a = iL b ↔ a = b := by
  rw [← Int64.toInt_inj, iL_t ha, iL_t hb]
theorem iL_div {a b : Int} (ha : B63 a) (hb : B63 b) : iL a / iL b = iL (a.tdiv b) :=
  (Int64.ofInt_tdiv (by have : Int64.minValue.toInt = -9223372036854775808 := rfl
                        have := ha.1; omega) (by have : Int64.maxValue.toInt = 9223372036854775807 := rfl
                                                 have := ha.2; omega) (by have : Int64.minValue.toInt = -9223372036854775808 := rfl
                                                                          have := hb.1; omega) (by have : Int64.maxValue.toInt = 9223372036854775807 := rfl
                                                                                                   have := hb.2; omega)).symm
theorem iL_rem {a b : Int} (ha : B63 a) (hb : B63 b) : lrm (iL a) (iL b) = iL (a.tmod b) := by
  unfold lrm
  rw [iL_div ha hb, iL_mul, iL_sub]
  congr 1
  have := Int.tmod_add_mul_tdiv a b
  rw [Int.mul_comm] at this
  omega
theorem iL_ab {a : Int} (ha : B63 a) : ifb (0 ≤ lg_cmp (iL a) 0) (some (iL a)) (some (-iL a)) = some (lN a.natAbs) := by
  by_cases h : 0 ≤ a
  · rw [ifb_pos (by rw [lg_cmp_ge, iL_0, iL_le (by unfold B63; omega) ha]; exact h), iL_N]
    congr 2; omega
  · rw [ifb_neg (by rw [lg_cmp_ge, iL_0, iL_le (by unfold B63; omega) ha]; exact h), iL_N, iL_neg]
    congr 2; omega
theorem iL_abs {a : Int} (ha : B63 a) : f_JMath_abs_J (iL a) = some (lN a.natAbs) := by
  unfold f_JMath_abs_J
  rw [iL_ab ha, bnd1_c]
theorem com_c : ∀ k (a b : Int) rd c f, b.natAbs < 2 ^ k → B63 a → B63 b → 2 * k < rd → 2 * k < f → c + 2 * k ≤ 200 →
    f_Mod_common rd (iL a) (iL b) = some (lN (Nat.gcd a.natAbs b.natAbs)) ∧ l_Numbers_commonDivisor_9 f (lN a.natAbs) (lN b.natAbs) (nI c) = some (lN (Nat.gcd a.natAbs b.natAbs)) := by
  intro k
  have t0 : B63 0 := by unfold B63; omega
  have base : ∀ (a : Int) rd c f, B63 a → 0 < rd → 0 < f →
    f_Mod_common rd (iL a) (iL 0) = some (lN (Nat.gcd a.natAbs 0)) ∧ l_Numbers_commonDivisor_9 f (lN a.natAbs) (lN 0) (nI c) = some (lN (Nat.gcd a.natAbs 0)) := by
    intro a rd c f ha hrd hf
    obtain ⟨rd, rfl⟩ : ∃ g', rd = g' + 1 := ⟨rd - 1, by omega⟩
    obtain ⟨f, rfl⟩ : ∃ g', f = g' + 1 := ⟨f - 1, by omega⟩
    constructor
    · rw [f_Mod_common, ifb_pos (show lg_cmp (iL 0) 0 = 0 from (lg_cmp_eq _ _).mpr rfl), iL_abs ha, bnd1_c, bnd1_c, Nat.gcd_zero_right]
    · rw [l_Numbers_commonDivisor_9, ifb_pos (show lg_cmp (lN 0) 0 = 0 from (lg_cmp_eq _ _).mpr rfl), Nat.gcd_zero_right]
  have stp : ∀ (a b : Int) rd c f, b.natAbs ≠ 0 → B63 a → B63 b → c < 200 → f_Mod_common (rd + 1) (iL a) (iL b) = f_Mod_common rd (iL b) (iL (a.tmod b)) ∧ l_Numbers_commonDivisor_9 (f + 1) (lN a.natAbs) (lN b.natAbs) (nI c) = l_Numbers_commonDivisor_9 f (lN b.natAbs) (lN (a.natAbs % b.natAbs)) (nI (c + 1)) := by
    intro a b rd c f hb0 ha hb hc
    have hz : ¬ iL b = 0 := by rw [iL_0, iL_eq hb t0]; omega
    have hz' : ¬ lN b.natAbs = 0 := by
      rw [iL_N, iL_0, iL_eq (by unfold B63 at *; omega) t0]; omega
    constructor
    · rw [f_Mod_common, ifb_neg (by rw [lg_cmp_eq]; exact hz), asrt_pos hz, iL_rem ha hb]
      cases f_Mod_common rd (iL b) (iL (a.tmod b)) <;> rfl
    · rw [l_Numbers_commonDivisor_9, ifb_neg (by rw [lg_cmp_eq]; exact hz'), ifb_neg (by rw [show (200 : Int32) = nI 200 from rfl, le32 (by omega) (by omega)]; omega), asrt_pos hz']
      unfold lrm
      rw [pk_lRem (by unfold B63 at *; omega) (by omega) (by unfold B63 at *; omega), lt_c, nI_1]
  have tm : ∀ a b : Int, (a.tmod b).natAbs = a.natAbs % b.natAbs := fun a b => Int.natAbs_tmod a b
  have tb : ∀ a b : Int, B63 a → B63 (a.tmod b) := by
    intro a b ha
    have h1 := tm a b
    have h2 := Nat.mod_le a.natAbs b.natAbs
    unfold B63 at *; omega
  induction k with
  | zero =>
    intro a b rd c f h ha hb h1 h2 h3
    have : b = 0 := by rw [Nat.pow_zero] at h; omega
    subst this
    exact base a rd c f ha (by omega) (by omega)
  | succ k ih =>
    intro a b rd c f h ha hb h1 h2 h3
    by_cases hb0 : b.natAbs = 0
    · have : b = 0 := by omega
      subst this
      exact base a rd c f ha (by omega) (by omega)
    obtain ⟨rd, rfl⟩ : ∃ g', rd = g' + 1 := ⟨rd - 1, by omega⟩
    obtain ⟨f, rfl⟩ : ∃ g', f = g' + 1 := ⟨f - 1, by omega⟩
    rw [(stp a b rd c f hb0 ha hb (by omega)).1, (stp a b rd c f hb0 ha hb (by omega)).2]
    have e1 := tm a b
    have hr := Nat.mod_lt a.natAbs (Nat.pos_of_ne_zero hb0)
    have hg : Nat.gcd a.natAbs b.natAbs = Nat.gcd b.natAbs (a.natAbs % b.natAbs) := by rw [Nat.gcd_comm, Nat.gcd_rec, Nat.gcd_comm]
    by_cases hr0 : a.natAbs % b.natAbs = 0
    · have hz : a.tmod b = 0 := by omega
      rw [hg, hr0, hz]
      exact base b rd (c + 1) f hb (by omega) (by omega)
    obtain ⟨rd, rfl⟩ : ∃ g', rd = g' + 1 := ⟨rd - 1, by omega⟩
    obtain ⟨f, rfl⟩ : ∃ g', f = g' + 1 := ⟨f - 1, by omega⟩
    have hs := stp b (a.tmod b) rd (c + 1) f (by omega) hb (tb a b ha) (by omega)
    rw [tm a b] at hs
    rw [hs.1, hs.2, hg]
    have hg2 : Nat.gcd b.natAbs (a.natAbs % b.natAbs) = Nat.gcd (a.natAbs % b.natAbs) (b.natAbs % (a.natAbs % b.natAbs)) := by rw [Nat.gcd_comm, Nat.gcd_rec, Nat.gcd_comm]
    have hhalf : b.natAbs % (a.natAbs % b.natAbs) < 2 ^ k := by
      rw [Nat.pow_succ] at h
      have hl := Nat.mod_lt b.natAbs (Nat.pos_of_ne_zero hr0)
      by_cases hc : 2 * (a.natAbs % b.natAbs) ≤ b.natAbs
      · omega
      · rw [Nat.mod_eq_sub_mod (by omega), Nat.mod_eq_of_lt (by omega)]; omega
    have := ih (a.tmod b) (b.tmod (a.tmod b)) rd (c + 1 + 1) f (by rw [tm, tm]; exact hhalf) (tb a b ha) (tb _ _ hb) (by omega) (by omega) (by omega)
    rw [tm, tm, tm] at this
    rw [hg2]
    exact this
/-- a fraction n / d on both sides -/
theorem frac_c {g : Nat} (hg : 200 ≤ g) {u d : Int} (hu : B63 u) (hd : B63 d) (hd0 : 0 < d) :
    ∃ x y, (∀ p fe R I L i, RG p fe R → I 3 1 = nI i → i < 15 → f_Numbers_addFraction g S1 R I L 3 (iL u) (iL d) = some (wI I 3 1 (nI (i + 2)), wL (wL L 4 i x) 4 (i + 1) y)) ∧ ∀ p fe R J M j, RG p fe R → J 90 1 = nI j → j < 19 → f_Mod_entersFraction S1 R J M 90 (iL u) (iL d) = some (wI J 90 1 (nI (j + 2)), wL (wL M 91 j x) 91 (j + 1) y) := by
  have hk := com_c 64 u d 200 0 g (by unfold B63 at *; omega) hu hd (by omega) (by omega) (by omega)
  have hp : 0 < Nat.gcd u.natAbs d.natAbs := Nat.gcd_pos_of_pos_right _ (by omega)
  have hle : Nat.gcd u.natAbs d.natAbs ≤ d.natAbs := Nat.le_of_dvd (by omega) (Nat.gcd_dvd_right _ _)
  have hb : B63 (Nat.gcd u.natAbs d.natAbs : Nat) := by unfold B63 at *; omega
  have hz : ¬ lN (Nat.gcd u.natAbs d.natAbs) = 0 := by
    rw [iL_N, iL_0, iL_eq hb (by unfold B63; omega)]; omega
  refine ⟨iL u / lN (Nat.gcd u.natAbs d.natAbs), iL d / lN (Nat.gcd u.natAbs d.natAbs), fun p fe R I L i hR h hi => ?_, fun p fe R J M j hR h' hj => ?_⟩
  · unfold f_Numbers_addFraction f_Numbers_commonDivisor
    have h2 : l_Numbers_commonDivisor_9 g (lN u.natAbs) (iL d) 0 = some (lN (Nat.gcd u.natAbs d.natAbs)) := by
      have := hk.2
      rw [show lN d.natAbs = iL d by rw [iL_N]; congr 1; omega] at this
      exact this
    rw [iL_ab hu, bnd1_c, h2, bnd1_c, bnd1_c, ifb_neg (by rw [lg_cmp_le, iL_N, iL_0, iL_le hb (by unfold B63; omega)]; omega), asrt_pos hz, add_c hR h (by omega), bnd2_c, asrt_pos hz, add_c hR wI_s (by omega), bnd2_c, bnd2_c, wI_w]
  · unfold f_Mod_entersFraction
    rw [hk.1, bnd1_c, asrt_pos hz, enters_c hR h' (by omega), bnd2_c, asrt_pos hz, enters_c hR wI_s (by omega), bnd2_c, wI_w]
end FR
