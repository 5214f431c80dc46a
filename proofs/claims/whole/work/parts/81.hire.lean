section HI
variable {W H n B r h i j s k : Nat} {K y : Nat → Nat} {I I' J : MI} {L L' : ML} {R : MR} {p : Bool} {fe : Nat} {mu : Int32} {F : Nat → Int}
/-! who is hired by whom: one search, one table, the same value and the same least row -/
theorem iI_t {z : Int} (h : -2000000000 ≤ z ∧ z ≤ 2000000000) : (iI z).toInt = z := Int32.toInt_ofInt_of_le (by omega) (by omega)
theorem iI_N (n : Nat) : nI n = iI (n : Int) := Int32.ofInt_eq_ofNat.symm
theorem iI_le {a b : Int} (ha : -2000000000 ≤ a ∧ a ≤ 2000000000) (hb : -2000000000 ≤ b ∧ b ≤ 2000000000) : iI a ≤ iI b ↔ a ≤ b := by
  rw [Int32.le_iff_toInt_le, iI_t ha, iI_t hb]
theorem iI_lt {a b : Int} (ha : -2000000000 ≤ a ∧ a ≤ 2000000000) (hb : -2000000000 ≤ b ∧ b ≤ 2000000000) : iI a < iI b ↔ a < b := by
  rw [Int32.lt_iff_toInt_lt, iI_t ha, iI_t hb]
theorem iI_eq {a b : Int} (ha : -2000000000 ≤ a ∧ a ≤ 2000000000) (hb : -2000000000 ≤ b ∧ b ≤ 2000000000) : iI a = iI b ↔ a = b := by
  rw [← Int32.toInt_inj, iI_t ha, iI_t hb]
theorem mxI_c {a b : Int} (ha : -2000000000 ≤ a ∧ a ≤ 2000000000) (hb : -2000000000 ≤ b ∧ b ≤ 2000000000) : f_JMath_max_II (iI a) (iI b) = some (iI (max a b)) := by
  unfold f_JMath_max_II
  by_cases h : a < b
  · rw [ifb_pos ((iI_lt ha hb).mpr h), bnd1_c, Int.max_eq_right (by omega)]
  · rw [ifb_neg (fun z => h ((iI_lt ha hb).mp z)), bnd1_c, Int.max_eq_left (by omega)]
def val (y : Nat → Nat) (mu : Int32) (i k : Nat) : Nat := if nI i = mu then 0 else y (5 * i + k)
def mxF (F : Nat → Int) (h : Nat) : Nat → Int
  | 0 => -1
  | j + 1 => if h.testBit j = true then mxF F h j else max (mxF F h j) (F j)
def agF (F : Nat → Int) (h : Nat) : Nat → Nat
  | 0 => 0
  | j + 1 => if h.testBit j = true then agF F h j else if mxF F h j < F j then j else agF F h j
def bv (n : Nat) (y : Nat → Nat) (mu : Int32) : Nat → Nat → Int
  | 0, _ => 0
  | r + 1, h => mxF (fun i => (val y mu i (n - (r + 1)) : Int) + bv n y mu r (h ||| 2 ^ i)) h n
def FvH (n : Nat) (y : Nat → Nat) (mu : Int32) (r h i : Nat) : Int := (val y mu i (n - (r + 1)) : Int) + bv n y mu r (h ||| 2 ^ i)
theorem bv_s : bv n y mu (r + 1) h = mxF (FvH n y mu r h) h n := rfl
def rwv (n : Nat) (y : Nat → Nat) (mu : Int32) : Nat → Nat → Nat → Nat
  | 0, _, _ => 0
  | r + 1, h, j => if j = 0 then agF (FvH n y mu r h) h n else rwv n y mu r (h ||| 2 ^ agF (FvH n y mu r h) h n) (j - 1)
def fkH (n h i : Nat) : Bool := !(decide (h < 2 ^ n) && decide (i < n) && !h.testBit i) || (decide (h ||| 2 ^ i < 2 ^ n) && decide (pc5 (h ||| 2 ^ i) = pc5 h + 1) && decide (h < h ||| 2 ^ i))
theorem fnH1k : ∀ n, n < 6 → ∀ h, h < 32 → ∀ i, i < 5 → fkH n h i = true := by decide +kernel
theorem fnH1 (n : Nat) (hn : n < 6) (h : Nat) (h32 : h < 32) (hh : h < 2 ^ n) (i : Nat) (hi : i < n) (hb : h.testBit i = false) : h ||| 2 ^ i < 2 ^ n ∧ pc5 (h ||| 2 ^ i) = pc5 h + 1 ∧ h < h ||| 2 ^ i := by
  have := fnH1k n hn h h32 i (by omega)
  unfold fkH at this
  rw [decide_eq_true hh, decide_eq_true hi, hb, show (!(true && true && !false)) = false from rfl, Bool.false_or, Bool.and_eq_true, Bool.and_eq_true, decide_eq_true_eq, decide_eq_true_eq, decide_eq_true_eq] at this
  exact ⟨this.1.1, this.1.2, this.2⟩
theorem fnH2k : ∀ n, n < 6 → ∀ h, h < 32 → (h < 2 ^ n ∧ pc5 h < n → (List.range n).any (fun i => !h.testBit i) = true) := by decide +kernel
theorem fnH2 (n : Nat) (hn : n < 6) (h : Nat) (h32 : h < 32) (hh : h < 2 ^ n) (hp : pc5 h < n) : (List.range n).any (fun i => !h.testBit i) = true := fnH2k n hn h h32 ⟨hh, hp⟩
def fkJ (n h i : Nat) : Bool := !decide (h < 2 ^ n) || (decide (pc5 h ≤ n) && (!(decide (pc5 h = n) && decide (i < n)) || h.testBit i))
theorem fnH3k : ∀ n, n < 6 → ∀ h, h < 32 → ∀ i, i < 5 → fkJ n h i = true := by decide +kernel
theorem fnH3 (n : Nat) (hn : n < 6) (h : Nat) (h32 : h < 32) (hh : h < 2 ^ n) : pc5 h ≤ n ∧ (pc5 h = n → ∀ i, i < n → h.testBit i = true) := by
  have key := fun i hi => fnH3k n hn h h32 i hi
  unfold fkJ at key
  rw [decide_eq_true hh] at key
  simp only [Bool.not_true, Bool.false_or, Bool.and_eq_true, decide_eq_true_eq] at key
  refine ⟨(key 0 (by omega)).1, fun e i hi => ?_⟩
  have := (key i (by omega)).2
  rw [decide_eq_true e, decide_eq_true hi] at this
  simpa using this
theorem fnH4 : ∀ i, i < 5 → ∀ h, h < 32 → (h ||| 2 ^ i = h ↔ h.testBit i = true) ∧ h ||| 2 ^ i < 32 := by decide +kernel
theorem fnH5 : ∀ n, n < 6 → 2 ^ n ≤ 32 := by decide +kernel
theorem mxF_ge : ∀ j i, i < j → h.testBit i = false → F i ≤ mxF F h j := by
  intro j
  induction j with
  | zero => intro i hi; omega
  | succ j ih =>
    intro i hi hb
    rw [mxF]
    by_cases e : i = j
    · subst e
      rw [if_neg (by rw [hb]; decide)]
      exact Int.le_max_right _ _
    · have := ih i (by omega) hb
      split
      · exact this
      · exact Int.le_trans this (Int.le_max_left _ _)
theorem mxF_m1 : ∀ j, -1 ≤ mxF F h j := by
  intro j
  induction j with
  | zero => exact Int.le_refl _
  | succ j ih =>
    rw [mxF]
    split
    · exact ih
    · exact Int.le_trans ih (Int.le_max_left _ _)
theorem mxF_le {M : Int} (hM : -1 ≤ M) : ∀ j, (∀ i, i < j → h.testBit i = false → F i ≤ M) → mxF F h j ≤ M := by
  intro j
  induction j with
  | zero => intro _; exact hM
  | succ j ih =>
    intro hF
    have h1 := ih (fun i hi => hF i (by omega))
    rw [mxF]
    split
    · exact h1
    · rename_i hb
      have h2 := hF j (by omega) (by simpa using hb)
      omega
theorem mxF_all : ∀ j, (∀ i, i < j → h.testBit i = true) → mxF F h j = -1 := by
  intro j
  induction j with
  | zero => intro _; rfl
  | succ j ih => intro hF; rw [mxF, if_pos (hF j (by omega))]; exact ih (fun i hi => hF i (by omega))
theorem agF_ok : ∀ j, 0 ≤ mxF F h j → agF F h j < j ∧ h.testBit (agF F h j) = false ∧ F (agF F h j) = mxF F h j ∧ ∀ i, i < agF F h j → h.testBit i = false → F i < mxF F h j := by
  intro j
  induction j with
  | zero => intro z; exact absurd (show (0 : Int) ≤ -1 from z) (by decide)
  | succ j ih =>
    intro h0
    rw [mxF] at h0 ⊢
    rw [agF]
    by_cases hb : h.testBit j = true
    · rw [if_pos hb] at h0 ⊢
      rw [if_pos hb]
      obtain ⟨a, b, c, d⟩ := ih h0
      exact ⟨by omega, b, c, d⟩
    · rw [if_neg hb] at h0 ⊢
      rw [if_neg hb]
      have hb' : h.testBit j = false := by simpa using hb
      by_cases hl : mxF F h j < F j
      · rw [if_pos hl, Int.max_eq_right (by omega)]
        exact ⟨by omega, hb', rfl, fun i hi hib => Int.lt_of_le_of_lt (mxF_ge j i hi hib) hl⟩
      · rw [if_neg hl]
        rw [Int.max_eq_left (by omega)] at h0 ⊢
        obtain ⟨a, b, c, d⟩ := ih h0
        exact ⟨by omega, b, c, d⟩
theorem val_le (hy : ∀ k, k < 25 → y k ≤ 99) {i k : Nat} (hi : i < 5) (hk : k < 5) : val y mu i k ≤ 99 := by
  unfold val
  split
  · omega
  · exact hy _ (by omega)
theorem bv_in (hy : ∀ k, k < 25 → y k ≤ 99) (hn : n ≤ 5) : ∀ r h, h < 2 ^ n → pc5 h + r = n → 0 ≤ bv n y mu r h ∧ bv n y mu r h ≤ 99 * r := by
  intro r
  induction r with
  | zero => intro h _ _; exact ⟨Int.le_refl _, Int.le_refl _⟩
  | succ r ih =>
    intro h hh hp
    have h32 := fnH5 n (by omega)
    have hF : ∀ i, i < n → h.testBit i = false → 0 ≤ FvH n y mu r h i ∧ FvH n y mu r h i ≤ 99 * (r + 1 : Nat) := by
      intro i hi hb
      obtain ⟨a, b, -⟩ := fnH1 n (by omega) h (by omega) hh i hi hb
      have := ih (h ||| 2 ^ i) a (by omega)
      have hv := val_le (mu := mu) hy (i := i) (k := n - (r + 1)) (by omega) (by omega)
      unfold FvH
      omega
    rw [bv_s]
    have hu := fnH2 n (by omega) h (by omega) hh (by omega)
    rw [List.any_eq_true] at hu
    obtain ⟨i, hi, hb⟩ := hu
    rw [List.mem_range] at hi
    have hb' : h.testBit i = false := by simpa using hb
    have h1 := mxF_ge (F := FvH n y mu r h) n i hi hb'
    have h2 := hF i hi hb'
    exact ⟨by omega, mxF_le (by omega) n (fun i hi hb => (hF i hi hb).2)⟩
theorem FvH_in (hy : ∀ k, k < 25 → y k ≤ 99) (hn : n ≤ 5) (hh : h < 2 ^ n) (hp : pc5 h + (r + 1) = n) {i : Nat} (hi : i < n) (hb : h.testBit i = false) : 0 ≤ FvH n y mu r h i ∧ FvH n y mu r h i ≤ 99 * (r + 1 : Nat) := by
  have h32 := fnH5 n (by omega)
  obtain ⟨a, b, -⟩ := fnH1 n (by omega) h (by omega) hh i hi hb
  have := bv_in (mu := mu) hy hn r (h ||| 2 ^ i) a (by omega)
  have hv := val_le (mu := mu) hy (i := i) (k := n - (r + 1)) (by omega) (by omega)
  unfold FvH
  omega
/-! the model's search -/
theorem cpyH (hR : RG p fe R) {m : Nat} (hm : m ≤ 5) : ∀ F k (I : MI), k ≤ m → m < k + F → (∀ j, j < k → I 119 j = I 118 j) → ∃ I', l_Mod_hires_23 S1 R 90 (nI m) F I (nI k) = some I' ∧ Fr [(119, none)] I I' ∧ ∀ j, j < m → I' 119 j = I 118 j := by
  intro F
  induction F with
  | zero => intro k I h1 h2; omega
  | succ F ih =>
    intro k I h1 h2 h3
    rw [l_Mod_hires_23]
    by_cases hk : k = m
    · subst hk
      exact ⟨I, by rw [ifb_pos ((le32 (by omega) (by omega)).mpr (Nat.le_refl _))], Fr.rf, h3⟩
    · obtain ⟨I', e, f1, c1⟩ := ih (k + 1) (wI I 119 k (I 118 k)) (by omega) (by omega) (fun j hj => by
        rw [wI_n (a := 119) (b := 118) (by omega)]
        by_cases ej : j = k
        · subst ej; exact wI_s
        · rw [wI_n (by omega)]; exact h3 j (by omega))
      refine ⟨I', ?_, (Fr.w Fr.rf rfl).tr f1, fun j hj => (c1 j hj).trans (wI_n (by omega))⟩
      rw [ifb_neg (by rw [le32 (by omega) (by omega)]; omega), r_90_49 hR, bnd1_c, r_90_48 hR, bnd1_c, t_118, asrt_pos rfl, asrt_pos (vir (by omega) (by omega)), cl32 (by omega), lt_c, t_119, asrt_pos rfl, asrt_pos (vir (by omega) (by omega)), lt_c, nI_1]
      exact e
def fHi : FT := [(118, none), (119, none), (90, some 50)]
def HS (n : Nat) (y : Nat → Nat) (mu : Int32) (r h s k : Nat) (b : Int) (J I : MI) : Prop := (b < s + bv n y mu r h ∧ I 90 50 = iI (s + bv n y mu r h) ∧ (∀ q, q < k → I 119 q = J 118 q) ∧ ∀ q, q < r → I 119 (k + q) = nI (rwv n y mu r h q)) ∨ (s + bv n y mu r h ≤ b ∧ I 90 50 = iI b ∧ ∀ q, I 119 q = J 119 q)
def HT (n : Nat) (y : Nat → Nat) (mu : Int32) (r h s k j : Nat) (b : Int) (J I : MI) : Prop := (0 ≤ mxF (FvH n y mu r h) h j ∧ b < s + mxF (FvH n y mu r h) h j ∧ I 90 50 = iI (s + mxF (FvH n y mu r h) h j) ∧ (∀ q, q < k → I 119 q = J 118 q) ∧ I 119 k = nI (agF (FvH n y mu r h) h j) ∧ ∀ q, q < r → I 119 (k + 1 + q) = nI (rwv n y mu r (h ||| 2 ^ agF (FvH n y mu r h) h j) q)) ∨ ((mxF (FvH n y mu r h) h j < 0 ∨ s + mxF (FvH n y mu r h) h j ≤ b) ∧ I 90 50 = iI b ∧ ∀ q, I 119 q = J 119 q)
theorem hires_c {g : Nat} (hg : 100 ≤ g) (hR : RG p fe R) (hy : ∀ k, k < 25 → y k ≤ 99) (hn : n ≤ 5) : ∀ r rd h s (b : Int) (J : MI), r < rd → h < 2 ^ n → pc5 h + r = n → s ≤ 99 * (n - r) → (-1 ≤ b ∧ b ≤ 1000) → J 90 50 = iI b → (∀ k, k < 25 → J 117 k = nI (y k)) →
    ∃ I', f_Mod_hires g rd S1 R J 90 (nI (n - r)) (nI n) (nI h) (nI s) mu = some I' ∧ Fr fHi J I' ∧ (∀ q, q < n - r → I' 118 q = J 118 q) ∧ HS n y mu r h s (n - r) b J I' := by
  intro r
  induction r with
  | zero =>
    intro rd h s b J hrd hh hp hs hb h50 h117
    cases rd with
    | zero => omega
    | succ rd =>
      rw [f_Mod_hires, Nat.sub_zero, ifb_pos rfl, h50, iI_N]
      by_cases hl : (s : Int) ≤ b
      · refine ⟨J, by rw [ifb_pos ((iI_le (by omega) (by omega)).mpr hl), bnd1_c], Fr.rf, fun q _ => rfl, Or.inr ⟨?_, h50, fun q => rfl⟩⟩
        rw [bv]; omega
      · obtain ⟨I', e, f1, c1⟩ := cpyH (m := n) hR hn g 0 (wI J 90 50 (iI s)) (by omega) (by omega) (fun j hj => by omega)
        refine ⟨I', ?_, (Fr.w Fr.rf rfl).tr (f1.sub rfl), fun q _ => (f1 118 q rfl).trans (wI_n (by omega)), Or.inl ⟨?_, ?_, fun q hq => (c1 q hq).trans (wI_n (by omega)), fun q hq => by omega⟩⟩
        · rw [ifb_neg (fun z => hl ((iI_le (by omega) (by omega)).mp z)), lt_c, show l_Mod_hires_23 S1 R 90 (nI n) g (wI J 90 50 (iI s)) 0 = some I' from e, bnd1_c, bnd1_c]
        · rw [bv]; omega
        · rw [bv, f1 90 50 rfl, wI_s, Int.add_zero]
  | succ r ih =>
    intro rd h s b J hrd hh hp hs hb h50 h117
    have h32 := fnH5 n (by omega)
    cases rd with
    | zero => omega
    | succ rd =>
    have hk5 : n - (r + 1) < 5 := by omega
    have hkr : n - r = n - (r + 1) + 1 := by omega
    have loop : ∀ F j I, j ≤ n → n < j + F → Fr fHi J I → (∀ q, q < n - (r + 1) → I 118 q = J 118 q) → HT n y mu r h s (n - (r + 1)) j b J I →
        ∃ I', l_Mod_hires_53 (f_Mod_hires g rd) S1 R 90 (nI (n - (r + 1))) (nI n) (nI h) (nI s) mu F I (nI j) = some I' ∧ Fr fHi J I' ∧ (∀ q, q < n - (r + 1) → I' 118 q = J 118 q) ∧ HT n y mu r h s (n - (r + 1)) n b J I' := by
      intro F
      induction F with
      | zero => intro j I h1 h2; omega
      | succ F ihF =>
        intro j I h1 h2 hf h118 hst
        rw [l_Mod_hires_53]
        by_cases hj : j = n
        · subst hj
          exact ⟨I, by rw [ifb_pos ((le32 (by omega) (by omega)).mpr (Nat.le_refl _))], hf, h118, hst⟩
        rw [ifb_neg (by rw [le32 (by omega) (by omega)]; omega), has_c _ (by omega), b32_n (by omega), bnd1_c]
        cases hbit : h.testBit j
        rotate_left
        · have hst' : HT n y mu r h s (n - (r + 1)) (j + 1) b J I := by
            unfold HT at hst ⊢
            rw [mxF, agF, if_pos hbit, if_pos hbit]
            exact hst
          obtain ⟨I', e, q⟩ := ihF (j + 1) I (by omega) (by omega) hf h118 hst'
          refine ⟨I', ?_, q⟩
          rw [if_pos rfl, ifb_neg (by decide), bnd1_c, nI_1]
          exact e
        obtain ⟨hn1, hp1, -⟩ := fnH1 n (by omega) h (by omega) hh j (by omega) hbit
        have hFj := FvH_in (mu := mu) hy hn hh hp (i := j) (by omega) hbit
        have hv := val_le (mu := mu) hy (i := j) (k := n - (r + 1)) (by omega) hk5
        have hmx : mxF (FvH n y mu r h) h j ≤ 99 * (r + 1 : Nat) := mxF_le (by omega) j (fun i hi hb => (FvH_in hy hn hh hp (by omega) hb).2)
        have hmm := mxF_m1 (F := FvH n y mu r h) (h := h) j
        obtain ⟨cb, hcb, hcb2, hcb3⟩ : ∃ cb : Int, I 90 50 = iI cb ∧ (-1 ≤ cb ∧ cb ≤ 1000) ∧ ((0 ≤ mxF (FvH n y mu r h) h j ∧ b < s + mxF (FvH n y mu r h) h j ∧ cb = s + mxF (FvH n y mu r h) h j ∧ (∀ q, q < n - (r + 1) → I 119 q = J 118 q) ∧ I 119 (n - (r + 1)) = nI (agF (FvH n y mu r h) h j) ∧ ∀ q, q < r → I 119 (n - (r + 1) + 1 + q) = nI (rwv n y mu r (h ||| 2 ^ agF (FvH n y mu r h) h j) q)) ∨ ((mxF (FvH n y mu r h) h j < 0 ∨ s + mxF (FvH n y mu r h) h j ≤ b) ∧ cb = b ∧ ∀ q, I 119 q = J 119 q)) := by
          rcases hst with ⟨a1, a2, a3, a4⟩ | ⟨a1, a2, a3⟩
          · exact ⟨_, a3, by omega, Or.inl ⟨a1, a2, rfl, a4⟩⟩
          · exact ⟨b, a2, hb, Or.inr ⟨a1, rfl, a3⟩⟩
        have hFv : (s : Int) + FvH n y mu r h j = (s + val y mu j (n - (r + 1)) : Nat) + bv n y mu r (h ||| 2 ^ j) := by unfold FvH; omega
        obtain ⟨I1, e1, f1, g118, gst⟩ := ih rd (h ||| 2 ^ j) (s + val y mu j (n - (r + 1))) cb (wI I 118 (n - (r + 1)) (nI j)) (by omega) hn1 (by omega) (by omega) hcb2 ((wI_n (by omega)).trans hcb) (fun k hk => (wI_n (by omega)).trans ((hf 117 k rfl).trans (h117 k hk)))
        rw [hkr] at e1 g118 gst
        have hst' : HT n y mu r h s (n - (r + 1)) (j + 1) b J I1 := by
          unfold HT
          rw [mxF, agF, if_neg (by rw [hbit]; decide), if_neg (by rw [hbit]; decide)]
          rcases gst with ⟨q1, q2, q3, q4⟩ | ⟨q1, q2, q3⟩
          · rw [← hFv] at q1 q2
            have hlt : mxF (FvH n y mu r h) h j < FvH n y mu r h j := by
              rcases hcb3 with ⟨a1, a2, a3, -⟩ | ⟨a1, a2, -⟩ <;> omega
            have hbF : b < s + FvH n y mu r h j := by
              rcases hcb3 with ⟨a1, a2, a3, -⟩ | ⟨a1, a2, -⟩ <;> omega
            rw [if_pos hlt, Int.max_eq_right (by omega)]
            refine Or.inl ⟨hFj.1, hbF, q2, fun q hq => ?_, ?_, q4⟩
            · rw [q3 q (by omega), wI_n (by omega)]
              exact h118 q hq
            · rw [q3 _ (by omega), wI_s]
          · rw [← hFv] at q1
            rcases hcb3 with ⟨a1, a2, a3, a4, a5, a6⟩ | ⟨a1, a2, a3⟩
            · rw [if_neg (by omega), Int.max_eq_left (by omega)]
              exact Or.inl ⟨a1, a2, by rw [q2, a3], fun q hq => (q3 q).trans ((wI_n (by omega)).trans (a4 q hq)), (q3 _).trans ((wI_n (by omega)).trans a5), fun q hq => (q3 _).trans ((wI_n (by omega)).trans (a6 q hq))⟩
            · exact Or.inr ⟨by omega, by rw [q2, a2], fun q => (q3 q).trans ((wI_n (by omega)).trans (a3 q))⟩
        obtain ⟨I', e, q⟩ := ihF (j + 1) I1 (by omega) (by omega) ((hf.w rfl).tr f1) (fun q hq => (g118 q (by omega)).trans ((wI_n (by omega)).trans (h118 q hq))) hst'
        refine ⟨I', ?_, q⟩
        have hval : ∀ {β : Type} (f : Int32 → Option β), bnd1 (ifb (nI j = mu) (some 0) (bnd1 (R 90 47) fun b33 => lt ((5 * nI j) + nI (n - (r + 1))) fun (x34 : Int32) => asrt ((S1 b33).1 = 20) <| asrt (vp_in x34 (S1 b33).2) <| some (wI I 118 (n - (r + 1)) (nI j) b33 (Int32.toNatClampNeg x34)))) f = f (nI (val y mu j (n - (r + 1)))) := by
          intro β f
          unfold val
          by_cases hmu : nI j = mu
          · rw [ifb_pos hmu, if_pos hmu, bnd1_c]; rfl
          · rw [ifb_neg hmu, if_neg hmu, r_90_47 hR, bnd1_c, show (5 : Int32) = nI 5 from rfl, pk_mul, nI_add, lt_c, t_117, asrt_pos rfl, asrt_pos (vir (by omega) (by omega)), cl32 (by omega), wI_n (by omega), hf 117 _ rfl, h117 _ (by omega), bnd1_c]
        rw [if_neg (by decide), ifb_pos rfl, r_90_48 hR, bnd1_c, t_118, asrt_pos rfl, asrt_pos (vir (by omega) (by omega)), cl32 (by omega), lt_c, hval, isl1_32 j (by omega), nI_or, nI_1, nI_add, e1, bnd1_c, bnd1_c, nI_1]
        exact e
    obtain ⟨I', e, f1, c118, hst⟩ := loop g 0 J (by omega) (by omega) Fr.rf (fun q _ => rfl) (Or.inr ⟨Or.inl (by rw [mxF]; decide), h50, fun q => rfl⟩)
    have hbv := bv_in (mu := mu) hy hn (r + 1) h hh hp
    refine ⟨I', ?_, f1, c118, ?_⟩
    · rw [f_Mod_hires, ifb_neg (by rw [eq32 (by omega) (by omega)]; omega), show l_Mod_hires_53 (f_Mod_hires g rd) S1 R 90 (nI (n - (r + 1))) (nI n) (nI h) (nI s) mu g J 0 = some I' from e, bnd1_c]
    · unfold HS
      rw [bv_s] at hbv ⊢
      rcases hst with ⟨a1, a2, a3, a4, a5, a6⟩ | ⟨a1, a2, a3⟩
      · refine Or.inl ⟨a2, a3, a4, fun q hq => ?_⟩
        rw [rwv]
        by_cases hq0 : q = 0
        · subst hq0
          rw [if_pos rfl]
          exact a5
        · rw [if_neg hq0, ← a6 (q - 1) (by omega), show n - (r + 1) + 1 + (q - 1) = n - (r + 1) + q by omega]
      · exact Or.inr ⟨by omega, a2, a3⟩
theorem hiresBy_c {g : Nat} (hg : 100 ≤ g) (hR : RG p fe R) (hy : ∀ k, k < 25 → y k ≤ 99) (hn : n ≤ 5) (h117 : ∀ k, k < 25 → J 117 k = nI (y k)) (mu : Int32) : ∃ I', f_Mod_hiresBy g S1 R J 90 (nI n) mu = some (iI (bv n y mu n 0), I') ∧ Fr fHi J I' ∧ ∀ q, q < n → I' 119 q = nI (rwv n y mu n 0 q) := by
  have h0 : pc5 0 = 0 := by decide
  obtain ⟨I', e, f1, -, hst⟩ := hires_c (mu := mu) (g := g) hg hR hy hn n 8 0 0 (-1) (wI J 90 50 (-1)) (by omega) (Nat.two_pow_pos n) (by omega) (by omega) (by decide) wI_s (fun k hk => (wI_n (by omega)).trans (h117 k hk))
  have hbv := bv_in (mu := mu) hy hn n 0 (Nat.two_pow_pos n) (by omega)
  rw [Nat.sub_self] at e hst
  rcases hst with ⟨a1, a2, a3, a4⟩ | ⟨a1, a2, a3⟩
  · refine ⟨I', ?_, (Fr.w Fr.rf rfl).tr f1, fun q hq => ?_⟩
    · unfold f_Mod_hiresBy
      rw [lt_c, show f_Mod_hires g 8 S1 R (wI J 90 50 (-1)) 90 0 (nI n) 0 0 mu = some I' from e, bnd1_c, lt_c, a2, show ((0 : Nat) : Int) + bv n y mu n 0 = bv n y mu n 0 by omega]
    · have := a4 q hq
      rw [Nat.zero_add] at this
      exact this
  · omega
end HI
