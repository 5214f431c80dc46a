section LK
variable {W H m s0 n k hd h0 N b c h s B P : Nat} {K w τ : Nat → Nat} {I I' J : MI} {L L' L0 : ML} {R : MR} {p : Bool} {fe : Nat}
/-! the three texts that among() looks through -/
theorem chr_k : ∀ ix, ix < 9 → ∀ j, j < lenS ix → (6 ≤ ix → ((Int32.toUInt32 ((bytS ix j) &&& 255) % 65536).toInt32) = bytS ix j ∧ UInt32.toInt32 (UInt16.toUInt32 (UInt32.toUInt16 (Int32.toUInt32 (bytS ix j)))) = bytS ix j) := by decide +kernel
theorem len_k : ∀ ix, ix < 9 → lenS ix ≤ 4 := by decide +kernel
theorem slen_c {ix : Nat} (h6 : 6 ≤ ix) (h9 : ix < 9) : f_JStr_length ix = some (nI (lenS ix)) := by
  unfold f_JStr_length f_JStr_coder
  rw [asrt_pos ⟨h6, h9⟩, asrt_pos ⟨h6, h9⟩, bnd1_c, lt_c]
  have : ∀ l, l < 5 → isr (Int32.ofNat l) 0 = nI l := by decide +kernel
  have h4 := len_k ix h9
  rw [this _ (by omega)]
theorem schr_c {ix j : Nat} (h6 : 6 ≤ ix) (h9 : ix < 9) (hj : j < lenS ix) : f_JStr_charAt ix (nI j) = some (bytS ix j) := by
  obtain ⟨e1, e2⟩ := chr_k ix h9 j hj h6
  have h4 := len_k ix h9
  unfold f_JStr_charAt f_JStr_isLatin1 f_JSL1_charAt f_JStr_checkIndex f_JPre_checkIndex
  rw [asrt_pos ⟨h6, h9⟩, asrt_pos ⟨h6, h9⟩, bnd1_c, ifb_neg (by decide), asrt_pos ⟨h6, h9⟩, ifb_neg (zn (by omega)), ifb_pos (show nI j < Int32.ofNat (lenS ix) from (lt32 (by omega) (by omega)).mpr hj), bnd1_c, bnd0_at rfl, asrt_pos (vir hj (by omega)), cl32 (by omega), e1, lt_c, asrt_pos e2, bnd1_c, asrt_pos e2]
/-- the first place of a sign, or none -/
def amN (ix : Nat) (x : Int32) : Nat → Int32
  | 0 => -1
  | f + 1 => if bytS ix (lenS ix - (f + 1)) = x then nI (lenS ix - (f + 1)) else amN ix x f
theorem among_c {g ix : Nat} (hg : 10 ≤ g) (h6 : 6 ≤ ix) (h9 : ix < 9) (x : Int32) : f_Mod_among g ix x = some (amN ix x (lenS ix)) := by
  have h4 := len_k ix h9
  have loop : ∀ f F, f ≤ lenS ix → f < F → l_Mod_among_2 ix x F (nI (lenS ix - f)) = some (amN ix x f) := by
    intro f
    induction f with
    | zero =>
      intro F h1 h2
      cases F with
      | zero => omega
      | succ F =>
        rw [l_Mod_among_2, asrt_pos ⟨h6, h9⟩, slen_c h6 h9, bnd1_c, ifb_pos (by rw [le32 (by omega) (by omega)]; omega)]
        rfl
    | succ f ih =>
      intro F h1 h2
      cases F with
      | zero => omega
      | succ F =>
        rw [l_Mod_among_2, asrt_pos ⟨h6, h9⟩, slen_c h6 h9, bnd1_c, ifb_neg (by rw [le32 (by omega) (by omega)]; omega), schr_c h6 h9 (by omega), bnd1_c, amN]
        by_cases e : bytS ix (lenS ix - (f + 1)) = x
        · rw [ifb_pos e, if_pos e]
        · rw [ifb_neg e, if_neg e, nI_1, show lenS ix - (f + 1) + 1 = lenS ix - f by omega]
          exact ih F (by omega) (by omega)
  unfold f_Mod_among
  have := loop (lenS ix) g (Nat.le_refl _) (by omega)
  rw [Nat.sub_self] at this
  exact this
/-! one sign of a text -/
theorem at_c (hR : RG p fe R) (h1 : I 1 1 = nI n) (hn : n ≤ 80) {q : Nat} (hq : q < n) (h2 : I 2 q = nI (τ q)) : f_Signs_at S1 R I 1 (nI q) = some (nI (τ q)) := by
  unfold f_Signs_at
  rw [ifb_neg (zn (by omega)), h1, ifb_neg (by rw [le32 (by omega) (by omega)]; omega), ifb_neg (by rw [show (80 : Int32) = nI 80 from rfl, le32 (by omega) (by omega)]; omega), r_1_0 hR, bnd1_c, t_2, asrt_pos rfl, asrt_pos (vir (by omega) (by omega)), cl32 (by omega), h2, bnd1_c]
theorem at_o (h1 : I 1 1 = nI n) (hn : n ≤ 80) {q : Nat} (hq : n ≤ q) (hq2 : q < 1000) : f_Signs_at S1 R I 1 (nI q) = some (-1) := by
  unfold f_Signs_at
  rw [ifb_neg (zn (by omega)), h1, ifb_pos (by rw [le32 (by omega) (by omega)]; omega), bnd1_c]
/-! walks -/
def trn (τ : Nat) : Nat := if τ = 108 then 0 else if τ = 111 then 1 else if τ = 114 then 2 else 3
def trI (τ : Nat) : Int32 := if trn τ = 3 then -1 else nI (trn τ)
theorem trn_le (t : Nat) : trn t ≤ 3 := by
  unfold trn
  split
  · omega
  · split
    · omega
    · split <;> omega
theorem turnOf_c {t : Nat} (ht : t < 256) : f_GWL_turnOf (nI t) = some (trI t) := by
  unfold f_GWL_turnOf trI trn
  have e : ∀ k, k < 256 → ∀ X Y : Option Int32, ifb (nI t = nI k) X Y = if t = k then X else Y := by
    intro k hk X Y
    by_cases h : t = k
    · rw [ifb_pos (by rw [h]), if_pos h]
    · rw [ifb_neg (fun z => h ((eq32 (by omega) (by omega)).mp z)), if_neg h]
  rw [show (108 : Int32) = nI 108 from rfl, show (111 : Int32) = nI 111 from rfl, show (114 : Int32) = nI 114 from rfl, e _ (by omega), e _ (by omega), e _ (by omega)]
  by_cases h1 : t = 108
  · subst h1; rfl
  by_cases h2 : t = 111
  · subst h2; rfl
  by_cases h3 : t = 114
  · subst h3; rfl
  rw [if_neg h1, if_neg h2, if_neg h3, if_neg h1, if_neg h2, if_neg h3, if_pos rfl]
theorem lor_k : ∀ t, t < 256 → amN 8 (nI t) 3 = trI t := by decide +kernel
theorem among8 {g t : Nat} (hg : 10 ≤ g) (ht : t < 256) : f_Mod_among g 8 (nI t) = some (trI t) := by
  rw [among_c hg (by omega) (by omega), show lenS 8 = 3 from rfl, lor_k t ht]
theorem trI_neg {t : Nat} : trI t < 0 ↔ trn t = 3 := by
  have := trn_le t
  unfold trI
  split
  · rename_i h; exact ⟨fun _ => h, fun _ => by decide⟩
  · rename_i h; exact ⟨fun z => absurd z (zn (by omega)), fun z => absurd z h⟩
theorem trI_m1 {t : Nat} : trI t = -1 ↔ trn t = 3 := by
  have := trn_le t
  unfold trI
  split
  · rename_i h; exact ⟨fun _ => h, fun _ => rfl⟩
  · rename_i h; exact ⟨fun z => absurd z (nIm1 (by omega)), fun z => absurd z h⟩
/-- the first sign of a walk that can't stand there -/
def fbd (τ : Nat → Nat) : Nat → Nat
  | 0 => 0
  | k + 1 => if fbd τ k < k then fbd τ k else if trn (τ k) = 3 then k else k + 1
theorem fbd_ok (τ : Nat → Nat) : ∀ k, fbd τ k ≤ k ∧ (∀ j, j < fbd τ k → trn (τ j) ≠ 3) ∧ (fbd τ k < k → trn (τ (fbd τ k)) = 3) := by
  intro k
  induction k with
  | zero => exact ⟨Nat.le_refl _, fun j hj => absurd hj (Nat.not_lt_zero _), fun h => absurd h (Nat.lt_irrefl _)⟩
  | succ k ih =>
    obtain ⟨h1, h2, h3⟩ := ih
    rw [fbd]
    by_cases e : fbd τ k < k
    · rw [if_pos e]
      exact ⟨by omega, h2, fun _ => h3 e⟩
    · rw [if_neg e]
      have e' : fbd τ k = k := by omega
      rw [e'] at h2
      by_cases e3 : trn (τ k) = 3
      · rw [if_pos e3]
        exact ⟨by omega, h2, fun _ => e3⟩
      · rw [if_neg e3]
        refine ⟨Nat.le_refl _, fun j hj => ?_, fun h => absurd h (Nat.lt_irrefl _)⟩
        by_cases ej : j = k
        · subst ej; exact e3
        · exact h2 j (by omega)
theorem wf_c {g : Nat} (hg : 1000 ≤ g) (hR : RG p fe R) (h1 : I 1 1 = nI n) (hn : n ≤ 80) (hτ : ∀ k, k < n → τ k < 256 ∧ I 2 k = nI (τ k)) : f_GWL_walkFault g S1 R I 0 = some (if fbd τ (min n 30) < min n 30 then nI (fbd τ (min n 30)) else if n ≤ 30 then -1 else 30) := by
  obtain ⟨q1, q2, q3⟩ := fbd_ok τ (min n 30)
  obtain ⟨P, hP⟩ : ∃ P, P = fbd τ (min n 30) := ⟨_, rfl⟩
  rw [← hP] at q1 q2 q3 ⊢
  have loop : ∀ F j, j ≤ P → P < j + F → l_GWL_walkFault_2 S1 R I 0 F (nI j) = some (if P < min n 30 then nI P else if n ≤ 30 then -1 else 30) := by
    intro F
    induction F with
    | zero => intro j a b; omega
    | succ F ih =>
      intro j a b
      rw [l_GWL_walkFault_2, r_0_0 hR, bnd1_c, t_1, asrt_pos rfl, show f_Signs_length S1 I 1 = some (I 1 1) from rfl, bnd1_c, h1]
      by_cases hjn : n ≤ j
      · rw [ifb_pos (by rw [le32 (by omega) (by omega)]; exact hjn), if_neg (by omega), if_pos (by omega)]
      rw [ifb_neg (by rw [le32 (by omega) (by omega)]; exact hjn)]
      by_cases hj30 : j = 30
      · subst hj30
        rw [ifb_pos (show nI 30 = 30 from rfl), if_neg (by omega), if_neg (by omega)]
        rfl
      rw [ifb_neg (by rw [show (30 : Int32) = nI 30 from rfl, eq32 (by omega) (by omega)]; exact hj30), at_c hR h1 hn (by omega) (hτ j (by omega)).2, bnd1_c, turnOf_c (hτ j (by omega)).1, bnd1_c]
      by_cases hjP : j = P
      · subst hjP
        rw [ifb_pos (trI_m1.mpr (q3 (by omega))), if_pos (by omega)]
      · rw [ifb_neg (fun z => q2 j (by omega) (trI_m1.mp z)), nI_1]
        exact ih (j + 1) (by omega) (by omega)
  unfold f_GWL_walkFault
  exact loop g 0 (by omega) (by omega)
theorem ml12 {g : Nat} (hg : 1000 ≤ g) (hR : RG p fe R) {x2 : Int32} (hn : m ≤ 30) (hτ : ∀ k, k < m → τ k < 256 ∧ I 95 k = nI (τ k)) (h19 : I 90 19 = nI m) (h18 : I 90 18 = 0) : ∃ I', l_Mod_look_12 g S1 R 90 x2 g I = some I' ∧ Fr [(90, some 18)] I I' ∧ I' 90 18 = nI (fbd τ m) := by
  obtain ⟨q1, q2, q3⟩ := fbd_ok τ m
  obtain ⟨P, hP⟩ : ∃ P, P = fbd τ m := ⟨_, rfl⟩
  rw [← hP] at q1 q2 q3 ⊢
  have loop : ∀ F j (I : MI), j ≤ P → P < j + F → (∀ k, k < m → τ k < 256 ∧ I 95 k = nI (τ k)) → I 90 19 = nI m → I 90 18 = nI j → ∃ I', l_Mod_look_12 g S1 R 90 x2 F I = some I' ∧ Fr [(90, some 18)] I I' ∧ I' 90 18 = nI P := by
    intro F
    induction F with
    | zero => intro j I a b; omega
    | succ F ih =>
      intro j I a b hτ h19 h18
      rw [l_Mod_look_12, h19, h18]
      by_cases hjm : m ≤ j
      · obtain rfl : j = P := by omega
        exact ⟨I, by rw [ifb_pos (by rw [le32 (by omega) (by omega)]; exact hjm)], Fr.rf, h18⟩
      rw [ifb_neg (by rw [le32 (by omega) (by omega)]; exact hjm), r_90_16 hR, bnd1_c, lt_c, t_95, asrt_pos rfl, asrt_pos (vir (by omega) (by omega)), cl32 (by omega), (hτ j (by omega)).2, among8 (by omega) (hτ j (by omega)).1, bnd1_c]
      by_cases hjP : j = P
      · subst hjP
        exact ⟨I, by rw [ifb_pos (trI_neg.mpr (q3 (by omega)))], Fr.rf, h18⟩
      · obtain ⟨I', e, f1, r⟩ := ih (j + 1) (wI I 90 18 (nI (j + 1))) (by omega) (by omega) (fun k hk => ⟨(hτ k hk).1, (wI_n (by omega)).trans (hτ k hk).2⟩) ((wI_n (by omega)).trans h19) wI_s
        refine ⟨I', ?_, (Fr.w Fr.rf rfl).tr f1, r⟩
        rw [ifb_neg (fun z => q2 j (by omega) (trI_neg.mp z)), nI_1, lt_c, lt_c]
        exact e
  exact loop g 0 I (by omega) (by omega) hτ h19 h18
theorem look_sim {g : Nat} (hg : 1000 ≤ g) (hR : RG p fe R) (hW : 1 ≤ W ∧ W ≤ 6) (hL : LKc W H K I) (hA : LA W H K I) (hM : LM W H K J) (h1 : I 1 1 = nI n) (hn : n ≤ 80) (hτ : ∀ k, k < n → τ k < 256 ∧ I 2 k = nI (τ k) ∧ J 95 k = nI (τ k) ∧ trn (τ k) ≠ 3) {x1 : Int32} : ∀ F i s, i ≤ n → n < i + F → s < 4 * (W * H) →
    ∃ s' i', s' < 4 * (W * H) ∧ l_GWL_look_23 S1 R I 0 x1 F (nI s) (nI i) (nI i) = some (nI s', nI i') ∧ l_Mod_look_83 g S1 R J 90 (nI n) F (nI (s / 4)) (nI (s % 4)) (nI i) = some (nI (s' / 4), nI i') := by
  have hN := hL.N36
  intro F
  induction F with
  | zero => intro i s a b; omega
  | succ F ih =>
    intro i s a b hs
    rw [l_GWL_look_23, l_Mod_look_83, r_0_0 hR, bnd1_c, t_1, asrt_pos rfl, show f_Signs_length S1 I 1 = some (I 1 1) from rfl, bnd1_c, h1]
    by_cases hin : i = n
    · subst hin
      exact ⟨s, i, hs, by rw [ifb_pos (by rw [le32 (by omega) (by omega)]; omega)], by rw [ifb_pos (by rw [le32 (by omega) (by omega)]; omega)]⟩
    have hni : ¬ nI n ≤ nI i := by rw [le32 (by omega) (by omega)]; omega
    rw [ifb_neg hni, ifb_neg hni, r_0_2 hR, bnd1_c, cellOf_c (by omega), bnd1_c, t_60, asrt_pos rfl, endsAt_in hL hR (by omega), bnd1_c, isEnd_in hM hR (by omega), bnd1_c]
    unfold eb
    cases hE : isE (K (s / 4))
    rotate_left
    · exact ⟨s, i, hs, by rw [if_pos rfl, ifb_neg (by decide)], by rw [if_pos rfl, ifb_neg (by decide)]⟩
    obtain ⟨z1, z2, z3, z4⟩ := hτ i (by omega)
    have hl := trn_le (τ i)
    have h4 := @hd3_lt s (trn (τ i))
    have ha := @aft_lt W H K hW s (trn (τ i)) hs
    obtain ⟨s', i', r1, r2, r3⟩ := ih (i + 1) (aft W H K s (trn (τ i))) (by omega) (by omega) ha
    rw [show aft W H K s (trn (τ i)) / 4 = nxt W H K (s / 4) (hd3 s (trn (τ i))) by unfold aft; omega, show aft W H K s (trn (τ i)) % 4 = hd3 s (trn (τ i)) by unfold aft; omega] at r3
    have etr : trI (τ i) = nI (trn (τ i)) := by unfold trI; rw [if_neg z4]
    refine ⟨s', i', r1, ?_, ?_⟩
    · rw [if_neg (by decide), ifb_pos rfl, at_c hR h1 hn (by omega) z2, bnd1_c, turnOf_c z1, bnd1_c, etr, after_c hN.2 hA hR hs (by omega), bnd1_c, nI_1]
      exact r2
    · rw [if_neg (by decide), ifb_pos rfl, r_90_16 hR, bnd1_c, t_95, asrt_pos rfl, asrt_pos (vir (by omega) (by omega)), cl32 (by omega), z3, among8 (by omega) z1, bnd1_c, etr, turned_c (by omega) (by omega), bnd1_c, show (s % 4 + trn (τ i) + 3) % 4 = hd3 s (trn (τ i)) from rfl, cellBy_c hM hR (by omega) h4, bnd1_c, nI_1]
      exact r3
theorem neg_k : ∀ P, P < 100 → ¬ (0 : Int32) ≤ -1 - nI P := by decide +kernel
/-- the fault that a text's end tells: none, or where -/
theorem faultOf_c (h18 : I 90 18 = nI P) (h19 : I 90 19 = nI (min n 30)) (hn : n ≤ 80) (hP : P ≤ min n 30) {gs : Int32} (hg : gs = 0 ∨ gs = 1) : f_Mod_faultOf S1 I 90 (nI n) 30 gs = some (if n ≤ 30 then (if gs = 1 ∧ P = n then 0 else -1 - nI P) else if gs = 1 ∧ P = 30 then -1 - nI 30 else if P < 30 then -1 - nI P else -1 - nI 30) := by
  unfold f_Mod_faultOf
  rw [h18, h19]
  have ey : ∀ X : Int32 → Option Int32, bnd1 (ifb (gs = 0) (some 0) (ifb (nI P = nI (min n 30)) (some 1) (some 0))) X = X (if gs = 1 ∧ P = min n 30 then 1 else 0) := by
    intro X
    rcases hg with rfl | rfl
    · rw [ifb_pos rfl, bnd1_c, if_neg (fun z => absurd z.1 (by decide))]
    · rw [ifb_neg (by decide)]
      by_cases e : P = min n 30
      · rw [ifb_pos (by rw [e]), bnd1_c, if_pos ⟨rfl, e⟩]
      · rw [ifb_neg (fun z => e ((eq32 (by omega) (by omega)).mp z)), bnd1_c, if_neg (fun z => e z.2)]
  rw [ey]
  by_cases hn30 : n ≤ 30
  · rw [ifb_pos (by rw [show (30 : Int32) = nI 30 from rfl, le32 (by omega) (by omega)]; exact hn30), if_pos hn30, Nat.min_eq_left hn30]
    by_cases e : gs = 1 ∧ P = n
    · rw [if_pos e, if_pos e, ifb_neg (by decide), bnd1_c]
    · rw [if_neg e, if_neg e, ifb_pos rfl, bnd1_c]
  · rw [ifb_neg (by rw [show (30 : Int32) = nI 30 from rfl, le32 (by omega) (by omega)]; exact hn30), if_neg hn30, Nat.min_eq_right (by omega)]
    by_cases e : gs = 1 ∧ P = 30
    · rw [if_pos e, if_pos e, ifb_neg (by decide), lt_c]; rfl
    · rw [if_neg e, if_neg e, ifb_pos rfl]
      by_cases e30 : P < 30
      · rw [ifb_pos (by rw [show (30 : Int32) = nI 30 from rfl, lt32 (by omega) (by omega)]; exact e30), ifb_pos rfl, bnd1_c, if_pos e30]
      · rw [ifb_neg (by rw [show (30 : Int32) = nI 30 from rfl, lt32 (by omega) (by omega)]; exact e30), lt_c, if_neg e30]; rfl
theorem begins_c {a : Nat} (ha : a < 1000) (h17 : I 90 17 = nI n) (hn : n ≤ 80) : f_Mod_begins_I S1 I 90 (nI a) = some (nI n, wI (wI (wI I 90 17 0) 90 18 0) 90 19 (nI (min n a))) := by
  unfold f_Mod_begins_I
  rw [h17, lt_c, lt_c, lt_c, min_c (by omega) (by omega), bnd1_c, lt_c]
end LK
