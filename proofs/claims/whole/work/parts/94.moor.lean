section MO
variable {W H m n k q G w r rw a b B P c : Nat} {K τ : Nat → Nat} {I I' J J' : MI} {L L' : ML} {R : MR} {p : Bool} {fe : Nat} {i j : Nat}
/-! a moor that is told -/
def kt (t : Nat) : Nat := if t = 46 then 0 else if t = 111 then 1 else if t = 35 then 2 else if t = 72 then 3 else 4
def ktI (t : Nat) : Int32 := if kt t = 4 then -1 else nI (kt t)
theorem kt_le (t : Nat) : kt t ≤ 4 := by
  unfold kt
  split
  · omega
  · split
    · omega
    · split
      · omega
      · split <;> omega
theorem kt_k : ∀ t, t < 256 → amN 6 (nI t) 4 = ktI t := by decide +kernel
theorem kt_47 : kt 47 = 4 := rfl
theorem among6 {g t : Nat} (hg : 10 ≤ g) (ht : t < 256) : f_Mod_among g 6 (nI t) = some (ktI t) := by
  rw [among_c hg (by omega) (by omega), show lenS 6 = 4 from rfl, kt_k t ht]
theorem kindTold_c {t : Nat} (ht : t < 256) : f_Land_kindTold (nI t) = some (ktI t) := by
  unfold f_Land_kindTold ktI kt
  rw [show (35 : Int32) = nI 35 from rfl, show (46 : Int32) = nI 46 from rfl, show (72 : Int32) = nI 72 from rfl, show (111 : Int32) = nI 111 from rfl]
  by_cases h1 : t = 35
  · subst h1; rw [ifb_pos rfl]; rfl
  rw [ifb_neg (nq ht (by omega) h1)]
  by_cases h2 : t = 46
  · subst h2; rw [ifb_pos rfl]; rfl
  rw [ifb_neg (nq ht (by omega) h2), if_neg h2]
  by_cases h3 : t = 72
  · subst h3; rw [ifb_pos rfl]; rfl
  rw [ifb_neg (nq ht (by omega) h3)]
  by_cases h4 : t = 111
  · subst h4; rw [ifb_pos rfl]; rfl
  rw [ifb_neg (nq ht (by omega) h4), if_neg h4, if_neg h1, if_neg h3, if_pos rfl]
theorem ktI_m1 {t : Nat} : ktI t = -1 ↔ kt t = 4 := by
  have := kt_le t
  unfold ktI
  split
  · rename_i h; exact ⟨fun _ => h, fun _ => rfl⟩
  · rename_i h; exact ⟨fun z => absurd z (nIm1 (by omega)), fun z => absurd z h⟩
theorem ktI_neg {t : Nat} : ktI t < 0 ↔ kt t = 4 := by
  have := kt_le t
  unfold ktI
  split
  · rename_i h; exact ⟨fun _ => h, fun _ => by decide⟩
  · rename_i h; exact ⟨fun z => absurd z (zn (by omega)), fun z => absurd z h⟩
/-- how many signs of cells there are from p, at most so many -/
def runK (τ : Nat → Nat) (n q : Nat) : Nat → Nat
  | 0 => 0
  | l + 1 => if runK τ n q l < l then runK τ n q l else if q + l < n ∧ kt (τ (q + l)) ≠ 4 then l + 1 else l
theorem runK_ok : ∀ l, runK τ n q l ≤ l ∧ (∀ i, i < runK τ n q l → q + i < n ∧ kt (τ (q + i)) ≠ 4) ∧ (runK τ n q l = l ∨ ¬ (q + runK τ n q l < n) ∨ kt (τ (q + runK τ n q l)) = 4) := by
  intro l
  induction l with
  | zero => exact ⟨Nat.le_refl _, fun i hi => absurd hi (Nat.not_lt_zero _), Or.inl rfl⟩
  | succ l ih =>
    obtain ⟨h1, h2, h3⟩ := ih
    rw [runK]
    by_cases e : runK τ n q l < l
    · rw [if_pos e]
      exact ⟨by omega, h2, by rcases h3 with z | z; omega; exact Or.inr z⟩
    · rw [if_neg e]
      have e' : runK τ n q l = l := by omega
      rw [e'] at h2
      by_cases hc : q + l < n ∧ kt (τ (q + l)) ≠ 4
      · rw [if_pos hc]
        refine ⟨Nat.le_refl _, fun i hi => ?_, Or.inl rfl⟩
        by_cases ei : i = l
        · subst ei; exact hc
        · exact h2 i (by omega)
      · rw [if_neg hc]
        refine ⟨by omega, h2, Or.inr ?_⟩
        by_cases hq : q + l < n
        · exact Or.inr (by
            by_cases h4 : kt (τ (q + l)) = 4
            · exact h4
            · exact absurd ⟨hq, h4⟩ hc)
        · exact Or.inl hq
/-- the model's memory at a row's start -/
def MJ (n : Nat) (τ : Nat → Nat) (q : Nat) (J : MI) : Prop := J 90 19 = nI n ∧ J 90 18 = nI q ∧ ∀ k, k < n → τ k < 256 ∧ J 95 k = nI (τ k)
def fMJ : FT := [(90, some 18), (96, none)]
theorem in44 {g : Nat} (hg : 1000 ≤ g) (hR : RG p fe R) (hn : n ≤ 80) (hrw : rw < 6) {W0 : Nat} (hW0 : W0 ≤ 6) {v2 : Int32} (hc : c + W0 ≤ 36) (hM : MJ n τ q J) (hqn : q ≤ n) : ∃ J', l_Mod_moor_44 g S1 R 90 v2 (nI rw) (nI W0) g J (nI c) 0 = some (nI (c + runK τ n q W0), nI (runK τ n q W0), J') ∧ Fr fMJ J J' ∧ MJ n τ (q + runK τ n q W0) J' ∧ (∀ i, i < runK τ n q W0 → J' 96 (c + i) = nI (kt (τ (q + i)))) ∧ ∀ i, i < c → J' 96 i = J 96 i := by
  obtain ⟨o1, o2, o3⟩ := @runK_ok n q τ W0
  obtain ⟨k, hk⟩ : ∃ k, k = runK τ n q W0 := ⟨_, rfl⟩
  rw [← hk] at o1 o2 o3 ⊢
  have loop : ∀ F l (J : MI), l ≤ k → k < l + F → MJ n τ (q + l) J → (∀ i, i < l → J 96 (c + i) = nI (kt (τ (q + i)))) → ∃ J', l_Mod_moor_44 g S1 R 90 v2 (nI rw) (nI W0) F J (nI (c + l)) (nI l) = some (nI (c + k), nI k, J') ∧ Fr fMJ J J' ∧ MJ n τ (q + k) J' ∧ (∀ i, i < k → J' 96 (c + i) = nI (kt (τ (q + i)))) ∧ ∀ i, i < c → J' 96 i = J 96 i := by
    intro F
    induction F with
    | zero => intro l J a b; omega
    | succ F ih =>
      intro l J a b hM h96
      obtain ⟨h19, h18, h95⟩ := id hM
      rw [l_Mod_moor_44, ifb_neg (by rw [show (6 : Int32) = nI 6 from rfl, le32 (by omega) (by omega)]; omega)]
      have stop : l = k → ∃ J', (some (nI (c + l), nI l, J) : Option (Int32 × Int32 × MI)) = some (nI (c + k), nI k, J') ∧ Fr fMJ J J' ∧ MJ n τ (q + k) J' ∧ (∀ i, i < k → J' 96 (c + i) = nI (kt (τ (q + i)))) ∧ ∀ i, i < c → J' 96 i = J 96 i := by
        intro e
        subst e
        exact ⟨J, rfl, Fr.rf, hM, h96, fun i _ => rfl⟩
      by_cases hlW : W0 ≤ l
      · rw [ifb_pos (by rw [le32 (by omega) (by omega)]; exact hlW)]
        exact stop (by omega)
      rw [ifb_neg (by rw [le32 (by omega) (by omega)]; exact hlW), h19, h18]
      by_cases hln : n ≤ q + l
      · rw [ifb_pos (by rw [le32 (by omega) (by omega)]; exact hln)]
        refine stop ?_
        by_cases e : l = k
        · exact e
        · have := o2 l (by omega); omega
      obtain ⟨ht, h95q⟩ := h95 (q + l) (by omega)
      have hkl := kt_le (τ (q + l))
      rw [ifb_neg (by rw [le32 (by omega) (by omega)]; exact hln), r_90_16 hR, bnd1_c, lt_c, t_95, asrt_pos rfl, asrt_pos (vir (by omega) (by omega)), cl32 (by omega), h95q, among6 (by omega) ht, bnd1_c]
      by_cases hk4 : kt (τ (q + l)) = 4
      · rw [ifb_pos (ktI_neg.mpr hk4)]
        refine stop ?_
        by_cases e : l = k
        · exact e
        · have := (o2 l (by omega)).2; exact absurd hk4 this
      have hlk : l < k := by
        by_cases e : l = k
        · subst e
          rcases o3 with z | z | z
          · omega
          · omega
          · exact absurd z hk4
        · omega
      have eI : ktI (τ (q + l)) = nI (kt (τ (q + l))) := by unfold ktI; rw [if_neg hk4]
      obtain ⟨J', e, f1, r1, r2, r3⟩ := ih (l + 1) (wI (wI J 96 (c + l) (nI (kt (τ (q + l))))) 90 18 (nI (q + (l + 1)))) (by omega) (by omega) ⟨by rw [wI_n (by omega), wI_n (by omega)]; exact h19, wI_s, fun k hk => ⟨(h95 k hk).1, by rw [wI_n (by omega), wI_n (by omega)]; exact (h95 k hk).2⟩⟩ (fun i hi => by
        rw [wI_n (by omega)]
        by_cases ei : i = l
        · subst ei; exact wI_s
        · rw [wI_n (by omega)]; exact h96 i (by omega))
      refine ⟨J', ?_, ((Fr.w Fr.rf rfl).w rfl).tr f1, r1, r2, fun i hi => (r3 i hi).trans (by rw [wI_n (by omega), wI_n (by omega)])⟩
      rw [ifb_neg (fun z => hk4 (ktI_neg.mp z)), r_90_20 hR, bnd1_c, lt_c, asrt_pos (vir (by omega) (by omega)), cl32 (by omega), h95q, among6 (by omega) ht, bnd1_c, t_96, asrt_pos rfl, asrt_pos (vir (by omega) (by omega)), cl32 (by omega), lt_c, eI, wI_n (by omega), h18, nI_1, lt_c, lt_c, nI_1, nI_1]
      exact e
  exact loop g 0 J (by omega) (by omega) hM (fun i hi => by omega)
/-! the class's scan -/
noncomputable def cf (g : Nat) (R : MR) (I : MI) (w rw l q : Nat) : Option Int32 := l_Land_faultOf_11 S1 R I 1 (g - q) (nI w) (nI rw) (nI l) (nI q)
def whl (rw l w : Nat) : Prop := (rw = 0 ∧ 0 < l) ∨ (rw ≠ 0 ∧ l = w)
theorem isWhole_c {l : Nat} (h1 : rw < 100) (h2 : l < 100) (h3 : w < 100) : (whl rw l w ∧ f_Land_isWhole (nI rw) (nI l) (nI w) = some 1) ∨ (¬ whl rw l w ∧ f_Land_isWhole (nI rw) (nI l) (nI w) = some 0) := by
  unfold f_Land_isWhole whl
  by_cases h0 : rw = 0
  · rw [ifb_pos (by rw [h0]; rfl)]
    by_cases hl : 0 < l
    · exact Or.inl ⟨Or.inl ⟨h0, hl⟩, by rw [ifb_neg (by rw [nI0, le32 (by omega) (by omega)]; omega), bnd1_c, asrt_pos (Or.inr rfl)]⟩
    · exact Or.inr ⟨by omega, by rw [ifb_pos (by rw [nI0, le32 (by omega) (by omega)]; omega), bnd1_c, asrt_pos (Or.inl rfl)]⟩
  · rw [ifb_neg (by rw [nI0, eq32 (by omega) (by omega)]; exact h0)]
    by_cases hl : l = w
    · exact Or.inl ⟨Or.inr ⟨h0, hl⟩, by rw [ifb_pos (by rw [hl]), bnd1_c, asrt_pos (Or.inr rfl)]⟩
    · exact Or.inr ⟨by omega, by rw [ifb_neg (by rw [eq32 (by omega) (by omega)]; exact hl), bnd1_c, asrt_pos (Or.inl rfl)]⟩
theorem cf_run {g : Nat} (hg : 1000 ≤ g) (hR : RG p fe R) (hX : CX n τ I) (hrw : rw < 6) (hw : w ≤ 6) : ∀ k l q, (∀ i, i < k → q + i < n ∧ kt (τ (q + i)) ≠ 4) → l + k ≤ w → cf g R I w rw l q = cf g R I w rw (l + k) (q + k) := by
  intro k
  induction k with
  | zero => intro l q _ _; rfl
  | succ k ih =>
    intro l q h hl
    have hn := hX.1
    obtain ⟨hqn, hk⟩ := h 0 (by omega)
    rw [Nat.add_zero] at hqn hk
    obtain ⟨ht, h2⟩ := hX.2.2 q hqn
    have e : cf g R I w rw l q = cf g R I w rw (l + 1) (q + 1) := by
      unfold cf
      rw [show g - q = (g - (q + 1)) + 1 by omega, l_Land_faultOf_11, asrt_pos (show (S1 1).1 = 8 from rfl), show f_Signs_length S1 I 1 = some (I 1 1) from rfl, bnd1_c, hX.2.1, ifb_neg (by rw [le32 (by omega) (by omega)]; omega), at_c hR hX.2.1 hX.1 hqn h2, bnd1_c, kindTold_c ht, bnd1_c, ifb_neg (fun z => hk (ktI_m1.mp z)), ifb_neg (by rw [show (6 : Int32) = nI 6 from rfl, eq32 (by omega) (by omega)]; omega), ifb_neg (by rw [eq32 (by omega) (by omega)]; omega), nI_1, nI_1]
    rw [e, ih (l + 1) (q + 1) (fun i hi => by have := h (i + 1) (by omega); rw [show q + 1 + i = q + (i + 1) by omega]; exact this) (by omega), show l + 1 + k = l + (k + 1) by omega, show q + 1 + k = q + (k + 1) by omega]
theorem cf_end {g : Nat} (hg : 1000 ≤ g) (hX : CX n τ I) (hrw : rw < 100) (hw : w < 100) {l : Nat} (hl : l < 100) : (whl rw l w ∧ cf g R I w rw l n = some (-1)) ∨ (¬ whl rw l w ∧ cf g R I w rw l n = some (nI n)) := by
  have hn := hX.1
  have pre : cf g R I w rw l n = (bnd1 (f_Land_isWhole (nI rw) (nI l) (nI w)) fun x5 => bnd1 (ifb (x5 = 0) (bnd1 (f_Signs_length S1 I 1) fun x11 => some x11) (some (-1))) fun (y8 : Int32) => some y8) := by
    unfold cf
    rw [show g - n = (g - (n + 1)) + 1 by omega, l_Land_faultOf_11, asrt_pos (show (S1 1).1 = 8 from rfl), show f_Signs_length S1 I 1 = some (I 1 1) from rfl, bnd1_c, hX.2.1, ifb_pos (by rw [le32 (by omega) (by omega)]; omega)]
  rcases isWhole_c hrw hl hw with ⟨h, e⟩ | ⟨h, e⟩
  · exact Or.inl ⟨h, by rw [pre, e, bnd1_c, ifb_neg (by decide), bnd1_c]⟩
  · exact Or.inr ⟨h, by rw [pre, e, bnd1_c, ifb_pos rfl, show f_Signs_length S1 I 1 = some (I 1 1) from rfl, bnd1_c, bnd1_c, hX.2.1]⟩
theorem cf_sign {g : Nat} (hg : 1000 ≤ g) (hR : RG p fe R) (hX : CX n τ I) (hrw : rw < 100) (hw : w < 100) {l : Nat} (hl : l < 100) (hq : q < n) : (kt (τ q) ≠ 4 → rw = 6 ∨ l = w → cf g R I w rw l q = some (nI q)) ∧ (kt (τ q) = 4 → τ q = 47 → whl rw l w → cf g R I w rw l q = cf g R I l (rw + 1) 0 (q + 1)) ∧ (kt (τ q) = 4 → ¬ (τ q = 47 ∧ whl rw l w) → cf g R I w rw l q = some (nI q)) := by
  have hn := hX.1
  obtain ⟨ht, h2⟩ := hX.2.2 q hq
  have pre : cf g R I w rw l q = ifb (ktI (τ q) = -1) (ifb (nI (τ q) = 47) (bnd1 (f_Land_isWhole (nI rw) (nI l) (nI w)) fun x19 => ifb (x19 = 0) (some (nI q)) (cf g R I l (rw + 1) 0 (q + 1))) (some (nI q))) (ifb (nI rw = 6) (some (nI q)) (ifb (nI l = nI w) (some (nI q)) (cf g R I w rw (l + 1) (q + 1)))) := by
    unfold cf
    rw [show g - q = (g - (q + 1)) + 1 by omega, l_Land_faultOf_11, asrt_pos (show (S1 1).1 = 8 from rfl), show f_Signs_length S1 I 1 = some (I 1 1) from rfl, bnd1_c, hX.2.1, ifb_neg (by rw [le32 (by omega) (by omega)]; omega), at_c hR hX.2.1 hX.1 hq h2, bnd1_c, kindTold_c ht, bnd1_c, nI_1, nI_1, nI_1]
    rfl
  refine ⟨fun hk h => ?_, fun hk h47 hwh => ?_, fun hk hno => ?_⟩
  · rw [pre, ifb_neg (fun z => hk (ktI_m1.mp z))]
    by_cases h6 : rw = 6
    · rw [ifb_pos (by rw [h6]; rfl)]
    · rw [ifb_neg (by rw [show (6 : Int32) = nI 6 from rfl, eq32 (by omega) (by omega)]; exact h6), ifb_pos (by rw [h.resolve_left h6])]
  · rw [pre, ifb_pos (ktI_m1.mpr hk), ifb_pos (by rw [h47]; rfl)]
    rcases isWhole_c hrw hl hw with ⟨h, e⟩ | ⟨h, e⟩
    · rw [e, bnd1_c, ifb_neg (by decide)]
    · exact absurd hwh h
  · rw [pre, ifb_pos (ktI_m1.mpr hk)]
    by_cases h47 : τ q = 47
    · rw [ifb_pos (by rw [h47]; rfl)]
      rcases isWhole_c hrw hl hw with ⟨h, e⟩ | ⟨h, e⟩
      · exact absurd ⟨h47, h⟩ hno
      · rw [e, bnd1_c, ifb_pos rfl]
    · rw [ifb_neg (show ¬ nI (τ q) = 47 from nq ht (show 47 < 256 by omega) h47)]
end MO
