section MQ
variable {W H m n k q G w r rw a b B P c : Nat} {K τ : Nat → Nat} {I I' J J' : MI} {L L' : ML} {R : MR} {p : Bool} {fe : Nat} {i j : Nat}
def KTm (τ : Nat → Nat) (w r c : Nat) : Nat := if c < w * r then kt (τ (c / w * (w + 1) + c % w)) else 0
theorem KTm_at (hj : j < w) (hi : i < r) : KTm τ w r (i * w + j) = kt (τ (i * (w + 1) + j)) := by
  have e1 : (i * w + j) / w = i := by rw [Nat.mul_comm, Nat.mul_add_div (by omega), Nat.div_eq_of_lt hj, Nat.add_zero]
  have e2 : (i * w + j) % w = j := by rw [Nat.mul_comm, Nat.mul_add_mod, Nat.mod_eq_of_lt hj]
  have h : (i + 1) * w ≤ r * w := Nat.mul_le_mul (by omega) (Nat.le_refl _)
  rw [Nat.succ_mul, Nat.mul_comm r w] at h
  unfold KTm
  rw [if_pos (by omega), e1, e2]
theorem cell_rc (hw : 1 ≤ w) (hc : c < w * r) : c / w < r ∧ c % w < w ∧ c / w * w + c % w = c := ⟨Nat.div_lt_of_lt_mul hc, Nat.mod_lt _ (by omega), by rw [Nat.mul_comm]; exact Nat.div_add_mod c w⟩
theorem KTm_lt (h : STF τ n w r) (c : Nat) : KTm τ w r c < 4 := by
  by_cases hc : c < w * r
  · obtain ⟨h1, h2, -⟩ := cell_rc h.1.1 hc
    have h3 := h.2.2.2.1 _ h1 _ h2
    have h4 := kt_le (τ (c / w * (w + 1) + c % w))
    unfold KTm
    rw [if_pos hc]
    omega
  · unfold KTm
    rw [if_neg hc]
    omega
def fLe : FT := [(60, some 0), (60, some 1), (61, none)]
theorem learn_l (hR : RG p fe R) (h : STF τ n w r) : ∀ F i j (I : MI), i < r → j ≤ w → n < i * (w + 1) + j + F → CX n τ I → I 60 1 = nI (i + 1) → I 60 0 = nI j → (∀ a b, (a < i ∧ b < w) ∨ (a = i ∧ b < j) → I 61 (a * w + b) = nI (kt (τ (a * (w + 1) + b)))) →
    ∃ I', l_Land_learn_14 S1 R 60 1 F I (nI (i * w + j)) (nI (i * (w + 1) + j)) = some I' ∧ Fr fLe I I' ∧ I' 60 1 = nI r ∧ I' 60 0 = nI w ∧ ∀ a, a < r → ∀ b, b < w → I' 61 (a * w + b) = nI (kt (τ (a * (w + 1) + b))) := by
  obtain ⟨hw, hr, hn1, hk, h47⟩ := id h
  have hend : ∀ i, i < r → i * (w + 1) + (w + 1) ≤ n + 1 := by
    intro i hi
    have : (i + 1) * (w + 1) ≤ r * (w + 1) := Nat.mul_le_mul (by omega) (Nat.le_refl _)
    rw [Nat.succ_mul] at this
    omega
  have h36 : ∀ i, i < r → i * w + w ≤ 36 := by
    intro i hi
    have : (i + 1) * w ≤ 6 * 6 := Nat.mul_le_mul (by omega) (by omega)
    rw [Nat.succ_mul] at this
    omega
  intro F
  induction F with
  | zero => intro i j I h1 h2 h3; have := hend i h1; omega
  | succ F ih =>
    intro i j I h1 h2 h3 hX h601 h600 h61
    have hn80 := hX.1
    have he := hend i h1
    have h6 := h36 i h1
    rw [l_Land_learn_14, asrt_pos (show (S1 1).1 = 8 from rfl), show f_Signs_length S1 I 1 = some (I 1 1) from rfl, bnd1_c, hX.2.1]
    by_cases hj : j = w
    · subst hj
      by_cases hir : i + 1 = r
      · have hpn : n ≤ i * (j + 1) + j := by
          rw [← hir, Nat.succ_mul] at hn1
          omega
        refine ⟨I, by rw [ifb_pos (by rw [le32 (by omega) (by omega)]; exact hpn)], Fr.rf, by rw [← hir]; exact h601, h600, fun a ha b hb => h61 a b ?_⟩
        by_cases ea : a = i
        · exact Or.inr ⟨ea, hb⟩
        · exact Or.inl ⟨by omega, hb⟩
      · have he1 := hend (i + 1) (by omega)
        have h36' := h36 (i + 1) (by omega)
        have hs1 : (i + 1) * (j + 1) = i * (j + 1) + (j + 1) := Nat.succ_mul ..
        have hs2 : (i + 1) * j = i * j + j := Nat.succ_mul ..
        have hpn : i * (j + 1) + j < n := by omega
        obtain ⟨ht, hτ2⟩ := hX.2.2 _ hpn
        have e47 := h47 i (by omega)
        obtain ⟨I', e, f1, r1⟩ := ih (i + 1) 0 (wI (wI I 60 1 (nI (i + 1 + 1))) 60 0 0) (by omega) (by omega) (by omega) (hX.to ((Fr.w Fr.rf rfl).w rfl : Fr fLe I _) rfl) (by rw [wI_n (by omega), wI_s]) wI_s (fun a b hab => by
          rw [wI_n (by omega), wI_n (by omega)]
          refine h61 a b ?_
          rcases hab with ⟨z1, z2⟩ | ⟨z1, z2⟩
          · by_cases ea : a = i
            · exact Or.inr ⟨ea, z2⟩
            · exact Or.inl ⟨by omega, z2⟩
          · omega)
        refine ⟨I', ?_, ((Fr.w Fr.rf rfl).w rfl).tr f1, r1⟩
        rw [Nat.add_zero, Nat.add_zero, hs1, hs2] at e
        rw [ifb_neg (by rw [le32 (by omega) (by omega)]; omega), at_c hR hX.2.1 hX.1 hpn hτ2, bnd1_c, kindTold_c ht, bnd1_c, ifb_pos (ktI_m1.mpr (by rw [e47]; rfl)), h601, nI_1, lt_c, lt_c, lt_c, bnd2_c, nI_1]
        exact e
    · have hpn : i * (w + 1) + j < n := by omega
      obtain ⟨ht, hτ2⟩ := hX.2.2 _ hpn
      have hk4 := hk i h1 j (by omega)
      have eI : ktI (τ (i * (w + 1) + j)) = nI (kt (τ (i * (w + 1) + j))) := by unfold ktI; rw [if_neg hk4]
      obtain ⟨I', e, f1, r1⟩ := ih i (j + 1) (wI (wI I 61 (i * w + j) (nI (kt (τ (i * (w + 1) + j))))) 60 0 (nI (j + 1))) h1 (by omega) (by omega) (hX.to ((Fr.w Fr.rf rfl).w rfl : Fr fLe I _) rfl) (by rw [wI_n (by omega), wI_n (by omega)]; exact h601) wI_s (fun a b hab => by
        rw [wI_n (by omega)]
        by_cases eab : a = i ∧ b = j
        · rw [eab.1, eab.2, wI_s]
        · have hne : a * w + b ≠ i * w + j := by
            rcases hab with ⟨z1, z2⟩ | ⟨z1, z2⟩
            · have : (a + 1) * w ≤ i * w := Nat.mul_le_mul (by omega) (Nat.le_refl _)
              rw [Nat.succ_mul] at this
              omega
            · rw [z1]; omega
          rw [wI_n (fun z => hne z.2)]
          refine h61 a b ?_
          rcases hab with z | ⟨z1, z2⟩
          · exact Or.inl z
          · exact Or.inr ⟨z1, by omega⟩)
      refine ⟨I', ?_, ((Fr.w Fr.rf rfl).w rfl).tr f1, r1⟩
      rw [ifb_neg (by rw [le32 (by omega) (by omega)]; omega), at_c hR hX.2.1 hX.1 hpn hτ2, bnd1_c, kindTold_c ht, bnd1_c, ifb_neg (fun z => hk4 (ktI_m1.mp z)), ifb_neg (by rw [show (36 : Int32) = nI 36 from rfl, le32 (by omega) (by omega)]; omega), r_60_2 hR, bnd1_c, t_61, asrt_pos rfl, asrt_pos (vir (by omega) (by omega)), cl32 (by omega), lt_c, eI, wI_n (by omega), h600, nI_1, lt_c, lt_c, bnd2_c, nI_1, nI_1]
      exact e
theorem landlearn_c {g : Nat} (hg : 1000 ≤ g) (hR : RG p fe R) (h : STF τ n w r) (hX : CX n τ I) : ∃ I', f_Land_learn g S1 R I 60 1 = some I' ∧ Fr [(60, some 0), (60, some 1), (60, some 5), (61, none), (62, none)] I I' ∧ LKc w r (KTm τ w r) I' ∧ LA w r (KTm τ w r) I' ∧ I' 60 5 = 0 := by
  obtain ⟨I1, e1, f1, g1, g2, g3⟩ := learn_l hR h g 0 0 (wI (wI I 60 1 1) 60 0 0) (by have := h.2.1; omega) (by omega) (by have := hX.1; omega) (hX.to ((Fr.w Fr.rf rfl).w rfl : Fr fLe I _) rfl) (by rw [wI_n (by omega), wI_s]; rfl) wI_s (fun a b hab => by omega)
  rw [Nat.zero_mul, Nat.zero_mul, Nat.zero_add] at e1
  have hL : LKc w r (KTm τ w r) I1 := ⟨h.1, h.2.1, KTm_lt h, g2, g1, fun c hc => by
    obtain ⟨z1, z2, z3⟩ := cell_rc h.1.1 hc
    have := g3 _ z1 _ z2
    rw [z3] at this
    rw [this]
    unfold KTm
    rw [if_pos hc]⟩
  obtain ⟨I2, e2, f2, hA, h5⟩ := survey_c (g := g) (by omega) hR hL
  refine ⟨I2, ?_, (((Fr.w Fr.rf rfl).w rfl).tr (f1.sub rfl)).tr (f2.sub rfl), hL.ag (f2.ag rfl), hA, h5⟩
  unfold f_Land_learn
  rw [lt_c, lt_c, show l_Land_learn_14 S1 R 60 1 g (wI (wI I 60 1 1) 60 0 0) 0 0 = some I1 from e1, bnd1_c, e2, bnd1_c]
theorem mo216 (hR : RG p fe R) (hm : m ≤ 36) : ∀ F k (J : MI), k ≤ 36 → 36 < k + F → (∀ c, c < k → J 92 c = if c < m then J 96 c else 0) → ∃ J', l_Mod_moor_216 S1 R 90 (nI m) F J (nI k) = some J' ∧ Fr [(92, none)] J J' ∧ ∀ c, c < 36 → J' 92 c = if c < m then J 96 c else 0 := by
  intro F
  induction F with
  | zero => intro k J h1 h2; omega
  | succ F ih =>
    intro k J h1 h2 h3
    rw [l_Mod_moor_216]
    by_cases hk : k = 36
    · subst hk
      exact ⟨J, by rw [ifb_pos (by decide)], Fr.rf, h3⟩
    obtain ⟨J', e, f1, r1⟩ := ih (k + 1) (wI J 92 k (if k < m then J 96 k else 0)) (by omega) (by omega) (fun c hc => by
      rw [wI_n (a := 92) (b := 96) (by omega)]
      by_cases ec : c = k
      · subst ec; exact wI_s
      · rw [wI_n (by omega)]; exact h3 c (by omega))
    refine ⟨J', ?_, (Fr.w Fr.rf rfl).tr f1, fun c hc => (r1 c hc).trans (by rw [wI_n (a := 92) (b := 96) (by omega)])⟩
    have ey : ∀ X : Int32 → Option MI, bnd1 (ifb (nI m ≤ nI k) (some 0) (bnd1 (R 90 20) fun b69 => asrt ((S1 b69).1 = 20) <| asrt (vp_in (nI k) (S1 b69).2) <| some (J b69 (Int32.toNatClampNeg (nI k))))) X = X (if k < m then J 96 k else 0) := by
      intro X
      by_cases hkm : k < m
      · rw [ifb_neg (by rw [le32 (by omega) (by omega)]; omega), r_90_20 hR, bnd1_c, t_96, asrt_pos rfl, asrt_pos (vir (by omega) (by omega)), cl32 (by omega), bnd1_c, if_pos hkm]
      · rw [ifb_pos (by rw [le32 (by omega) (by omega)]; omega), bnd1_c, if_neg hkm]
    rw [ifb_neg (by rw [show (36 : Int32) = nI 36 from rfl, le32 (by omega) (by omega)]; omega), r_90_5 hR, bnd1_c, ey, t_92, asrt_pos rfl, asrt_pos (vir (by omega) (by omega)), cl32 (by omega), lt_c, nI_1]
    exact e
end MQ
