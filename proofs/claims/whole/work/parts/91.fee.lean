section FE
variable {W H m n k q G st num a b B : Nat} {τ : Nat → Nat} {I I' J J' : MI} {L L' : ML} {R : MR} {p : Bool} {fe : Nat} {f f' : Nat → Int} {sg : Int} {i : Nat}
/-! the class's reading of a fee, sign by sign -/
def CX (n : Nat) (τ : Nat → Nat) (I : MI) : Prop := n ≤ 80 ∧ I 1 1 = nI n ∧ ∀ k, k < n → τ k < 256 ∧ I 2 k = nI (τ k)
theorem CX.to {l : FT} (h : CX n τ I) (hf : Fr l I I') (h1 : dsj l [(1, some 1), (2, none)] = true) : CX n τ I' := ⟨h.1, (hf 1 1 (dsj_no h1 rfl)).trans h.2.1, fun k hk => ⟨(h.2.2 k hk).1, (hf 2 k (dsj_no h1 rfl)).trans (h.2.2 k hk).2⟩⟩
noncomputable def cl (G : Nat) (R : MR) (I : MI) (st : Nat) (sg : Int) (num q : Nat) : Option (Int32 × MI) := l_Fee_learn_29 S1 R 48 1 (G - q) I (nI st) (iI sg) (nI num) (nI q)
def f48 : FT := [(48, some 0), (48, some 1), (48, some 2), (48, some 3), (48, some 4)]
def lti (t : Nat) : Nat := if t = 104 then 1 else if t = 120 then 2 else if t = 115 then 3 else if t = 97 then 4 else 0
def dig (t : Nat) : Prop := 48 ≤ t ∧ t ≤ 57
theorem nq {t k : Nat} (ht : t < 256) (hk : k < 256) (h : t ≠ k) : ¬ nI t = nI k := fun z => h ((eq32 (by omega) (by omega)).mp z)
theorem lti_k : ∀ t, t < 256 → amN 7 (nI t) 4 = if lti t = 0 then -1 else nI (lti t - 1) := by decide +kernel
theorem lti_le (t : Nat) : lti t ≤ 4 := by
  unfold lti
  split
  · omega
  · split
    · omega
    · split
      · omega
      · split <;> omega
theorem among7 {g t : Nat} (hg : 10 ≤ g) (ht : t < 256) : f_Mod_among g 7 (nI t) = some (if lti t = 0 then -1 else nI (lti t - 1)) := by
  rw [among_c hg (by omega) (by omega), show lenS 7 = 4 from rfl, lti_k t ht]
theorem lti_dig {t : Nat} (h : lti t ≠ 0) : ¬ dig t ∧ t ≠ 42 ∧ t ≠ 43 ∧ t ≠ 45 := by
  unfold lti at h
  unfold dig
  refine ⟨fun z => ?_, fun z => ?_, fun z => ?_, fun z => ?_⟩
  · rw [if_neg (by omega), if_neg (by omega), if_neg (by omega), if_neg (by omega)] at h; exact h rfl
  · subst z; exact h rfl
  · subst z; exact h rfl
  · subst z; exact h rfl
theorem isLetter_c {t : Nat} (ht : t < 256) : f_Fee_isLetter (nI t) = some (if lti t = 0 then 0 else 1) := by
  unfold f_Fee_isLetter lti
  rw [show (104 : Int32) = nI 104 from rfl, show (120 : Int32) = nI 120 from rfl, show (115 : Int32) = nI 115 from rfl, show (97 : Int32) = nI 97 from rfl]
  by_cases h1 : t = 104
  · subst h1; rw [ifb_pos rfl, bnd1_c, asrt_pos (Or.inr rfl)]; rfl
  rw [ifb_neg (nq ht (by omega) h1), if_neg h1]
  by_cases h2 : t = 120
  · subst h2; rw [ifb_pos rfl, bnd1_c, asrt_pos (Or.inr rfl)]; rfl
  rw [ifb_neg (nq ht (by omega) h2), if_neg h2]
  by_cases h3 : t = 115
  · subst h3; rw [ifb_pos rfl, bnd1_c, asrt_pos (Or.inr rfl)]; rfl
  rw [ifb_neg (nq ht (by omega) h3), if_neg h3]
  by_cases h4 : t = 97
  · subst h4; rw [ifb_pos rfl, bnd1_c, asrt_pos (Or.inr rfl)]; rfl
  rw [ifb_neg (nq ht (by omega) h4), if_neg h4, bnd1_c, asrt_pos (Or.inl rfl)]
  rfl
theorem addTo_c {t : Nat} (ht : t < 256) (hl : lti t ≠ 0) (d : Int32) : ∃ I', f_Fee_addTo S1 I 48 (nI t) d = some I' ∧ Fr f48 I I' ∧ I' 48 0 = I 48 0 ∧ ∀ i, 1 ≤ i → i < 5 → I' 48 i = if i = lti t then I 48 i + d else I 48 i := by
  have key : ∀ x1 x2 x3 x4 : Int32, Fr f48 I (wI (wI (wI (wI I 48 1 x1) 48 2 x2) 48 3 x3) 48 4 x4) ∧ wI (wI (wI (wI I 48 1 x1) 48 2 x2) 48 3 x3) 48 4 x4 48 0 = I 48 0 ∧ ∀ i, 1 ≤ i → i < 5 → wI (wI (wI (wI I 48 1 x1) 48 2 x2) 48 3 x3) 48 4 x4 48 i = if i = 1 then x1 else if i = 2 then x2 else if i = 3 then x3 else x4 := by
    intro x1 x2 x3 x4
    refine ⟨Fr.w (Fr.w (Fr.w (Fr.w Fr.rf rfl) rfl) rfl) rfl, by rw [wI_n (by omega), wI_n (by omega), wI_n (by omega), wI_n (by omega)], fun i h1 h5 => ?_⟩
    have : i = 1 ∨ i = 2 ∨ i = 3 ∨ i = 4 := by omega
    rcases this with rfl | rfl | rfl | rfl
    · rw [wI_n (by omega), wI_n (by omega), wI_n (by omega), wI_s]; rfl
    · rw [wI_n (by omega), wI_n (by omega), wI_s]; rfl
    · rw [wI_n (by omega), wI_s]; rfl
    · rw [wI_s]; rfl
  have run : ∀ y1 y2 y3 y4 : Int32, (∀ X : Int32 → Option MI, bnd1 (ifb (nI t = 104) (some d) (some 0)) X = X y1) → (∀ X : Int32 → Option MI, bnd1 (ifb (nI t = 120) (some d) (some 0)) X = X y2) → (∀ X : Int32 → Option MI, bnd1 (ifb (nI t = 115) (some d) (some 0)) X = X y3) → (∀ X : Int32 → Option MI, bnd1 (ifb (nI t = 97) (some d) (some 0)) X = X y4) →
      f_Fee_addTo S1 I 48 (nI t) d = some (wI (wI (wI (wI I 48 1 (I 48 1 + y1)) 48 2 (I 48 2 + y2)) 48 3 (I 48 3 + y3)) 48 4 (I 48 4 + y4)) := by
    intro y1 y2 y3 y4 e1 e2 e3 e4
    unfold f_Fee_addTo
    rw [e1, lt_c, lt_c, e2, lt_c, lt_c, e3, lt_c, lt_c, e4, lt_c, lt_c, wI_n (a := 48) (b := 48) (k := 1) (j := 2) (by omega)]
    rw [wI_n (a := 48) (b := 48) (k := 2) (j := 3) (by omega), wI_n (a := 48) (b := 48) (k := 1) (j := 3) (by omega)]
    rw [wI_n (a := 48) (b := 48) (k := 3) (j := 4) (by omega), wI_n (a := 48) (b := 48) (k := 2) (j := 4) (by omega), wI_n (a := 48) (b := 48) (k := 1) (j := 4) (by omega)]
  have yes : ∀ c : Int32, nI t = c → ∀ X : Int32 → Option MI, bnd1 (ifb (nI t = c) (some d) (some 0)) X = X d := fun c h X => by rw [ifb_pos h, bnd1_c]
  have no : ∀ c : Int32, ¬ nI t = c → ∀ X : Int32 → Option MI, bnd1 (ifb (nI t = c) (some d) (some 0)) X = X 0 := fun c h X => by rw [ifb_neg h, bnd1_c]
  have hc : t = 104 ∨ t = 120 ∨ t = 115 ∨ t = 97 := by
    unfold lti at hl
    by_cases h1 : t = 104
    · exact Or.inl h1
    by_cases h2 : t = 120
    · exact Or.inr (Or.inl h2)
    by_cases h3 : t = 115
    · exact Or.inr (Or.inr (Or.inl h3))
    by_cases h4 : t = 97
    · exact Or.inr (Or.inr (Or.inr h4))
    rw [if_neg h1, if_neg h2, if_neg h3, if_neg h4] at hl
    exact absurd rfl hl
  rcases hc with rfl | rfl | rfl | rfl
  · obtain ⟨k1, k2, k3⟩ := key (I 48 1 + d) (I 48 2 + 0) (I 48 3 + 0) (I 48 4 + 0)
    refine ⟨_, run _ _ _ _ (yes _ rfl) (no _ (by decide)) (no _ (by decide)) (no _ (by decide)), k1, k2, fun i h1 h5 => ?_⟩
    rw [k3 i h1 h5, a0', a0', a0', show lti 104 = 1 from rfl]
    have : i = 1 ∨ i = 2 ∨ i = 3 ∨ i = 4 := by omega
    rcases this with rfl | rfl | rfl | rfl <;> rfl
  · obtain ⟨k1, k2, k3⟩ := key (I 48 1 + 0) (I 48 2 + d) (I 48 3 + 0) (I 48 4 + 0)
    refine ⟨_, run _ _ _ _ (no _ (by decide)) (yes _ rfl) (no _ (by decide)) (no _ (by decide)), k1, k2, fun i h1 h5 => ?_⟩
    rw [k3 i h1 h5, a0', a0', a0', show lti 120 = 2 from rfl]
    have : i = 1 ∨ i = 2 ∨ i = 3 ∨ i = 4 := by omega
    rcases this with rfl | rfl | rfl | rfl <;> rfl
  · obtain ⟨k1, k2, k3⟩ := key (I 48 1 + 0) (I 48 2 + 0) (I 48 3 + d) (I 48 4 + 0)
    refine ⟨_, run _ _ _ _ (no _ (by decide)) (no _ (by decide)) (yes _ rfl) (no _ (by decide)), k1, k2, fun i h1 h5 => ?_⟩
    rw [k3 i h1 h5, a0', a0', a0', show lti 115 = 3 from rfl]
    have : i = 1 ∨ i = 2 ∨ i = 3 ∨ i = 4 := by omega
    rcases this with rfl | rfl | rfl | rfl <;> rfl
  · obtain ⟨k1, k2, k3⟩ := key (I 48 1 + 0) (I 48 2 + 0) (I 48 3 + 0) (I 48 4 + d)
    refine ⟨_, run _ _ _ _ (no _ (by decide)) (no _ (by decide)) (no _ (by decide)) (yes _ rfl), k1, k2, fun i h1 h5 => ?_⟩
    rw [k3 i h1 h5, a0', a0', a0', show lti 97 = 4 from rfl]
    have : i = 1 ∨ i = 2 ∨ i = 3 ∨ i = 4 := by omega
    rcases this with rfl | rfl | rfl | rfl <;> rfl
/-- one round of the loop, ahead of what the sign is -/
theorem cl_pre (hG : 1000 ≤ G) (hq : q ≤ 30) : ∃ F, G - q = F + 1 ∧ F = G - (q + 1) := ⟨G - (q + 1), by omega, rfl⟩
theorem n30 {q : Nat} (hq : q ≤ 30) : ¬ 30 < nI q := by rw [show (30 : Int32) = nI 30 from rfl, lt32 (by omega) (by omega)]; omega
theorem e30 {q : Nat} (hq : q < 30) : ¬ nI q = 30 := by rw [show (30 : Int32) = nI 30 from rfl, eq32 (by omega) (by omega)]; omega
theorem y15_c {t : Nat} (ht : t < 256) {X : Int32 → Option (Int32 × MI)} : bnd1 (ifb (nI t = -1) (some 1) (ifb (nI t = 43) (some 1) (ifb (nI t = 45) (some 1) (some 0)))) X = X (if t = 43 ∨ t = 45 then 1 else 0) := by
  rw [ifb_neg (nIm1 (by omega))]
  by_cases h1 : t = 43
  · subst h1; rw [ifb_pos (by rfl), bnd1_c]; rfl
  · rw [ifb_neg (show ¬ nI t = 43 from nq ht (show 43 < 256 by omega) h1)]
    by_cases h2 : t = 45
    · subst h2; rw [ifb_pos (by rfl), bnd1_c]; rfl
    · rw [ifb_neg (show ¬ nI t = 45 from nq ht (show 45 < 256 by omega) h2), bnd1_c, if_neg (by omega)]
theorem vst {st k : Nat} (h : st ≤ 4) (hk : k ≤ 4) : nI st = nI k ↔ st = k := eq32 (by omega) (by omega)
set_option maxRecDepth 100000 in
theorem clD (hR : RG p fe R) (hG : 1000 ≤ G) (hX : CX n τ I) (hq : q < 30) (hqn : q < n) (hd : dig (τ q)) (hst : st ≤ 1) : cl G R I st sg num q = cl G R I (st + 1) sg (num * 10 + τ q - 48) (q + 1) := by
  obtain ⟨ht, h2⟩ := hX.2.2 q hqn
  have ea := at_c hR hX.2.1 hX.1 hqn h2
  obtain ⟨t, hte⟩ : ∃ t, t = τ q := ⟨_, rfl⟩
  rw [← hte] at ht ea hd ⊢
  unfold cl
  rw [show G - q = (G - (q + 1)) + 1 by omega, l_Fee_learn_29, ifb_neg (n30 (by omega)), asrt_pos (show (S1 1).1 = 8 from rfl), ea, bnd1_c]
  have c1 := e30 hq
  have c2 : ¬ nI t < 48 := by rw [show (48 : Int32) = nI 48 from rfl, lt32 (by omega) (by omega)]; unfold dig at hd; omega
  have c3 : ¬ 57 < nI t := by rw [show (57 : Int32) = nI 57 from rfl, lt32 (by omega) (by omega)]; unfold dig at hd; omega
  have c4 : ¬ 1 < nI st := by rw [show (1 : Int32) = nI 1 from rfl, lt32 (by omega) (by omega)]; omega
  rw [y15_c ht, ifb_neg c1, ifb_neg c2, ifb_neg c3, ifb_neg c4, show (10 : Int32) = nI 10 from rfl, pk_mul, nI_add, show (48 : Int32) = nI 48 from rfl, pk_sub (by unfold dig at hd; omega), lt_c, nI_1, nI_1]
theorem clS (hR : RG p fe R) (hG : 1000 ≤ G) (hX : CX n τ I) (hq : q < 30) (hqn : q < n) (hd : τ q = 42) (hst : st = 1 ∨ st = 2) : cl G R I st sg num q = cl G R I 3 sg num (q + 1) := by
  obtain ⟨ht, h2⟩ := hX.2.2 q hqn
  have ea := at_c hR hX.2.1 hX.1 hqn h2
  rw [hd] at ht ea
  unfold cl
  rw [show G - q = (G - (q + 1)) + 1 by omega, l_Fee_learn_29, ifb_neg (n30 (by omega)), asrt_pos (show (S1 1).1 = 8 from rfl), ea, bnd1_c, y15_c ht, ifb_neg (e30 hq), ifb_pos (show nI 42 < 48 by decide), ifb_pos (show nI 42 = 42 by rfl)]
  rcases hst with rfl | rfl
  · rw [ifb_pos (show nI 1 = 1 by rfl), nI_1]; rfl
  · rw [ifb_neg (show ¬ nI 2 = 1 by decide), ifb_pos (show nI 2 = 2 by rfl), nI_1]; rfl
theorem lti_big {t : Nat} (h : lti t ≠ 0) : 57 < t ∧ t < 256 := by
  unfold lti at h
  by_cases h1 : t = 104
  · omega
  by_cases h2 : t = 120
  · omega
  by_cases h3 : t = 115
  · omega
  by_cases h4 : t = 97
  · omega
  rw [if_neg h1, if_neg h2, if_neg h3, if_neg h4] at h
  exact absurd rfl h
theorem clL (hR : RG p fe R) (hG : 1000 ≤ G) (hX : CX n τ I) (hq : q < 30) (hqn : q < n) (hl : lti (τ q) ≠ 0) (hst : (st = 0 ∧ num = 0) ∨ st = 3) : ∃ I', cl G R I st sg num q = cl G R I' 4 sg 0 (q + 1) ∧ Fr f48 I I' ∧ I' 48 0 = I 48 0 ∧ ∀ i, 1 ≤ i → i < 5 → I' 48 i = if i = lti (τ q) then I 48 i + iI sg * (if st = 0 then 1 else nI num) else I 48 i := by
  obtain ⟨ht, h2⟩ := hX.2.2 q hqn
  have ea := at_c hR hX.2.1 hX.1 hqn h2
  obtain ⟨t, hte⟩ : ∃ t, t = τ q := ⟨_, rfl⟩
  rw [← hte] at ht ea hl ⊢
  have hb := lti_big hl
  have hd := lti_dig hl
  have c2 : ¬ nI t < 48 := by rw [show (48 : Int32) = nI 48 from rfl, lt32 (by omega) (by omega)]; omega
  have c3 : 57 < nI t := by rw [show (57 : Int32) = nI 57 from rfl, lt32 (by omega) (by omega)]; omega
  have c4 : ¬ nI t = 42 := nq ht (show 42 < 256 by omega) hd.2.1
  have el : f_Fee_isLetter (nI t) = some 1 := by rw [isLetter_c ht, if_neg hl]
  rcases hst with ⟨rfl, rfl⟩ | rfl
  · obtain ⟨I', e, r⟩ := addTo_c (I := I) ht hl (iI sg * 1)
    refine ⟨I', ?_, r⟩
    unfold cl
    rw [show G - q = (G - (q + 1)) + 1 by omega, l_Fee_learn_29, ifb_neg (n30 (by omega)), asrt_pos (show (S1 1).1 = 8 from rfl), ea, bnd1_c, y15_c ht, ifb_neg (e30 hq), ifb_neg c2, ifb_pos c3, ifb_neg c4, el, bnd1_c, ifb_neg (show ¬ (1 : Int32) = 0 by decide), ifb_pos (show nI 0 = 0 by rfl), ifb_pos (show nI 0 = 0 by rfl), bnd1_c, e, bnd1_c, nI_1]
    rfl
  · obtain ⟨I', e, r⟩ := addTo_c (I := I) ht hl (iI sg * nI num)
    refine ⟨I', ?_, r⟩
    unfold cl
    rw [show G - q = (G - (q + 1)) + 1 by omega, l_Fee_learn_29, ifb_neg (n30 (by omega)), asrt_pos (show (S1 1).1 = 8 from rfl), ea, bnd1_c, y15_c ht, ifb_neg (e30 hq), ifb_neg c2, ifb_pos c3, ifb_neg c4, el, bnd1_c, ifb_neg (show ¬ (1 : Int32) = 0 by decide), ifb_neg (show ¬ nI 3 = 0 by decide), ifb_pos (show nI 3 = 3 by rfl), ifb_neg (show ¬ nI 3 = 0 by decide), bnd1_c, e, bnd1_c, nI_1]
    rfl
theorem clP (hR : RG p fe R) (hG : 1000 ≤ G) (hX : CX n τ I) (hq : q < 30) (hqn : q < n) (hd : τ q = 43 ∨ τ q = 45) (hst : st = 1 ∨ st = 2 ∨ st = 4) : cl G R I st sg num q = cl G R (wI I 48 0 (I 48 0 + iI sg * nI num)) 0 (if τ q = 45 then -1 else 1) 0 (q + 1) := by
  obtain ⟨ht, h2⟩ := hX.2.2 q hqn
  have ea := at_c hR hX.2.1 hX.1 hqn h2
  obtain ⟨t, hte⟩ : ∃ t, t = τ q := ⟨_, rfl⟩
  rw [← hte] at ht ea hd ⊢
  have c2 : nI t < 48 := by rw [show (48 : Int32) = nI 48 from rfl, lt32 (by omega) (by omega)]; omega
  have c4 : ¬ nI t = 42 := nq (k := 42) ht (by omega) (by rcases hd with rfl | rfl <;> decide)
  have el : f_Fee_isLetter (nI t) = some 0 := by
    rw [isLetter_c ht]
    rcases hd with rfl | rfl <;> rfl
  have s0 : ¬ nI st = 0 := by rw [nI0, vst (by omega) (by omega)]; omega
  have s3 : ¬ nI st = 3 := by rw [show (3 : Int32) = nI 3 from rfl, vst (by omega) (by omega)]; omega
  have go : l_Fee_learn_29 S1 R 48 1 (G - (q + 1)) (wI I 48 0 (I 48 0 + iI sg * nI num)) 0 (if t = 45 then -1 else 1) 0 (nI (q + 1)) = cl G R (wI I 48 0 (I 48 0 + iI sg * nI num)) 0 (if t = 45 then -1 else 1) 0 (q + 1) := by
    unfold cl
    by_cases h : t = 45
    · rw [if_pos h, if_pos h]; rfl
    · rw [if_neg h, if_neg h]; rfl
  rw [← go]
  have c1 : ∀ P, P = l_Fee_learn_29 S1 R 48 1 (G - (q + 1)) (wI I 48 0 (I 48 0 + iI sg * nI num)) 0 (if t = 45 then -1 else 1) 0 (nI (q + 1)) → (if nI st = 0 then True else True) → ifb (nI t = -1) (some ((-1 : Int32), wI I 48 0 (I 48 0 + iI sg * nI num))) (bnd1 (ifb (nI t = 45) (some (-1)) (some 1)) fun (y36 : Int32) => l_Fee_learn_29 S1 R 48 1 (G - (q + 1)) (wI I 48 0 (I 48 0 + iI sg * nI num)) 0 y36 0 (nI q + 1)) = P := by
    intro P hP _
    rw [hP, ifb_neg (nIm1 (by omega)), nI_1]
    by_cases h : t = 45
    · rw [if_pos h, ifb_pos (by rw [h]; rfl), bnd1_c]
    · rw [if_neg h, ifb_neg (show ¬ nI t = 45 from nq ht (show 45 < 256 by omega) h), bnd1_c]
  unfold cl
  rw [show G - q = (G - (q + 1)) + 1 by omega, l_Fee_learn_29, ifb_neg (n30 (by omega)), asrt_pos (show (S1 1).1 = 8 from rfl), ea, bnd1_c, y15_c ht, if_pos hd, ifb_neg (e30 hq), ifb_pos c2, ifb_neg c4, el, bnd1_c, ifb_pos rfl, ifb_neg (show ¬ (1 : Int32) = 0 by decide), ifb_neg s0, ifb_neg s3, lt_c, lt_c]
  exact c1 _ rfl (by split <;> trivial)
theorem clE (hG : 1000 ≤ G) (hX : CX n τ I) (hq : n ≤ 30) (hst : st = 1 ∨ st = 2 ∨ st = 4) : cl G R I st sg num n = some (-1, wI I 48 0 (I 48 0 + iI sg * nI num)) := by
  have ea := at_o (R := R) (q := n) hX.2.1 hX.1 (Nat.le_refl _) (by omega)
  have el : f_Fee_isLetter (-1) = some 0 := by
    unfold f_Fee_isLetter
    rw [ifb_neg (by decide), ifb_neg (by decide), ifb_neg (by decide), ifb_neg (by decide), bnd1_c, asrt_pos (Or.inl rfl)]
  have s0 : ¬ nI st = 0 := by rw [nI0, vst (by omega) (by omega)]; omega
  have s3 : ¬ nI st = 3 := by rw [show (3 : Int32) = nI 3 from rfl, vst (by omega) (by omega)]; omega
  unfold cl
  rw [show G - n = (G - (n + 1)) + 1 by omega, l_Fee_learn_29, ifb_neg (n30 hq), asrt_pos (show (S1 1).1 = 8 from rfl), ea, bnd1_c, ifb_pos rfl, bnd1_c]
  by_cases h30 : n = 30
  · rw [ifb_pos (by rw [h30]; rfl), ifb_pos rfl, ifb_pos (by decide), ifb_neg (by decide), el, bnd1_c, ifb_pos rfl, ifb_neg (by decide), ifb_neg s0, ifb_neg s3, lt_c, lt_c, ifb_pos rfl]
  · rw [ifb_neg (e30 (by omega)), ifb_pos (by decide), ifb_neg (by decide), el, bnd1_c, ifb_pos rfl, ifb_neg (by decide), ifb_neg s0, ifb_neg s3, lt_c, lt_c, ifb_pos rfl]
theorem clXb (hG : 1000 ≤ G) (hX : CX n τ I) (hq : n ≤ 30) (hst : st = 0 ∨ st = 3) : cl G R I st sg num n = some (nI n, I) := by
  have ea := at_o (R := R) (q := n) hX.2.1 hX.1 (Nat.le_refl _) (by omega)
  have el : f_Fee_isLetter (-1) = some 0 := by
    unfold f_Fee_isLetter
    rw [ifb_neg (by decide), ifb_neg (by decide), ifb_neg (by decide), ifb_neg (by decide), bnd1_c, asrt_pos (Or.inl rfl)]
  have fin : ∀ X : Option (Int32 × MI), ifb (nI st = 0) (some (nI n, I)) (ifb (nI st = 3) (some (nI n, I)) X) = some (nI n, I) := by
    intro X
    rcases hst with rfl | rfl
    · rw [ifb_pos (show nI 0 = 0 by rfl)]
    · rw [ifb_neg (show ¬ nI 3 = 0 by decide), ifb_pos (show nI 3 = 3 by rfl)]
  unfold cl
  rw [show G - n = (G - (n + 1)) + 1 by omega, l_Fee_learn_29, ifb_neg (n30 hq), asrt_pos (show (S1 1).1 = 8 from rfl), ea, bnd1_c, ifb_pos rfl, bnd1_c]
  by_cases h30 : n = 30
  · rw [ifb_pos (by rw [h30]; rfl), ifb_pos rfl, ifb_pos (by decide), ifb_neg (by decide), el, bnd1_c, ifb_pos rfl, ifb_neg (by decide), fin]
  · rw [ifb_neg (e30 (by omega)), ifb_pos (by decide), ifb_neg (by decide), el, bnd1_c, ifb_pos rfl, ifb_neg (by decide), fin]
theorem clXa (hR : RG p fe R) (hG : 1000 ≤ G) (hX : CX n τ I) (hn : 30 < n) : cl G R I st sg num 30 = some (nI 30, I) := by
  obtain ⟨ht, h2⟩ := hX.2.2 30 hn
  have ea := at_c hR hX.2.1 hX.1 hn h2
  unfold cl
  rw [show G - 30 = (G - (30 + 1)) + 1 by omega, l_Fee_learn_29, ifb_neg (n30 (by omega)), asrt_pos (show (S1 1).1 = 8 from rfl), ea, bnd1_c, y15_c ht, ifb_pos (show nI 30 = 30 by rfl), ifb_neg (nIm1 (by omega))]
def okS (t st : Nat) : Prop := (dig t ∧ st ≤ 1) ∨ (t = 42 ∧ (st = 1 ∨ st = 2)) ∨ (lti t ≠ 0 ∧ (st = 0 ∨ st = 3)) ∨ ((t = 43 ∨ t = 45) ∧ st ≠ 0 ∧ st ≠ 3)
theorem clXc (hR : RG p fe R) (hG : 1000 ≤ G) (hX : CX n τ I) (hq : q < 30) (hqn : q < n) (hst : st ≤ 4) (hno : ¬ okS (τ q) st) : cl G R I st sg num q = some (nI q, I) := by
  obtain ⟨ht, h2⟩ := hX.2.2 q hqn
  have ea := at_c hR hX.2.1 hX.1 hqn h2
  obtain ⟨t, hte⟩ : ∃ t, t = τ q := ⟨_, rfl⟩
  rw [← hte] at ht ea hno
  unfold okS at hno
  have s0 : nI st = 0 ↔ st = 0 := by rw [nI0]; exact vst hst (by omega)
  have s1 : nI st = 1 ↔ st = 1 := by rw [show (1 : Int32) = nI 1 from rfl]; exact vst hst (by omega)
  have s2 : nI st = 2 ↔ st = 2 := by rw [show (2 : Int32) = nI 2 from rfl]; exact vst hst (by omega)
  have s3 : nI st = 3 ↔ st = 3 := by rw [show (3 : Int32) = nI 3 from rfl]; exact vst hst (by omega)
  have l1 : 1 < nI st ↔ 1 < st := by rw [show (1 : Int32) = nI 1 from rfl, lt32 (by omega) (by omega)]
  have l48 : nI t < 48 ↔ t < 48 := by rw [show (48 : Int32) = nI 48 from rfl, lt32 (by omega) (by omega)]
  have l57 : 57 < nI t ↔ 57 < t := by rw [show (57 : Int32) = nI 57 from rfl, lt32 (by omega) (by omega)]
  have l42 : nI t = 42 ↔ t = 42 := by rw [show (42 : Int32) = nI 42 from rfl]; exact eq32 (by omega) (by omega)
  unfold cl
  rw [show G - q = (G - (q + 1)) + 1 by omega, l_Fee_learn_29, ifb_neg (n30 (by omega)), asrt_pos (show (S1 1).1 = 8 from rfl), ea, bnd1_c, y15_c ht, ifb_neg (e30 hq)]
  by_cases h48 : t < 48
  · have hl0 : lti t = 0 := by
      by_cases h : lti t = 0
      · exact h
      · have := lti_big h; omega
    have el : f_Fee_isLetter (nI t) = some 0 := by rw [isLetter_c ht, if_pos hl0]
    rw [ifb_pos (l48.mpr h48)]
    by_cases h42 : t = 42
    · rw [ifb_pos (l42.mpr h42), ifb_neg (fun z => hno (Or.inr (Or.inl ⟨h42, Or.inl (s1.mp z)⟩))), ifb_neg (fun z => hno (Or.inr (Or.inl ⟨h42, Or.inr (s2.mp z)⟩))), el, bnd1_c, ifb_pos rfl, if_neg (by omega), ifb_pos rfl]
    · rw [ifb_neg (fun z => h42 (l42.mp z)), el, bnd1_c, ifb_pos rfl]
      by_cases h45 : t = 43 ∨ t = 45
      · rw [if_pos h45, ifb_neg (by decide)]
        by_cases hs0 : st = 0
        · rw [ifb_pos (s0.mpr hs0)]
        · have hs3 : st = 3 := by
            by_cases h : st = 3
            · exact h
            · exact absurd (Or.inr (Or.inr (Or.inr ⟨h45, hs0, h⟩))) hno
          rw [ifb_neg (fun z => hs0 (s0.mp z)), ifb_pos (s3.mpr hs3)]
      · rw [if_neg h45, ifb_pos rfl]
  rw [ifb_neg (fun z => h48 (l48.mp z))]
  have h42 : ¬ nI t = 42 := fun z => by have := l42.mp z; omega
  have hy : ¬ (t = 43 ∨ t = 45) := by omega
  by_cases h57 : 57 < t
  · rw [ifb_pos (l57.mpr h57), ifb_neg h42, isLetter_c ht, bnd1_c]
    by_cases hl : lti t = 0
    · rw [if_pos hl, ifb_pos rfl, if_neg hy, ifb_pos rfl]
    · rw [if_neg hl, ifb_neg (by decide), ifb_neg (fun z => hno (Or.inr (Or.inr (Or.inl ⟨hl, Or.inl (s0.mp z)⟩)))), ifb_neg (fun z => hno (Or.inr (Or.inr (Or.inl ⟨hl, Or.inr (s3.mp z)⟩)))), if_neg hy, ifb_pos rfl]
  · have hd : dig t := by unfold dig; omega
    have hl0 : lti t = 0 := by
      by_cases h : lti t = 0
      · exact h
      · have := lti_big h; omega
    have el : f_Fee_isLetter (nI t) = some 0 := by rw [isLetter_c ht, if_pos hl0]
    have h1 : 1 < st := by
      by_cases h : 1 < st
      · exact h
      · exact absurd (Or.inl ⟨hd, by omega⟩) hno
    rw [ifb_neg (fun z => h57 (l57.mp z)), ifb_pos (l1.mpr h1), ifb_neg h42, el, bnd1_c, ifb_pos rfl, if_neg hy, ifb_pos rfl]
end FE
