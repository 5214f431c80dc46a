section FG'
variable {W H m n k q G st num a b B : Nat} {K τ : Nat → Nat} {I I' J J' : MI} {L L' : ML} {R : MR} {p : Bool} {fe : Nat} {f f' : Nat → Int} {sg : Int} {i : Nat}
/-- how both end: the model says whether all could stand, and where it is; the class where the fault is -/
def FIN (n m P : Nat) (x52 : Int32) (J' : MI) (r : Int32) (I' : MI) : Prop := P ≤ m ∧ J' 90 18 = nI P ∧ (x52 = 0 ∨ x52 = 1) ∧ ((x52 = 1 ∧ P = n ∧ n ≤ 30 ∧ r = -1 ∧ ∃ f', bdF f' 30 ∧ (∀ i, i < 5 → I' 48 i = iI (f' i)) ∧ ∀ i, i < 5 → J' 98 i = iI (f' i)) ∨ (¬ (x52 = 1 ∧ P = n ∧ n ≤ 30) ∧ r = nI P))
theorem bdF0 {q : Nat} : bdF (fun _ => 0) q := fun i hi => ⟨by show -(99 * (q : Int)) ≤ (0 : Int); omega, by show (0 : Int) ≤ 99 * (q : Int); omega⟩
theorem fee60 {g : Nat} (hg : 1000 ≤ g) (hR : RG p fe R) (hG : 1000 ≤ G) (hm : m = min n 30) : ∀ F q st num (sg : Int) (f : Nat → Int) (I J : MI), m < q + F → 1 < F → CX n τ I → MX n τ m q f J → FcI f sg num I → bdF f q → (sg = 1 ∨ sg = -1) → (st = 1 ∨ st = 2 ∨ st = 4) → (q < m → st = 1 → ¬ dig (τ q)) → (q < m → st ≠ 4 → τ q ≠ 42) →
    ∃ (x52 : Int32) (J' : MI) (r : Int32) (I' : MI) (P : Nat), l_Mod_fee_60 g S1 R 90 (nI n) F J 1 1 = some (x52, J') ∧ cl G R I st sg num q = some (r, I') ∧ Fr fMX J J' ∧ Fr f48 I I' ∧ FIN n m P x52 J' r I' := by
  intro F
  induction F with
  | zero => intro q st num sg f I J h1 h2; omega
  | succ F ih =>
    intro q st num sg f I J h1 h2 hX hM hF hb hs hst hd h42
    have hm30 := hM.1
    have hq := hM.2.2.1
    rw [l_Mod_fee_60, ifb_neg (by decide), ifb_neg (by decide)]
    -- a sign between things, at q
    have go : ∀ (sg' : Int) (J1 : MI), (sg' = 1 ∨ sg' = -1) → q < m → (τ q = 43 ∨ τ q = 45) → (if τ q = 45 then (-1 : Int) else 1) = sg' → MX n τ m (q + 1) f J1 → Fr fMX J J1 →
        ∃ (x52 : Int32) (J' : MI) (r : Int32) (I' : MI) (P : Nat), (bnd2 (bnd2 (f_Mod_readsThing g S1 R J1 90 (iI sg')) fun x48 I49 => ifb (x48 = 0) (some ((0 : Int32), I49)) (some ((1 : Int32), I49))) fun (y40 : Int32) (I41 : MI) => l_Mod_fee_60 g S1 R 90 (nI n) F I41 y40 1) = some (x52, J') ∧ cl G R I st sg num q = some (r, I') ∧ Fr fMX J J' ∧ Fr f48 I I' ∧ FIN n m P x52 J' r I' := by
      intro sg' J1 hs' hqm hpm hsg hM1 hf1
      have ecl := clP (sg := sg) (num := num) (st := st) hR hG hX (show q < 30 by omega) (by omega) hpm hst
      rw [hsg] at ecl
      have hX2 : CX n τ (wI I 48 0 (I 48 0 + iI sg * nI num)) := hX.to (Fr.w Fr.rf rfl : Fr f48 I _) rfl
      have hF2 : FcI f sg' 0 (wI I 48 0 (I 48 0 + iI sg * nI num)) := ⟨by rw [wI_s, mulI0, a0']; exact hF.1, fun i h1 h5 => by rw [wI_n (by omega)]; exact hF.2 i h1 h5⟩
      have hb2 : bdF f (q + 1) := fun i hi => by have := hb i hi; omega
      have r := rthing hg hR hG hm hX2 hM1 hF2 hb2 hs'
      rw [ecl]
      rcases r with ⟨J', I', f', q', st', num', z1, z2, z3, z4, z5, z6, z7, z8, z9, z10, z11⟩ | ⟨J', I', q', z1, z2, z3, z4, z5, z6⟩
      · have hq'm := z4.2.2.1
        obtain ⟨x52, J2, r2, I2, P, e1, e2, e3, e4, e5⟩ := ih q' st' num' sg' f' I' J' (by omega) (by omega) (hX2.to z6 rfl) z4 z7 z8 hs' z9 z10 z11
        refine ⟨x52, J2, r2, I2, P, ?_, z2.trans e2, (hf1.tr z5).tr e3, ((Fr.w Fr.rf rfl).tr z6).tr e4, e5⟩
        rw [z1, bnd2_c, ifb_neg (by decide), bnd2_c]
        exact e1
      · obtain ⟨F, rfl⟩ : ∃ F', F = F' + 1 := ⟨F - 1, by omega⟩
        refine ⟨0, J', nI q', I', q', ?_, z2, hf1.tr z5, (Fr.w Fr.rf rfl).tr z6, z3, z4, Or.inl rfl, Or.inr ⟨fun z => absurd z.1 (by decide), rfl⟩⟩
        rw [z1, bnd2_c, ifb_pos rfl, bnd2_c, l_Mod_fee_60, ifb_pos rfl]
    rcases takes_c hR hM (show 43 < 256 by omega) with ⟨hqm, hp, e⟩ | ⟨hno, e⟩
    · rw [show f_Mod_takes S1 R J 90 43 = some (1, wI J 90 18 (nI (q + 1))) from e, bnd2_c, ifb_neg (by decide), bnd2_c, ifb_neg (by decide), ifb_neg (by decide), bnd1_c]
      exact go 1 _ (Or.inl rfl) hqm (Or.inl hp) (by rw [if_neg (by omega)]) (hM.at (by omega)) (Fr.w Fr.rf rfl)
    rw [show f_Mod_takes S1 R J 90 43 = some (0, wI J 90 18 (nI q)) from e, bnd2_c, ifb_pos rfl]
    have hM1 := hM.at hq
    rcases takes_c hR hM1 (show 45 < 256 by omega) with ⟨hqm, hp, e'⟩ | ⟨hno', e'⟩
    · rw [show f_Mod_takes S1 R (wI J 90 18 (nI q)) 90 45 = some (1, wI (wI J 90 18 (nI q)) 90 18 (nI (q + 1))) from e', bnd2_c, ifb_neg (by decide), bnd2_c, ifb_neg (by decide), ifb_pos rfl, bnd1_c]
      have g1 := go (-1) (wI (wI J 90 18 (nI q)) 90 18 (nI (q + 1))) (Or.inr rfl) hqm (Or.inr hp) (by rw [if_pos hp]) (hM1.at (by omega)) ((Fr.w Fr.rf rfl).w rfl)
      rw [show iI (-1) = (-1 : Int32) from rfl] at g1
      exact g1
    rw [show f_Mod_takes S1 R (wI J 90 18 (nI q)) 90 45 = some (0, wI (wI J 90 18 (nI q)) 90 18 (nI q)) from e', bnd2_c, ifb_pos rfl, bnd2_c, ifb_pos rfl, bnd2_c]
    obtain ⟨F, rfl⟩ : ∃ F', F = F' + 1 := ⟨F - 1, by omega⟩
    rw [l_Mod_fee_60, ifb_neg (by decide), ifb_pos rfl]
    have hM2 := hM1.at hq
    by_cases hqm : q < m
    · refine ⟨1, _, nI q, I, q, rfl, clXc hR hG hX (by omega) (by omega) (by omega) (fun z => ?_), (Fr.w Fr.rf rfl).w rfl, Fr.rf, hq, wI_s, Or.inr rfl, Or.inr ⟨fun z => by have := hM.2.1; omega, rfl⟩⟩
      unfold okS at z
      rcases z with ⟨z1, z2⟩ | ⟨z1, z2⟩ | ⟨z1, z2⟩ | ⟨z1, z2⟩
      · exact hd hqm (by omega) z1
      · exact h42 hqm (by omega) z1
      · omega
      · rcases z1 with z1 | z1
        · exact hno ⟨hqm, z1⟩
        · exact hno' ⟨hqm, z1⟩
    · by_cases hn30 : n ≤ 30
      · have hqn : q = n := by omega
        subst hqn
        refine ⟨1, _, -1, _, q, rfl, clE hG hX hn30 hst, (Fr.w Fr.rf rfl).w rfl, Fr.w Fr.rf rfl, hq, wI_s, Or.inr rfl, Or.inl ⟨rfl, rfl, hn30, rfl, f, fun i hi => by have := hb i hi; omega, fun i hi => ?_, fun i hi => ?_⟩⟩
        · by_cases e0 : i = 0
          · subst e0; rw [wI_s]; exact hF.1
          · rw [wI_n (by omega)]; exact hF.2 i (by omega) hi
        · exact hM2.2.2.2.2.2.2 i hi
      · have hq30 : q = 30 := by omega
        subst hq30
        exact ⟨1, _, nI 30, I, 30, rfl, clXa hR hG hX (by omega), (Fr.w Fr.rf rfl).w rfl, Fr.rf, hq, wI_s, Or.inr rfl, Or.inr ⟨fun z => by omega, rfl⟩⟩
theorem fee_all {g : Nat} (hg : 1000 ≤ g) (hR : RG p fe R) (hm : m = min n 30) (hX : CX n τ I) (h48 : ∀ i, i < 5 → I 48 i = iI 0) (hM : MX n τ m 0 (fun _ => 0) J) : ∃ (x52 : Int32) (J' : MI) (r : Int32) (I' : MI) (P : Nat), (∀ X : Int32 → MI → Option (Int32 × MI), (bnd2 (ifb (nI n = 0) (some ((1 : Int32), J)) (bnd2 (f_Mod_readsThing g S1 R J 90 1) fun x17 I18 => ifb (x17 = 0) (some (0, I18)) (some (1, I18)))) fun (y13 : Int32) (I14 : MI) => bnd1 (ifb (nI n ≤ 0) (some 0) (some 1)) fun (y22 : Int32) => bnd2 (l_Mod_fee_60 g S1 R 90 (nI n) g I14 y13 y22) X) = X x52 J') ∧ cl g R I (if n = 0 then 4 else 0) 1 0 0 = some (r, I') ∧ Fr fMX J J' ∧ Fr f48 I I' ∧ FIN n m P x52 J' r I' := by
  have hn80 := hX.1
  have hF : FcI (fun _ => 0) 1 0 I := ⟨by rw [mulI0, a0']; exact h48 0 (by omega), fun i h1 h5 => h48 i h5⟩
  have hb : bdF (fun _ => 0) 0 := bdF0
  obtain ⟨g', hg'⟩ : ∃ g', g = g' + 1 := ⟨g - 1, by omega⟩
  by_cases hn0 : n = 0
  · subst hn0
    have hm0 : m = 0 := by omega
    refine ⟨1, J, -1, wI I 48 0 (I 48 0 + iI 1 * nI 0), 0, fun X => ?_, ?_, Fr.rf, Fr.w Fr.rf rfl, by omega, hM.2.2.2.2.1, Or.inr rfl, Or.inl ⟨rfl, rfl, by omega, rfl, fun _ => 0, bdF0, fun i hi => ?_, hM.2.2.2.2.2.2⟩⟩
    · rw [ifb_pos (by rfl), bnd2_c, ifb_pos (by decide), bnd1_c, hg', l_Mod_fee_60, ifb_neg (by decide), ifb_pos rfl, bnd2_c]
    · rw [if_pos rfl]
      exact clE (st := 4) hg hX (by omega) (by omega)
    · by_cases e0 : i = 0
      · subst e0; rw [wI_s]; exact hF.1
      · rw [wI_n (by omega)]; exact h48 i hi
  rw [if_neg hn0]
  have c1 : ¬ nI n = 0 := by rw [nI0, eq32 (by omega) (by omega)]; exact hn0
  have c2 : ¬ nI n ≤ 0 := by rw [nI0, le32 (by omega) (by omega)]; omega
  have r := rthing hg hR hg hm hX hM hF hb (Or.inl rfl)
  rcases r with ⟨J', I', f', q', st', num', z1, z2, z3, z4, z5, z6, z7, z8, z9, z10, z11⟩ | ⟨J', I', q', z1, z2, z3, z4, z5, z6⟩
  · obtain ⟨x52, J2, r2, I2, P, e1, e2, e3, e4, e5⟩ := fee60 hg hR hg hm g q' st' num' 1 f' I' J' (by omega) (by omega) (hX.to z6 rfl) z4 z7 z8 (Or.inl rfl) z9 z10 z11
    refine ⟨x52, J2, r2, I2, P, fun X => ?_, z2.trans e2, z5.tr e3, z6.tr e4, e5⟩
    rw [ifb_neg c1, show f_Mod_readsThing g S1 R J 90 1 = some (1, J') from z1, bnd2_c, ifb_neg (by decide), bnd2_c, ifb_neg c2, bnd1_c, e1, bnd2_c]
  · refine ⟨0, J', nI q', I', q', fun X => ?_, z2, z5, z6, z3, z4, Or.inl rfl, Or.inr ⟨fun z => absurd z.1 (by decide), rfl⟩⟩
    rw [ifb_neg c1, show f_Mod_readsThing g S1 R J 90 1 = some (0, J') from z1, bnd2_c, ifb_pos rfl, bnd2_c, ifb_neg c2, bnd1_c, hg', l_Mod_fee_60, ifb_pos rfl, bnd2_c]
theorem fee14 (hR : RG p fe R) {v1 : Int32} : ∀ F k (J : MI), k ≤ 5 → 5 < k + F → (∀ j, j < k → J 98 j = 0) → ∃ J', l_Mod_fee_14 S1 R 90 v1 F J (nI k) = some J' ∧ Fr [(98, none)] J J' ∧ ∀ j, j < 5 → J' 98 j = 0 := by
  intro F
  induction F with
  | zero => intro k J h1 h2; omega
  | succ F ih =>
    intro k J h1 h2 h3
    rw [l_Mod_fee_14]
    by_cases hk : k = 5
    · subst hk
      exact ⟨J, by rw [ifb_pos (by decide)], Fr.rf, h3⟩
    obtain ⟨J', e, f1, r⟩ := ih (k + 1) (wI J 98 k 0) (by omega) (by omega) (fun j hj => by
      by_cases ej : j = k
      · subst ej; exact wI_s
      · rw [wI_n (by omega)]; exact h3 j (by omega))
    refine ⟨J', ?_, (Fr.w Fr.rf rfl).tr f1, r⟩
    rw [ifb_neg (by rw [show (5 : Int32) = nI 5 from rfl, le32 (by omega) (by omega)]; omega), r_90_22 hR, bnd1_c, t_98, asrt_pos rfl, asrt_pos (vir (by omega) (by omega)), cl32 (by omega), lt_c, nI_1]
    exact e
theorem fee147 (hR : RG p fe R) : ∀ F k (J : MI), k ≤ 5 → 5 < k + F → (∀ j, j < k → J 97 j = J 98 j) → ∃ J', l_Mod_fee_147 S1 R 90 F J (nI k) = some J' ∧ Fr [(97, none)] J J' ∧ ∀ j, j < 5 → J' 97 j = J 98 j := by
  intro F
  induction F with
  | zero => intro k J h1 h2; omega
  | succ F ih =>
    intro k J h1 h2 h3
    rw [l_Mod_fee_147]
    by_cases hk : k = 5
    · subst hk
      exact ⟨J, by rw [ifb_pos (by decide)], Fr.rf, h3⟩
    obtain ⟨J', e, f1, r⟩ := ih (k + 1) (wI J 97 k (J 98 k)) (by omega) (by omega) (fun j hj => by
      rw [wI_n (a := 97) (b := 98) (by omega)]
      by_cases ej : j = k
      · subst ej; exact wI_s
      · rw [wI_n (by omega)]; exact h3 j (by omega))
    refine ⟨J', ?_, (Fr.w Fr.rf rfl).tr f1, fun j hj => (r j hj).trans (wI_n (by omega))⟩
    rw [ifb_neg (by rw [show (5 : Int32) = nI 5 from rfl, le32 (by omega) (by omega)]; omega), r_90_21 hR, bnd1_c, r_90_22 hR, bnd1_c, t_98, asrt_pos rfl, asrt_pos (vir (by omega) (by omega)), cl32 (by omega), lt_c, t_97, asrt_pos rfl, asrt_pos (vir (by omega) (by omega)), lt_c, nI_1]
    exact e
def fFE : FT := [(1, some 1), (47, none), (48, none), (97, none), (98, none), (90, some 0), (90, some 17), (90, some 18), (90, some 19)]
theorem op_fee {g : Nat} (hg : 1000 ≤ g) (hC : Cp B I L R) : ∃ v I1 I2, f_GWL_fee g S1 R I 0 = some (v, I1) ∧ f_Mod_fee g S1 R I1 90 = some (v, I2) ∧ Cp (B + 1) I2 L R := by
  obtain ⟨⟨p, fe, hR⟩, hTx, hRw, hWg, hFe, hSh, hMk, W, H, K, hLn, hPt, hPs, hPr, hKp⟩ := hC
  obtain ⟨n, τ, hn, t1, t17, hτ⟩ := id hTx
  obtain ⟨fo, hfo⟩ := id hFe
  -- the draft begun
  obtain ⟨I1, hI1⟩ : ∃ I1, I1 = wI (wI (wI (wI (wI (wI I 48 0 0) 48 1 0) 48 2 0) 48 3 0) 48 4 0) 48 5 (-1) := ⟨_, rfl⟩
  have ew : f_Fee_want S1 I 48 0 0 0 0 = some I1 := by
    unfold f_Fee_want
    rw [lt_c, lt_c, lt_c, lt_c, lt_c, lt_c, hI1]
  have f1 : Fr [(48, none)] I I1 := by rw [hI1]; exact Fr.w (Fr.w (Fr.w (Fr.w (Fr.w (Fr.w Fr.rf rfl) rfl) rfl) rfl) rfl) rfl
  have h48 : ∀ i, i < 5 → I1 48 i = iI 0 := by
    intro i hi
    have : i = 0 ∨ i = 1 ∨ i = 2 ∨ i = 3 ∨ i = 4 := by omega
    rw [hI1]
    rcases this with rfl | rfl | rfl | rfl | rfl
    · rw [wI_n (by omega), wI_n (by omega), wI_n (by omega), wI_n (by omega), wI_n (by omega), wI_s]; rfl
    · rw [wI_n (by omega), wI_n (by omega), wI_n (by omega), wI_n (by omega), wI_s]; rfl
    · rw [wI_n (by omega), wI_n (by omega), wI_n (by omega), wI_s]; rfl
    · rw [wI_n (by omega), wI_n (by omega), wI_s]; rfl
    · rw [wI_n (by omega), wI_s]; rfl
  have h485 : I1 48 5 = -1 := by rw [hI1, wI_s]
  have hX : CX n τ I1 := ⟨hn, (f1 1 1 rfl).trans t1, fun k hk => ⟨(hτ k hk).1, (f1 2 k rfl).trans (hτ k hk).2.1⟩⟩
  -- the model's memory ahead of its reading, and what it comes to
  have model : ∀ Ic : MI, Fr fFE I Ic → Ic 90 17 = I 90 17 → ∃ J10, l_Mod_fee_14 S1 R 90 (nI n) g (wI (wI (wI (wI Ic 90 0 0) 90 17 0) 90 18 0) 90 19 (nI (min n 30))) 0 = some J10 ∧ MX n τ (min n 30) 0 (fun _ => 0) J10 ∧ Fr [(98, none), (90, some 0), (90, some 17), (90, some 18), (90, some 19)] Ic J10 ∧ J10 90 17 = 0 := by
    intro Ic fc h17
    obtain ⟨J10, e1, g1, r1⟩ := fee14 hR (v1 := nI n) g 0 (wI (wI (wI (wI Ic 90 0 0) 90 17 0) 90 18 0) 90 19 (nI (min n 30))) (by omega) (by omega) (fun j hj => by omega)
    have g2 : Fr [(98, none), (90, some 0), (90, some 17), (90, some 18), (90, some 19)] Ic J10 := ((((Fr.w Fr.rf rfl).w rfl).w rfl).w rfl).tr (g1.sub rfl)
    refine ⟨J10, e1, ⟨by omega, by omega, by omega, ?_, ?_, fun k hk => ⟨(hτ k hk).1, ?_⟩, fun i hi => (r1 i hi).trans rfl⟩, g2, ?_⟩
    · rw [g1 90 19 rfl, wI_s]
    · rw [g1 90 18 rfl, wI_n (by omega), wI_s]; rfl
    · rw [g2 95 k rfl, fc 95 k rfl]; exact (hτ k hk).2.2
    · rw [g1 90 17 rfl, wI_n (by omega), wI_n (by omega), wI_s]
  -- what the class answers
  obtain ⟨Ja, -, hMa, -, -⟩ := model I Fr.rf rfl
  obtain ⟨xa, Ja', r, I', Pa, -, ecl, -, fcl, -⟩ := fee_all hg hR rfl hX h48 hMa
  have elearn : f_Fee_learn g S1 R I 48 1 = some (r, I') := by
    have ey : ∀ X : Int32 → Option (Int32 × MI), bnd1 (ifb (nI n = 0) (some 4) (some 0)) X = X (nI (if n = 0 then 4 else 0)) := by
      intro X
      by_cases h0 : n = 0
      · rw [ifb_pos (by rw [h0]; rfl), bnd1_c, if_pos h0]; rfl
      · rw [ifb_neg (by rw [nI0, eq32 (by omega) (by omega)]; exact h0), bnd1_c, if_neg h0]; rfl
    unfold f_Fee_learn
    rw [ew, bnd1_c, asrt_pos (show (S1 1).1 = 8 from rfl), show f_Signs_length S1 I1 1 = some (I1 1 1) from rfl, bnd1_c, hX.2.1, ey]
    exact ecl
  have fI' : Fr fFE I I' := (f1.sub rfl).tr (fcl.sub rfl)
  have h485' : I' 48 5 = -1 := (fcl 48 5 rfl).trans h485
  have fIe : Fr fFE I (wI I' 1 1 0) := fI'.w rfl
  -- the model, behind the class
  have md : ∀ Ic : MI, Fr fFE I Ic → Ic 90 17 = I 90 17 → ∃ (x52 : Int32) (J' : MI) (P : Nat), Fr [(98, none), (90, some 0), (90, some 17), (90, some 18), (90, some 19)] Ic J' ∧ J' 90 17 = 0 ∧ J' 90 19 = nI (min n 30) ∧ FIN n (min n 30) P x52 J' r I' ∧ f_Mod_fee g S1 R Ic 90 = (bnd1 (f_Mod_faultOf S1 J' 90 (nI n) 30 x52) fun x55 => ifb (0 ≤ x55) (bnd1 (l_Mod_fee_147 S1 R 90 g J' 0) fun I67 => some (0, I67)) (some (x55, J'))) := by
    intro Ic fc h17
    have e0 := begins_c (a := 30) (I := wI Ic 90 0 0) (n := n) (by omega) ((wI_n (by omega)).trans (h17.trans t17)) hn
    obtain ⟨J10, eJ, hM, g2, j17⟩ := model Ic fc h17
    obtain ⟨x52, J', r2, I2, P, eX, ecl2, fJ, -, hfin⟩ := fee_all hg hR rfl hX h48 hM
    rw [ecl] at ecl2
    have e12 := Option.some.inj ecl2
    have er : r2 = r := (congrArg Prod.fst e12).symm
    have eI : I2 = I' := (congrArg Prod.snd e12).symm
    rw [er, eI] at hfin
    refine ⟨x52, J', P, g2.tr (fJ.sub rfl), (fJ 90 17 rfl).trans j17, (fJ 90 19 rfl).trans hM.2.2.2.1, hfin, ?_⟩
    unfold f_Mod_fee
    rw [lt_c, show f_Mod_begins_I S1 (wI Ic 90 0 0) 90 30 = _ from e0, bnd2_c]
    rw [eJ, bnd1_c, eX]
  have hneg : ∀ P, P ≤ 30 → ¬ nI P = -1 := fun P hP => nIm1 (by omega)
  by_cases hr : r = -1
  · -- a fee
    subst hr
    obtain ⟨x0, J0, P0, -, -, -, hfin0, -⟩ := md I Fr.rf rfl
    obtain ⟨f', hb', hI', -⟩ : ∃ f', bdF f' 30 ∧ (∀ i, i < 5 → I' 48 i = iI (f' i)) ∧ ∀ i, i < 5 → J0 98 i = iI (f' i) := by
      rcases hfin0.2.2.2 with ⟨-, -, -, -, z⟩ | ⟨-, z⟩
      · exact z
      · exact absurd z.symm (hneg P0 (by have := hfin0.1; omega))
    obtain ⟨I5, e5, f5, g5⟩ := feeTake_c (I := wI I' 1 1 0) (a := 47) (b := 48) rfl rfl (by omega) ⟨fun i hi => (wI_n (by omega)).trans (hI' i hi), (wI_n (by omega)).trans h485'⟩
    have fI5 : Fr fFE I I5 := fIe.tr (f5.sub rfl)
    have h17 : I5 90 17 = I 90 17 := by rw [f5 90 17 rfl, wI_n (by omega), fcl 90 17 rfl, f1 90 17 rfl]
    obtain ⟨x52, J', P, gJ, j17, j19, hfin, emod⟩ := md I5 fI5 h17
    obtain ⟨q1, q2, q3, q4⟩ := hfin
    rcases q4 with ⟨rfl, rfl, q5, -, f'', -, q6, q7⟩ | ⟨-, z⟩
    rotate_left
    · exact absurd z.symm (hneg P (by omega))
    have ef := faultOf_c (I := J') (n := P) (P := P) (gs := 1) q2 j19 hn q1 (Or.inr rfl)
    rw [if_pos q5, if_pos ⟨rfl, rfl⟩] at ef
    obtain ⟨J2, e2, g2, r2⟩ := fee147 hR g 0 J' (by omega) (by omega) (fun j hj => by omega)
    have fJ2 : Fr fFE I J2 := (fI5.tr (gJ.sub rfl)).tr (g2.sub rfl)
    refine ⟨0, I5, J2, ?_, ?_, ?_⟩
    · unfold f_GWL_fee f_Signs_empty
      rw [r_0_8 hR, bnd1_c, r_0_0 hR, bnd1_c, t_48, asrt_pos rfl, elearn, bnd2_c, t_1, asrt_pos rfl, lt_c, bnd1_c, ifb_pos rfl, r_0_7 hR, bnd1_c, t_47, asrt_pos rfl, e5, bnd1_c]
    · rw [emod, ef, bnd1_c, ifb_pos (by decide), show l_Mod_fee_147 S1 R 90 g J' 0 = some J2 from e2, bnd1_c]
    · refine ⟨⟨_, _, hR⟩, ?_, hRw.imp fun _ h => h.imp fun _ h => h.ag (fJ2.ag rfl) (fun _ _ _ => rfl), hWg.imp fun _ h => h.imp fun _ h => h.ag (fJ2.ag rfl), ?_, hSh.ag (fJ2.ag rfl), hMk.imp fun _ h => h.ag (fJ2.ag rfl), W, H, K, hLn.ag (fJ2.ag rfl), hPt.imp fun _ h => h.ag (fJ2.ag rfl), hPs.imp fun _ h => h.imp fun _ h => h.imp fun _ h => h.ag (fJ2.ag rfl), hPr.imp fun _ h => h.imp fun _ h => h.imp fun _ h => h.ag (fJ2.ag rfl), hKp.ag (fJ2.ag rfl)⟩
      · exact Txt0 (by rw [g2 1 1 rfl, gJ 1 1 rfl, f5 1 1 rfl, wI_s]) ((g2 90 17 rfl).trans j17)
      · refine ⟨f', fun i hi => by have := hb' i hi; omega, ⟨fun i hi => ?_, ?_⟩, fun i hi => ?_⟩
        · rw [g2 47 i rfl, gJ 47 i rfl]; exact g5.1 i hi
        · rw [g2 47 5 rfl, gJ 47 5 rfl]; exact g5.2
        · rw [r2 i hi, q7 i hi, ← q6 i hi]; exact hI' i hi
  · have fz : Fr [(1, some 1), (48, none)] I (wI I' 1 1 0) := ((f1.sub rfl).tr (fcl.sub rfl)).w rfl
    have h17 : wI I' 1 1 0 90 17 = I 90 17 := by rw [wI_n (by omega), fcl 90 17 rfl, f1 90 17 rfl]
    obtain ⟨x52, J', P, gJ, j17, j19, hfin, emod⟩ := md (wI I' 1 1 0) fIe h17
    obtain ⟨q1, q2, q3, q4⟩ := hfin
    rcases q4 with ⟨-, -, -, z, -⟩ | ⟨q5, q6⟩
    · exact absurd z hr
    have ef := faultOf_c (I := J') (n := n) (P := P) (gs := x52) q2 j19 hn q1 q3
    have ev : (if n ≤ 30 then (if x52 = 1 ∧ P = n then 0 else -1 - nI P) else if x52 = 1 ∧ P = 30 then -1 - nI 30 else if P < 30 then -1 - nI P else -1 - nI 30) = -1 - nI P := by
      by_cases hn30 : n ≤ 30
      · rw [if_pos hn30, if_neg (fun z => q5 ⟨z.1, z.2, hn30⟩)]
      · rw [if_neg hn30]
        by_cases e30 : P = 30
        · rw [e30]
          split
          · rfl
          · rfl
        · rw [if_neg (fun z => e30 z.2), if_pos (by omega)]
    rw [ev] at ef
    have fJ2 : Fr [(1, some 1), (48, none), (98, none), (90, some 0), (90, some 17), (90, some 18), (90, some 19)] I J' := (fz.sub rfl).tr (gJ.sub rfl)
    refine ⟨-1 - nI P, wI I' 1 1 0, J', ?_, ?_, ?_⟩
    · unfold f_GWL_fee f_Signs_empty
      rw [r_0_8 hR, bnd1_c, r_0_0 hR, bnd1_c, t_48, asrt_pos rfl, elearn, bnd2_c, t_1, asrt_pos rfl, lt_c, bnd1_c, ifb_neg hr, q6, lt_c]
    · rw [emod, ef, bnd1_c, ifb_neg (neg_k P (by omega))]
    · refine ⟨⟨_, _, hR⟩, ?_, hRw.imp fun _ h => h.imp fun _ h => h.ag (fJ2.ag rfl) (fun _ _ _ => rfl), hWg.imp fun _ h => h.imp fun _ h => h.ag (fJ2.ag rfl), hFe.imp fun _ h => h.ag (fJ2.ag rfl), hSh.ag (fJ2.ag rfl), hMk.imp fun _ h => h.ag (fJ2.ag rfl), W, H, K, hLn.ag (fJ2.ag rfl), hPt.imp fun _ h => h.ag (fJ2.ag rfl), hPs.imp fun _ h => h.imp fun _ h => h.imp fun _ h => h.ag (fJ2.ag rfl), hPr.imp fun _ h => h.imp fun _ h => h.imp fun _ h => h.ag (fJ2.ag rfl), hKp.ag (fJ2.ag rfl)⟩
      exact Txt0 (by rw [gJ 1 1 rfl, wI_s]) j17
end FG'
