section MP
variable {W H m n k q G w r rw a b B P c : Nat} {K τ : Nat → Nat} {I I' J J' : MI} {L L' : ML} {R : MR} {p : Bool} {fe : Nat} {i j : Nat}
/-- so many whole rows, each with its / -/
def STR (τ : Nat → Nat) (w r q : Nat) : Prop := q = r * (w + 1) ∧ (∀ i, i < r → ∀ j, j < w → kt (τ (i * (w + 1) + j)) ≠ 4) ∧ ∀ i, i < r → τ (i * (w + 1) + w) = 47
/-- a moor's text -/
def STF (τ : Nat → Nat) (n w r : Nat) : Prop := (1 ≤ w ∧ w ≤ 6) ∧ (1 ≤ r ∧ r ≤ 6) ∧ n + 1 = r * (w + 1) ∧ (∀ i, i < r → ∀ j, j < w → kt (τ (i * (w + 1) + j)) ≠ 4) ∧ ∀ i, i + 1 < r → τ (i * (w + 1) + w) = 47
def RK (τ : Nat → Nat) (w r : Nat) (J : MI) : Prop := ∀ i, i < r → ∀ j, j < w → J 96 (i * w + j) = nI (kt (τ (i * (w + 1) + j)))
theorem takes2 (hR : RG p fe R) (hn : n ≤ 80) (h : MJ n τ q J) (hq : q ≤ n) : (q < n ∧ τ q = 47 ∧ f_Mod_takes S1 R J 90 47 = some (1, wI J 90 18 (nI (q + 1)))) ∨ (¬ (q < n ∧ τ q = 47) ∧ f_Mod_takes S1 R J 90 47 = some (0, wI J 90 18 (nI q))) := by
  obtain ⟨h4, h5, h6⟩ := h
  unfold f_Mod_takes
  rw [h4, h5]
  by_cases hq : q < n
  · obtain ⟨ht, h95⟩ := h6 q (by omega)
    rw [ifb_neg (by rw [le32 (by omega) (by omega)]; omega), r_90_16 hR, bnd1_c, lt_c, t_95, asrt_pos rfl, asrt_pos (vir (by omega) (by omega)), cl32 (by omega), h95]
    by_cases hd : τ q = 47
    · refine Or.inl ⟨hq, hd, ?_⟩
      rw [ifb_pos (by rw [hd]; rfl), bnd1_c, flag_1, bnd1_c, nI_1, lt_c, lt_c, asrt_pos (Or.inr rfl)]
    · refine Or.inr ⟨fun z => hd z.2, ?_⟩
      rw [ifb_neg (show ¬ nI (τ q) = 47 from nq ht (show 47 < 256 by omega) hd), bnd1_c, flag_0, bnd1_c, a0', lt_c, lt_c, asrt_pos (Or.inl rfl)]
  · refine Or.inr ⟨fun z => hq z.1, ?_⟩
    rw [ifb_pos (by rw [le32 (by omega) (by omega)]; omega), bnd1_c, flag_0, bnd1_c, a0', lt_c, lt_c, asrt_pos (Or.inl rfl)]
theorem MJ.at {q' : Nat} (h : MJ n τ q J) : MJ n τ q' (wI J 90 18 (nI q')) := ⟨(wI_n (by omega)).trans h.1, wI_s, fun k hk => ⟨(h.2.2 k hk).1, (wI_n (by omega)).trans (h.2.2 k hk).2⟩⟩
theorem rows_c {g : Nat} (hg : 1000 ≤ g) (hR : RG p fe R) (hX : CX n τ I) : ∀ F rw w q, 7 < rw + F → rw ≤ 6 → (rw = 0 ∨ (1 ≤ w ∧ w ≤ 6)) → STR τ w rw q → q ≤ n →
    ∃ (ok : Bool) (P w' r' : Nat), cf g R I (if rw = 0 then 6 else w) rw 0 q = some (if ok = true then -1 else nI P) ∧ P ≤ n ∧ (ok = true → STF τ n w' r') ∧
      ∀ J : MI, MJ n τ q J → RK τ w rw J → ∃ (v1 v2 v3 v4 : Int32) (J' : MI), l_Mod_moor_24 g S1 R 90 F J (nI (rw * w)) (nI w) (nI rw) 1 1 = some (v1, v2, v3, v4, J') ∧ Fr fMJ J J' ∧ (ok = false → J' 90 18 = nI P ∧ (v4 = 0 ∨ (v4 = 1 ∧ P < n))) ∧ (ok = true → v1 = nI (r' * w') ∧ v2 = nI w' ∧ v3 = nI r' ∧ v4 = 1 ∧ J' 90 18 = nI n ∧ RK τ w' r' J') := by
  have hn := hX.1
  intro F
  induction F with
  | zero => intro rw w q h1 h2; omega
  | succ F ih =>
    intro rw w q h1 h2 h3 hS hq
    obtain ⟨F', rfl⟩ : ∃ F', F = F' + 1 := ⟨F - 1, by omega⟩
    obtain ⟨g', hg'⟩ : ∃ g', g = g' + 1 := ⟨g - 1, by omega⟩
    obtain ⟨W0, hW0⟩ : ∃ W0, W0 = if rw = 0 then 6 else w := ⟨_, rfl⟩
    rw [← hW0]
    have hW6 : 1 ≤ W0 ∧ W0 ≤ 6 := by
      rw [hW0]
      split
      · omega
      · omega
    have eW0 : ∀ X : Int32 → Option (Int32 × Int32 × Int32 × Int32 × MI), bnd1 (ifb (nI rw = 0) (some 6) (some (nI w))) X = X (nI W0) := by
      intro X
      rw [hW0]
      by_cases h0 : rw = 0
      · rw [ifb_pos (by rw [h0]; rfl), bnd1_c, if_pos h0]; rfl
      · rw [ifb_neg (by rw [nI0, eq32 (by omega) (by omega)]; exact h0), bnd1_c, if_neg h0]
    by_cases h6 : rw = 6
    · subst h6
      have hw : W0 = w := by rw [hW0]; rfl
      refine ⟨false, q, 0, 0, ?_, hq, (fun z => by cases z), fun J hM hK => ?_⟩
      · rw [if_neg (by decide)]
        by_cases hqn : q < n
        · obtain ⟨c1, c2, c3⟩ := cf_sign (w := W0) (rw := 6) (l := 0) hg hR hX (by omega) (by omega) (by omega) hqn
          by_cases hk : kt (τ q) = 4
          · refine c3 hk (fun z => ?_)
            unfold whl at z
            omega
          · exact c1 hk (Or.inl rfl)
        · have hqe : q = n := by omega
          subst hqe
          rcases cf_end (R := R) (w := W0) (rw := 6) (l := 0) hg hX (by omega) (by omega) (by omega) with ⟨z, -⟩ | ⟨-, z⟩
          · unfold whl at z; omega
          · exact z
      · refine ⟨nI (6 * w), nI w, nI (6 + 1), 0, J, ?_, Fr.rf, fun _ => ⟨hM.2.1, Or.inl rfl⟩, (fun z => by cases z)⟩
        have e44 : l_Mod_moor_44 g S1 R 90 (nI w) (nI 6) (nI W0) g J (nI (6 * w)) 0 = some (nI (6 * w), 0, J) := by
          rw [hg', l_Mod_moor_44, ifb_pos (by decide)]
        rw [l_Mod_moor_24, ifb_neg (by decide), eW0, e44, bnd3_c, ifb_neg (show ¬ nI 6 = 0 by decide), bnd1_c, ifb_pos (by decide), bnd1_c, ifb_pos rfl, bnd2_c, nI_1, l_Mod_moor_24, ifb_pos rfl]
    have hrw : rw < 6 := by omega
    obtain ⟨o1, o2, o3⟩ := @runK_ok n q τ W0
    obtain ⟨k, hk⟩ : ∃ k, k = runK τ n q W0 := ⟨_, rfl⟩
    rw [← hk] at o1 o2 o3
    have ecl : cf g R I W0 rw 0 q = cf g R I W0 rw k (q + k) := by
      have := cf_run (w := W0) (rw := rw) hg hR hX hrw hW6.2 k 0 q o2 (by omega)
      rw [Nat.zero_add] at this
      exact this
    have hPn : q + k ≤ n := by
      by_cases h : k = 0
      · omega
      · have := (o2 (k - 1) (by omega)).1; omega
    have hcW : rw * w + W0 ≤ 36 := by
      by_cases h0 : rw = 0
      · rw [h0, Nat.zero_mul]; omega
      · have hw : W0 = w := by rw [hW0, if_neg h0]
        have : (rw + 1) * w ≤ 6 * 6 := Nat.mul_le_mul (by omega) (by omega)
        rw [Nat.succ_mul] at this
        omega
    obtain ⟨w', hw'⟩ : ∃ w', w' = if rw = 0 then k else w := ⟨_, rfl⟩
    have hwh : whl rw k W0 ↔ (0 < k ∧ k = w') := by
      unfold whl
      by_cases h0 : rw = 0
      · rw [hw', if_pos h0]; omega
      · rw [hw', if_neg h0]
        have : W0 = w := by rw [hW0, if_neg h0]
        omega
    -- one round of the model
    have mstep : ∀ J : MI, MJ n τ q J → RK τ w rw J → ∃ J1 : MI, Fr fMJ J J1 ∧ MJ n τ (q + k) J1 ∧ (whl rw k W0 → RK τ w' (rw + 1) J1) ∧ l_Mod_moor_24 g S1 R 90 (F' + 1 + 1) J (nI (rw * w)) (nI w) (nI rw) 1 1 = ifb (whl rw k W0) (bnd2 (bnd2 (f_Mod_takes S1 R J1 90 47) fun x48 I49 => ifb (x48 = 0) (some ((0 : Int32), I49)) (some ((1 : Int32), I49))) fun (y44 : Int32) (I45 : MI) => l_Mod_moor_24 g S1 R 90 (F' + 1) I45 (nI (rw * w + k)) (nI w') (nI (rw + 1)) 1 y44) (some (nI (rw * w + k), nI w', nI (rw + 1), 0, J1)) := by
      intro J hM hK
      obtain ⟨J1, e, f1, g1, g2, g3⟩ := in44 (v2 := nI w) (c := rw * w) hg hR hn hrw hW6.2 hcW hM hq
      rw [← hk] at e g1 g2
      refine ⟨J1, f1, g1, fun hwl => ?_, ?_⟩
      · have hkw := (hwh.mp hwl).2
        intro i hi j hj
        by_cases h0 : rw = 0
        · have hi0 : i = 0 := by omega
          subst hi0
          have := g2 j (by omega)
          rw [h0, Nat.zero_mul, Nat.zero_add] at this
          have hq0 : q = 0 := by rw [hS.1, h0, Nat.zero_mul]
          rw [hq0, Nat.zero_add] at this
          rw [Nat.zero_mul, Nat.zero_mul, Nat.zero_add]
          exact this
        · have hww : w' = w := by rw [hw', if_neg h0]
          rw [hww] at hj hkw ⊢
          by_cases hi' : i = rw
          · subst hi'
            have := g2 j (by omega)
            rw [hS.1] at this
            exact this
          · have hlt : i * w + j < rw * w := by
              have : (i + 1) * w ≤ rw * w := Nat.mul_le_mul (by omega) (Nat.le_refl _)
              rw [Nat.succ_mul] at this
              omega
            rw [g3 _ hlt]
            exact hK i (by omega) j hj
      · have ey35 : ∀ X : Int32 → Option (Int32 × Int32 × Int32 × Int32 × MI), bnd1 (ifb (nI rw = 0) (some (nI k)) (some (nI w))) X = X (nI w') := by
          intro X
          rw [hw']
          by_cases h0 : rw = 0
          · rw [ifb_pos (by rw [h0]; rfl), bnd1_c, if_pos h0]
          · rw [ifb_neg (by rw [nI0, eq32 (by omega) (by omega)]; exact h0), bnd1_c, if_neg h0]
        have hw'6 : w' < 100 := by
          rw [hw']
          split <;> omega
        rw [l_Mod_moor_24, ifb_neg (by decide), eW0, show l_Mod_moor_44 g S1 R 90 (nI w) (nI rw) (nI W0) g J (nI (rw * w)) 0 = some (nI (rw * w + k), nI k, J1) from e, bnd3_c, ey35, nI_1]
        by_cases hwl : whl rw k W0
        · have hkw := hwh.mp hwl
          rw [ifb_pos hwl, ifb_neg (by rw [nI0, le32 (by omega) (by omega)]; omega), ifb_pos (by rw [hkw.2]), bnd1_c, ifb_neg (by decide)]
        · rw [ifb_neg hwl]
          by_cases hk0 : k = 0
          · rw [ifb_pos (by rw [nI0, le32 (by omega) (by omega)]; omega), bnd1_c, ifb_pos rfl, bnd2_c, l_Mod_moor_24, ifb_pos rfl]
          · rw [ifb_neg (by rw [nI0, le32 (by omega) (by omega)]; omega), ifb_neg (by rw [eq32 (by omega) (by omega)]; exact fun z => hwl (hwh.mpr ⟨by omega, z⟩)), bnd1_c, ifb_pos rfl, bnd2_c, l_Mod_moor_24, ifb_pos rfl]
    -- where the row can't stand
    have bad : cf g R I W0 rw k (q + k) = some (nI (q + k)) → ((whl rw k W0 → q + k < n ∧ τ (q + k) ≠ 47)) →
        ∃ (ok : Bool) (P w' r' : Nat), cf g R I W0 rw 0 q = some (if ok = true then -1 else nI P) ∧ P ≤ n ∧ (ok = true → STF τ n w' r') ∧
        ∀ J : MI, MJ n τ q J → RK τ w rw J → ∃ (v1 v2 v3 v4 : Int32) (J' : MI), l_Mod_moor_24 g S1 R 90 (F' + 1 + 1) J (nI (rw * w)) (nI w) (nI rw) 1 1 = some (v1, v2, v3, v4, J') ∧ Fr fMJ J J' ∧ (ok = false → J' 90 18 = nI P ∧ (v4 = 0 ∨ (v4 = 1 ∧ P < n))) ∧ (ok = true → v1 = nI (r' * w') ∧ v2 = nI w' ∧ v3 = nI r' ∧ v4 = 1 ∧ J' 90 18 = nI n ∧ RK τ w' r' J') := by
      intro hc hno
      refine ⟨false, q + k, 0, 0, ecl.trans (by rw [hc, if_neg (by decide)]), hPn, (fun z => by cases z), fun J hM hK => ?_⟩
      obtain ⟨J1, f1, hM1, -, e⟩ := mstep J hM hK
      by_cases hwl : whl rw k W0
      · obtain ⟨z1, z2⟩ := hno hwl
        rcases takes2 hR hn hM1 hPn with ⟨-, z, -⟩ | ⟨-, e2⟩
        · exact absurd z z2
        · refine ⟨nI (rw * w + k), nI w', nI (rw + 1), 1, wI J1 90 18 (nI (q + k)), ?_, f1.w rfl, fun _ => ⟨wI_s, Or.inr ⟨rfl, z1⟩⟩, (fun z => by cases z)⟩
          rw [e, ifb_pos hwl, e2, bnd2_c, ifb_pos rfl, bnd2_c, l_Mod_moor_24, ifb_pos rfl]
      · exact ⟨_, _, _, 0, J1, by rw [e, ifb_neg hwl], f1, fun _ => ⟨hM1.2.1, Or.inl rfl⟩, (fun z => by cases z)⟩
    by_cases hlt : q + k < n
    · obtain ⟨c1, c2, c3⟩ := cf_sign (w := W0) (rw := rw) (l := k) hg hR hX (by omega) (by omega) (by omega) hlt
      by_cases hk4 : kt (τ (q + k)) = 4
      · by_cases hgo : τ (q + k) = 47 ∧ whl rw k W0
        · -- the next row
          obtain ⟨h47, hwl⟩ := hgo
          have hkw := hwh.mp hwl
          have hmul : (rw + 1) * (w' + 1) = q + k + 1 ∧ (rw + 1) * w' = rw * w + k := by
            by_cases h0 : rw = 0
            · rw [h0, hS.1, h0, Nat.zero_mul, Nat.zero_mul, Nat.zero_add, Nat.one_mul, Nat.one_mul]
              omega
            · have hww : w' = w := by rw [hw', if_neg h0]
              rw [hww, Nat.succ_mul, Nat.succ_mul, ← hS.1]
              omega
          have hS' : STR τ w' (rw + 1) (q + k + 1) := by
            refine ⟨hmul.1.symm, fun i hi j hj => ?_, fun i hi => ?_⟩
            · by_cases h0 : rw = 0
              · have hi0 : i = 0 := by omega
                subst hi0
                rw [Nat.zero_mul, Nat.zero_add]
                have := (o2 j (by omega)).2
                rw [hS.1, h0, Nat.zero_mul, Nat.zero_add] at this
                exact this
              · have hww : w' = w := by rw [hw', if_neg h0]
                rw [hww] at hj hkw ⊢
                by_cases hi' : i = rw
                · subst hi'
                  have := (o2 j (by omega)).2
                  rw [hS.1] at this
                  exact this
                · exact hS.2.1 i (by omega) j hj
            · by_cases h0 : rw = 0
              · have hi0 : i = 0 := by omega
                subst hi0
                rw [Nat.zero_mul, Nat.zero_add, ← hkw.2]
                have := h47
                rw [hS.1, h0, Nat.zero_mul, Nat.zero_add] at this
                exact this
              · have hww : w' = w := by rw [hw', if_neg h0]
                rw [hww] at hkw ⊢
                by_cases hi' : i = rw
                · subst hi'
                  have := h47
                  rw [hS.1, hkw.2] at this
                  exact this
                · exact hS.2.2 i (by omega)
          obtain ⟨ok, P, w2, r2, a1, a2, a3, a4⟩ := ih (rw + 1) w' (q + k + 1) (by omega) (by omega) (Or.inr ⟨by omega, by omega⟩) hS' (by omega)
          refine ⟨ok, P, w2, r2, ?_, a2, a3, fun J hM hK => ?_⟩
          · rw [ecl, c2 hk4 h47 hwl, ← a1, if_neg (by omega), ← hkw.2]
          · obtain ⟨J1, f1, hM1, hK1, e⟩ := mstep J hM hK
            rcases takes2 hR hn hM1 hPn with ⟨-, -, e2⟩ | ⟨z, -⟩
            · obtain ⟨v1, v2, v3, v4, J', b1, b2, b3, b4⟩ := a4 (wI J1 90 18 (nI (q + k + 1))) hM1.at (fun i hi j hj => (wI_n (by omega)).trans (hK1 hwl i hi j hj))
              refine ⟨v1, v2, v3, v4, J', ?_, (f1.w rfl).tr b2, b3, b4⟩
              rw [e, ifb_pos hwl, e2, bnd2_c, ifb_neg (by decide), bnd2_c, ← hmul.2]
              exact b1
            · exact absurd ⟨hlt, h47⟩ z
        · exact bad (c3 hk4 hgo) (fun hwl => ⟨hlt, fun z => hgo ⟨z, hwl⟩⟩)
      · have hkW : k = W0 := by
          rcases o3 with z | z | z
          · exact z
          · omega
          · exact absurd z hk4
        exact bad (c1 hk4 (Or.inr hkW)) (fun _ => ⟨hlt, fun z => hk4 (by rw [z]; rfl)⟩)
    · have hPe : q + k = n := by omega
      have ce := cf_end (R := R) (I := I) (τ := τ) (w := W0) (rw := rw) (l := k) hg hX (by omega) (by omega) (by omega)
      rw [← hPe] at ce
      rcases ce with ⟨hwl, ec⟩ | ⟨hwl, ec⟩
      · -- the end of a moor
        have hkw := hwh.mp hwl
        have hmul : n + 1 = (rw + 1) * (w' + 1) ∧ (rw + 1) * w' = rw * w + k := by
          by_cases h0 : rw = 0
          · rw [h0, ← hPe, hS.1, h0, Nat.zero_mul, Nat.zero_mul, Nat.zero_add, Nat.one_mul, Nat.one_mul]
            omega
          · have hww : w' = w := by rw [hw', if_neg h0]
            rw [hww, Nat.succ_mul, Nat.succ_mul, ← hS.1]
            omega
        refine ⟨true, n, w', rw + 1, ecl.trans (by rw [ec, if_pos rfl]), Nat.le_refl _, fun _ => ⟨⟨by omega, by omega⟩, ⟨by omega, by omega⟩, hmul.1, fun i hi j hj => ?_, fun i hi => ?_⟩, fun J hM hK => ?_⟩
        · by_cases h0 : rw = 0
          · have hi0 : i = 0 := by omega
            subst hi0
            rw [Nat.zero_mul, Nat.zero_add]
            have := (o2 j (by omega)).2
            rw [hS.1, h0, Nat.zero_mul, Nat.zero_add] at this
            exact this
          · have hww : w' = w := by rw [hw', if_neg h0]
            rw [hww] at hj hkw ⊢
            by_cases hi' : i = rw
            · subst hi'
              have := (o2 j (by omega)).2
              rw [hS.1] at this
              exact this
            · exact hS.2.1 i (by omega) j hj
        · have h0 : ¬ rw = 0 := by omega
          have hww : w' = w := by rw [hw', if_neg h0]
          rw [hww]
          exact hS.2.2 i (by omega)
        · obtain ⟨J1, f1, hM1, hK1, e⟩ := mstep J hM hK
          rcases takes2 hR hn hM1 hPn with ⟨z, -, -⟩ | ⟨-, e2⟩
          · omega
          · refine ⟨nI (rw * w + k), nI w', nI (rw + 1), 1, wI J1 90 18 (nI (q + k)), ?_, f1.w rfl, (fun z => by cases z), fun _ => ⟨by rw [hmul.2], rfl, rfl, rfl, by rw [wI_s, hPe], fun i hi j hj => (wI_n (by omega)).trans (hK1 hwl i hi j hj)⟩⟩
            rw [e, ifb_pos hwl, e2, bnd2_c, ifb_pos rfl, bnd2_c, l_Mod_moor_24, ifb_pos rfl]
      · exact bad ec (fun z => absurd z hwl)
end MP
