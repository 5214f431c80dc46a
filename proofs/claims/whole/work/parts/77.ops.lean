section ON
variable {W H m s0 n k hd h0 N b q c h vv vo B fb : Nat} {K w : Nat → Nat} {fs fa M : Int} {fz : Nat → Nat → Int} {I I' J : MI} {L L' L0 L1 : ML} {R : MR} {p : Bool} {fe : Nat} {lb' : Nat → Bool} {zl : Nat → Int} {xx yy : Nat → Int64}
/-- the fairest of the places before j: which, its luck, how many fractions, which numbers -/
def faS (lb' : Nat → Bool) (zl : Nat → Int) (xx yy : Nat → Int64) : Nat → Int32 × Int × Nat × (Nat → Int64)
  | 0 => (-1, -1, 0, fun _ => 0)
  | j + 1 => if lb' j = true then (if (faS lb' zl xx yy j).2.1 < zl j then nI j else (faS lb' zl xx yy j).1, max (faS lb' zl xx yy j).2.1 (zl j), (faS lb' zl xx yy j).2.2.1 + 1, fun k => if k = 2 * (faS lb' zl xx yy j).2.2.1 then xx j else if k = 2 * (faS lb' zl xx yy j).2.2.1 + 1 then yy j else (faS lb' zl xx yy j).2.2.2 k) else faS lb' zl xx yy j
theorem faS_in (hz : ∀ j, j < 3 → 0 ≤ zl j ∧ zl j ≤ 10000000000000000) : ∀ j, j ≤ 3 → (faS lb' zl xx yy j).2.2.1 ≤ j ∧ -1 ≤ (faS lb' zl xx yy j).2.1 ∧ (faS lb' zl xx yy j).2.1 ≤ 10000000000000000 ∧ (((faS lb' zl xx yy j).1 = -1 ∧ (faS lb' zl xx yy j).2.1 = -1) ∨ (∃ i, i < 3 ∧ (faS lb' zl xx yy j).1 = nI i) ∧ 0 ≤ (faS lb' zl xx yy j).2.1) := by
  intro j
  induction j with
  | zero => intro _; exact ⟨Nat.le_refl _, (show (-1 : Int) ≤ -1 by decide), (show (-1 : Int) ≤ 10000000000000000 by decide), Or.inl ⟨rfl, rfl⟩⟩
  | succ j ih =>
    intro hj
    have h1 := ih (by omega)
    have h2 := hz j (by omega)
    unfold faS
    split
    · simp only
      refine ⟨by omega, by omega, by omega, Or.inr ⟨?_, by omega⟩⟩
      split
      · exact ⟨j, by omega, rfl⟩
      · rcases h1.2.2.2 with z | z
        · omega
        · exact z.1
    · exact ⟨by omega, h1.2.1, h1.2.2.1, h1.2.2.2⟩
def fFa : FT := [(3, some 1), (67, some 8), (67, some 9), (67, some 10), (67, some 11), (68, some 2), (69, none), (70, none)]
def fFl : FT := [(4, none), (71, none), (72, none), (73, none), (74, none)]
def Lai (lb' : Nat → Bool) (fz : Nat → Nat → Int) (I : MI) : Prop := ∀ i, i < 3 → (lb' i = false → I 51 i = 0 ∧ I 109 i = 0) ∧ (lb' i = true → I 51 i = 1 ∧ I 109 i = 1 ∧ fok (fz i) ∧ FeR (81 + 3 * i) (fz i) I ∧ ∀ k, k < 5 → I 110 (5 * i + k) = iI (fz i k))
theorem Lai.ag (h : Lai lb' fz I) (hA : Ag fShf I I') : Lai lb' fz I' := by
  intro i hi
  have e51 : I' 51 i = I 51 i := hA 51 i rfl
  have e109 : I' 109 i = I 109 i := hA 109 i rfl
  have ef : ∀ k, I' (81 + 3 * i) k = I (81 + 3 * i) k := fun k => by
    rcases i with _ | _ | _ | i
    · exact hA 81 k rfl
    · exact hA 84 k rfl
    · exact hA 87 k rfl
    · omega
  refine ⟨fun a => ⟨e51.trans ((h i hi).1 a).1, e109.trans ((h i hi).1 a).2⟩, fun a => ?_⟩
  obtain ⟨g1, g2, g3, g4, g5⟩ := (h i hi).2 a
  exact ⟨e51.trans g1, e109.trans g2, g3, ⟨fun j hj => (ef j).trans (g4.1 j hj), (ef 5).trans g4.2⟩, fun k hk => (hA 110 _ rfl).trans (g5 k hk)⟩
theorem fairC {g : Nat} (hg : 200 ≤ g) (hn : n ≤ 5) (hc : c < W * H) (hh4 : h < 4) (hv : vv ≤ 9) (hzl : ∀ j, j < 3 → lb' j = true → zl j = (V W H K w hd (eW (fz j) K) (fz j 3) (fz j 4) n (4 * c + h) vv).2.1) (hz : ∀ j, j < 3 → 0 ≤ zl j ∧ zl j ≤ 10000000000000000)
    (hF : ∀ j, j < 3 → lb' j = true → ∀ p fe R I L i, RG p fe R → I 3 1 = nI i → i < 15 → f_Numbers_addFraction g S1 R I L 3 (iL (zl j)) (iL (100 ^ n)) = some (wI I 3 1 (nI (i + 2)), wL (wL L 4 i (xx j)) 4 (i + 1) (yy j))) :
    ∀ F j (I : MI) (L : ML) (R : MR) p fe, j ≤ 3 → 3 < j + F → RG p fe R → LKc W H K I → LA W H K I → Wgt w hd I → I 64 0 = nI c → I 64 1 = nI h → I 64 2 = nI vv → Lai lb' fz I → I 3 1 = nI (2 * (faS lb' zl xx yy j).2.2.1) → (∀ k, k < 2 * (faS lb' zl xx yy j).2.2.1 → L 4 k = (faS lb' zl xx yy j).2.2.2 k) →
    ∃ I' L' R' p' fe', l_GWL_fairest_56 g S1 0 (nI n) F I L R (faS lb' zl xx yy j).1 (iL (faS lb' zl xx yy j).2.1) (nI j) = some ((faS lb' zl xx yy 3).1, I', L', R') ∧ RG p' fe' R' ∧ Fr fFa I I' ∧ FrL fFl L L' ∧ I' 3 1 = nI (2 * (faS lb' zl xx yy 3).2.2.1) ∧ (∀ k, k < 2 * (faS lb' zl xx yy 3).2.2.1 → L' 4 k = (faS lb' zl xx yy 3).2.2.2 k) := by
  intro F
  induction F with
  | zero => intro j I L R p fe h1 h2; omega
  | succ F ih =>
    intro j I L R p fe h1 h2 hR hL hA hw k0 k1 k2 hS h31 hρ
    rw [l_GWL_fairest_56]
    by_cases hj : j = 3
    · subst hj
      exact ⟨I, L, R, p, fe, by rw [ifb_pos (by decide)], hR, Fr.rf, FrL.rf, h31, hρ⟩
    have hj3 : j < 3 := by omega
    have hst := faS_in (lb' := lb') (xx := xx) (yy := yy) hz j h1
    have hSj := hS j hj3
    rw [ifb_neg (by rw [show (3 : Int32) = nI 3 from rfl, le32 (by omega) (by omega)]; omega), r_0_11 hR, bnd1_c, t_51, asrt_pos rfl, asrt_pos (vir (by omega) (by omega)), cl32 (by omega)]
    cases hb : lb' j
    · have e1 : faS lb' zl xx yy (j + 1) = faS lb' zl xx yy j := by rw [faS, hb]; rfl
      obtain ⟨I', L', R', p', fe', e, r⟩ := ih (j + 1) I L R p fe (by omega) (by omega) hR hL hA hw k0 k1 k2 hS (by rw [e1]; exact h31) (by rw [e1]; exact hρ)
      rw [e1] at e
      refine ⟨I', L', R', p', fe', ?_, r⟩
      rw [ifb_pos (hSj.1 hb).1, bnd5_c, nI_1]
      exact e
    · obtain ⟨s51, -, sok, sfe, -⟩ := hSj.2 hb
      have hrf : R 50 j = some (81 + 3 * j) := by
        have : j = 0 ∨ j = 1 ∨ j = 2 := by omega
        rcases this with rfl | rfl | rfl
        · exact r_50_0 hR
        · exact r_50_1 hR
        · exact r_50_2 hR
      have hfb : (S1 (81 + 3 * j)).1 = 0 := by
        have : j = 0 ∨ j = 1 ∨ j = 2 := by omega
        rcases this with rfl | rfl | rfl <;> rfl
      obtain ⟨I1, L1, R1, p1, e1, hR1, f1, l1, -⟩ := greedyC_c (L := L) (n := n) (g := g) (fb := 81 + 3 * j) (by omega) hR hL hA hw ⟨sfe.1, sfe.2⟩ sok hfb hn hc hh4 k0 k1 k2 hv
      rw [← hzl j hj3 hb] at e1
      have G := hF j hj3 hb p1 (81 + 3 * j) R1 I1 L1 (2 * (faS lb' zl xx yy j).2.2.1) hR1 ((f1 3 1 rfl).trans h31) (by omega)
      have hzj := hz j hj3
      have f2 : Fr fFa I (wI I1 3 1 (nI (2 * (faS lb' zl xx yy j).2.2.1 + 2))) := (f1.sub rfl).w rfl
      have l2 : FrL fFl L (wL (wL L1 4 (2 * (faS lb' zl xx yy j).2.2.1) (xx j)) 4 (2 * (faS lb' zl xx yy j).2.2.1 + 1) (yy j)) := ((l1.sub rfl).w rfl).w rfl
      have e2 : faS lb' zl xx yy (j + 1) = (if (faS lb' zl xx yy j).2.1 < zl j then nI j else (faS lb' zl xx yy j).1, max (faS lb' zl xx yy j).2.1 (zl j), (faS lb' zl xx yy j).2.2.1 + 1, fun k => if k = 2 * (faS lb' zl xx yy j).2.2.1 then xx j else if k = 2 * (faS lb' zl xx yy j).2.2.1 + 1 then yy j else (faS lb' zl xx yy j).2.2.2 k) := by rw [faS, hb, if_pos rfl]
      obtain ⟨I', L', R', p', fe', e, r1, r2, r3, r4, r5⟩ := ih (j + 1) (wI I1 3 1 (nI (2 * (faS lb' zl xx yy j).2.2.1 + 2))) (wL (wL L1 4 (2 * (faS lb' zl xx yy j).2.2.1) (xx j)) 4 (2 * (faS lb' zl xx yy j).2.2.1 + 1) (yy j)) R1 p1 _ (by omega) (by omega) hR1 (hL.ag (f2.ag rfl)) (hA.ag (f2.ag rfl)) (hw.ag (f2.ag rfl)) ((f2 64 0 rfl).trans k0) ((f2 64 1 rfl).trans k1) ((f2 64 2 rfl).trans k2) (hS.ag (f2.ag rfl)) (by rw [e2, wI_s]; simp only; congr 1) (fun k hk => by
        rw [e2] at hk ⊢
        simp only at hk ⊢
        by_cases q1 : k = 2 * (faS lb' zl xx yy j).2.2.1
        · rw [if_pos q1, q1, wL_n (by omega), wL_s]
        · rw [if_neg q1]
          by_cases q2 : k = 2 * (faS lb' zl xx yy j).2.2.1 + 1
          · rw [if_pos q2, q2, wL_s]
          · rw [if_neg q2, wL_n (by omega), wL_n (by omega), l1 4 k rfl]
            exact hρ k (by omega))
      refine ⟨I', L', R', p', fe', ?_, r1, f2.tr r2, l2.tr r3, r4, r5⟩
      rw [ifb_neg (by rw [s51]; decide), r_0_10 hR, bnd1_c, t_50, asrt_pos rfl, asrt_pos (vir (by omega) (by omega)), hrf, bnd1_c, e1, bnd4_c, r_0_1 hR1, bnd1_c, hund_c (by omega), bnd1_c, t_3, asrt_pos rfl, G, bnd2_c]
      rw [e2] at e
      simp only at e
      by_cases hlt : (faS lb' zl xx yy j).2.1 < zl j
      · rw [if_pos hlt, Int.max_eq_right (by omega)] at e
        rw [ifb_neg (by rw [lg_cmp_le, iL_le (by unfold B63; omega) (by unfold B63; omega)]; omega), bnd5_c, nI_1]
        exact e
      · rw [if_neg hlt, Int.max_eq_left (by omega)] at e
        rw [ifb_pos (by rw [lg_cmp_le, iL_le (by unfold B63; omega) (by unfold B63; omega)]; omega), bnd5_c, nI_1]
        exact e
end ON
