section OP
variable {W H m s0 n k hd h0 N b q c h vv vo B fb : Nat} {K w : Nat → Nat} {fs fa M : Int} {fz : Nat → Nat → Int} {I I' J : MI} {L L' L0 L1 : ML} {R : MR} {p : Bool} {fe : Nat} {lb' : Nat → Bool} {zl : Nat → Int} {xx yy : Nat → Int64}
theorem cpy5 {g : Nat} (hg : 6 ≤ g) (hR : RG p fe R) {j : Nat} (hj : j < 3) (v1 v2 : Int32) (v3 : Int64) {f : Nat → Int} (h : ∀ k, k < 5 → I 110 (5 * j + k) = iI (f k)) : ∃ I', l_Mod_fairest_78 S1 R 90 v1 v2 v3 (nI j) g I 0 = some I' ∧ Fr [(111, none)] I I' ∧ FM 111 f I' := by
  have loop : ∀ F i I, i ≤ 5 → 5 < i + F → (∀ k, k < 5 → I 110 (5 * j + k) = iI (f k)) → (∀ k, k < i → I 111 k = iI (f k)) → ∃ I', l_Mod_fairest_78 S1 R 90 v1 v2 v3 (nI j) F I (nI i) = some I' ∧ Fr [(111, none)] I I' ∧ ∀ k, k < 5 → I' 111 k = iI (f k) := by
    intro F
    induction F with
    | zero => intro i I h1 h2; omega
    | succ F ih =>
      intro i I h1 h2 h3 h4
      rw [l_Mod_fairest_78]
      by_cases hi : i = 5
      · subst hi
        exact ⟨I, by rw [ifb_pos (by decide)], Fr.rf, h4⟩
      obtain ⟨I', e, f1, c1⟩ := ih (i + 1) (wI I 111 i (iI (f i))) (by omega) (by omega) (fun k hk => by rw [wI_n (by omega)]; exact h3 k hk) (fun k hk => by
        by_cases e : k = i
        · subst e; exact wI_s
        · rw [wI_n (by omega)]; exact h4 k (by omega))
      refine ⟨I', ?_, (Fr.w Fr.rf rfl).tr f1, c1⟩
      rw [ifb_neg (by rw [show (5 : Int32) = nI 5 from rfl, le32 (by omega) (by omega)]; omega), r_90_36 hR, bnd1_c, r_90_35 hR, bnd1_c, show (5 : Int32) = nI 5 from rfl, pk_mul, nI_add, lt_c, t_110, asrt_pos rfl, asrt_pos (vir (by omega) (by omega)), cl32 (by omega), h3 i (by omega), lt_c, t_111, asrt_pos rfl, asrt_pos (vir (by omega) (by omega)), cl32 (by omega), lt_c, nI_1]
      exact e
  obtain ⟨I', e, f1, c1⟩ := loop g 0 I (by omega) (by omega) h (fun k hk => by omega)
  exact ⟨I', e, f1, rfl, c1⟩
def fFm : FT := [(111, none), (90, some 1)]
def fFn : FT := [(91, none), (103, none), (104, none), (107, none), (108, none)]
theorem fairM {g : Nat} (hg : 1500 ≤ g) (hR : RG p fe R) (hn : n ≤ 5) (hc : c < W * H) (hh4 : h < 4) (hv : vv ≤ 9) (hzl : ∀ j, j < 3 → lb' j = true → zl j = (V W H K w hd (eW (fz j) K) (fz j 3) (fz j 4) n (4 * c + h) vv).2.1) (hz : ∀ j, j < 3 → 0 ≤ zl j ∧ zl j ≤ 10000000000000000)
    (hF : ∀ j, j < 3 → lb' j = true → ∀ p fe R J M i, RG p fe R → J 90 1 = nI i → i < 19 → f_Mod_entersFraction S1 R J M 90 (iL (zl j)) (iL (100 ^ n)) = some (wI J 90 1 (nI (i + 2)), wL (wL M 91 i (xx j)) 91 (i + 1) (yy j))) :
    ∀ F j (I : MI) (L : ML), j ≤ 3 → 3 < j + F → MH W H K w hd I → I 90 7 = nI c → I 90 8 = nI h → I 90 10 = nI vv → Lai lb' fz I → I 90 1 = nI (2 * (faS lb' zl xx yy j).2.2.1) → (∀ k, k < 2 * (faS lb' zl xx yy j).2.2.1 → L 91 k = (faS lb' zl xx yy j).2.2.2 k) →
    ∃ I' L', l_Mod_fairest_56 g S1 R 90 (nI n) F I L (faS lb' zl xx yy j).1 (iL (max 0 (faS lb' zl xx yy j).2.1)) (nI j) = some ((faS lb' zl xx yy 3).1, I', L') ∧ Fr fFm I I' ∧ FrL fFn L L' ∧ I' 90 1 = nI (2 * (faS lb' zl xx yy 3).2.2.1) ∧ (∀ k, k < 2 * (faS lb' zl xx yy 3).2.2.1 → L' 91 k = (faS lb' zl xx yy 3).2.2.2 k) := by
  intro F
  induction F with
  | zero => intro j I L h1 h2; omega
  | succ F ih =>
    intro j I L h1 h2 hH k0 k1 k2 hS h31 hρ
    rw [l_Mod_fairest_56]
    by_cases hj : j = 3
    · subst hj
      exact ⟨I, L, by rw [ifb_pos (by decide)], Fr.rf, FrL.rf, h31, hρ⟩
    have hj3 : j < 3 := by omega
    have hN := hH.1.N36
    have hst := faS_in (lb' := lb') (xx := xx) (yy := yy) hz j h1
    have hSj := hS j hj3
    rw [ifb_neg (by rw [show (3 : Int32) = nI 3 from rfl, le32 (by omega) (by omega)]; omega), r_90_34 hR, bnd1_c, t_109, asrt_pos rfl, asrt_pos (vir (by omega) (by omega)), cl32 (by omega)]
    cases hb : lb' j
    · have e1 : faS lb' zl xx yy (j + 1) = faS lb' zl xx yy j := by rw [faS, hb]; rfl
      obtain ⟨I', L', e, r⟩ := ih (j + 1) I L (by omega) (by omega) hH k0 k1 k2 hS (by rw [e1]; exact h31) (by rw [e1]; exact hρ)
      rw [e1] at e
      refine ⟨I', L', ?_, r⟩
      rw [ifb_pos (hSj.1 hb).2, bnd4_c, nI_1]
      exact e
    · obtain ⟨-, s109, sok, -, s110⟩ := hSj.2 hb
      obtain ⟨I1, e1, f1, hFM⟩ := cpy5 (g := g) (by omega) hR hj3 (nI n) (faS lb' zl xx yy j).1 (iL (max 0 (faS lb' zl xx yy j).2.1)) s110
      have hH1 : MH W H K w hd I1 := ⟨hH.1.ag (f1.ag rfl), ⟨hH.2.1.1, fun t ht => (f1 93 t rfl).trans (hH.2.1.2 t ht)⟩, hH.2.2.1, (f1 90 11 rfl).trans hH.2.2.2⟩
      obtain ⟨L1, e3, l1, c1⟩ := wants_c (L := L) (n := n) (g := g) hg hR hH1 hFM sok hn
      have c1' := (c1 (4 * c + h) vv (by omega) (by omega)).1
      rw [← hzl j hj3 hb] at c1'
      have G := hF j hj3 hb p fe R I1 L1 (2 * (faS lb' zl xx yy j).2.2.1) hR ((f1 90 1 rfl).trans h31) (by omega)
      have hzj := hz j hj3
      have f2 : Fr fFm I (wI I1 90 1 (nI (2 * (faS lb' zl xx yy j).2.2.1 + 2))) := (f1.sub rfl).w rfl
      have l2 : FrL fFn L (wL (wL L1 91 (2 * (faS lb' zl xx yy j).2.2.1) (xx j)) 91 (2 * (faS lb' zl xx yy j).2.2.1 + 1) (yy j)) := ((l1.sub rfl).w rfl).w rfl
      have e2 : faS lb' zl xx yy (j + 1) = (if (faS lb' zl xx yy j).2.1 < zl j then nI j else (faS lb' zl xx yy j).1, max (faS lb' zl xx yy j).2.1 (zl j), (faS lb' zl xx yy j).2.2.1 + 1, fun k => if k = 2 * (faS lb' zl xx yy j).2.2.1 then xx j else if k = 2 * (faS lb' zl xx yy j).2.2.1 + 1 then yy j else (faS lb' zl xx yy j).2.2.2 k) := by rw [faS, hb, if_pos rfl]
      obtain ⟨I', L', e, r2, r3, r4, r5⟩ := ih (j + 1) (wI I1 90 1 (nI (2 * (faS lb' zl xx yy j).2.2.1 + 2))) (wL (wL L1 91 (2 * (faS lb' zl xx yy j).2.2.1) (xx j)) 91 (2 * (faS lb' zl xx yy j).2.2.1 + 1) (yy j)) (by omega) (by omega) ⟨hH.1.ag (f2.ag rfl), ⟨hH.2.1.1, fun t ht => (f2 93 t rfl).trans (hH.2.1.2 t ht)⟩, hH.2.2.1, (f2 90 11 rfl).trans hH.2.2.2⟩ ((f2 90 7 rfl).trans k0) ((f2 90 8 rfl).trans k1) ((f2 90 10 rfl).trans k2) (hS.ag (f2.ag rfl)) (by rw [e2, wI_s]; simp only; congr 1) (fun k hk => by
        rw [e2] at hk ⊢
        simp only at hk ⊢
        by_cases q1 : k = 2 * (faS lb' zl xx yy j).2.2.1
        · rw [if_pos q1, q1, wL_n (by omega), wL_s]
        · rw [if_neg q1]
          by_cases q2 : k = 2 * (faS lb' zl xx yy j).2.2.1 + 1
          · rw [if_pos q2, q2, wL_s]
          · rw [if_neg q2, wL_n (by omega), wL_n (by omega), l1 91 k rfl]
            exact hρ k (by omega))
      refine ⟨I', L', ?_, f2.tr r2, l2.tr r3, r4, r5⟩
      rw [ifb_neg (by rw [s109]; decide), e1, bnd1_c, r_90_36 hR, bnd1_c, e3, bnd1_c, f1 90 10 rfl, k2, chance_c hR ((f1 90 7 rfl).trans k0) ((f1 90 8 rfl).trans k1) (by omega) hh4 (by omega), bnd1_c, whole_c (by omega) (by omega), bnd1_c, c1', G, bnd2_c]
      rw [e2] at e
      simp only at e
      have bm : B63 (max 0 (faS lb' zl xx yy j).2.1) := by unfold B63; omega
      have bz : B63 (zl j) := by unfold B63; omega
      rcases hst.2.2.2 with ⟨a1, a2⟩ | ⟨⟨i, hi, a1⟩, a2⟩
      · rw [if_pos (by omega), Int.max_eq_right (by omega : (faS lb' zl xx yy j).2.1 ≤ zl j)] at e
        rw [ifb_pos (by rw [a1]; decide), bnd1_c, mxJ_c bm bz, bnd1_c, bnd4_c, nI_1, show max (max 0 (faS lb' zl xx yy j).2.1) (zl j) = max 0 (zl j) by omega]
        exact e
      · rw [ifb_neg (by rw [a1]; exact zn (by omega))]
        by_cases hlt : (faS lb' zl xx yy j).2.1 < zl j
        · rw [if_pos hlt] at e
          rw [ifb_neg (by rw [lg_cmp_le, iL_le bz bm]; omega), bnd1_c, mxJ_c bm bz, bnd1_c, bnd4_c, nI_1, show max (max 0 (faS lb' zl xx yy j).2.1) (zl j) = max 0 (max (faS lb' zl xx yy j).2.1 (zl j)) by omega]
          exact e
        · rw [if_neg hlt] at e
          rw [ifb_pos (by rw [lg_cmp_le, iL_le bz bm]; omega), bnd1_c, mxJ_c bm bz, bnd1_c, bnd4_c, nI_1, show max (max 0 (faS lb' zl xx yy j).2.1) (zl j) = max 0 (max (faS lb' zl xx yy j).2.1 (zl j)) by omega]
          exact e
end OP
