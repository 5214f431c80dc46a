section IN
variable {g n t : Nat} {S : MS} {R : MR} {I : MI} {L : ML}
/-- a row filled from its head on -/
def fI (I : MI) (a N : Nat) (v : Int32) : MI := fun b j => if b = a ∧ j < N then v else I b j
theorem fI_0 {a : Nat} {v : Int32} : fI I a 0 v = I := by funext b j; simp [fI]
theorem fI_s {a N : Nat} {v : Int32} : wI (fI I a N v) a N v = fI I a (N + 1) v := by
  funext b j
  simp only [wI, fI]
  by_cases h : b = a ∧ j = N
  · rw [if_pos h, if_pos ⟨h.1, by omega⟩]
  · rw [if_neg h]
    by_cases h2 : b = a ∧ j < N
    · rw [if_pos h2, if_pos ⟨h2.1, by omega⟩]
    · rw [if_neg h2, if_neg (fun q => by
        rcases Nat.lt_or_ge j N with z | z
        · exact h2 ⟨q.1, z⟩
        · exact h ⟨q.1, by omega⟩)]
theorem fillI_l {a N : Nat} {v : Int32} (hS : S a = (20, N)) (hN : N < 2 ^ 31) : ∀ (f i : Nat), i ≤ N → N < i + f → l_JArr_fill_5 S a v (nI N) f (fI I a i v) (nI i) = some (fI I a N v) := by
  intro f
  induction f with
  | zero => intro i h1 h2; omega
  | succ f ih =>
    intro i h1 h2
    rw [l_JArr_fill_5]
    by_cases h : i = N
    · subst h
      rw [ifb_pos (nI_le (Nat.le_refl _) hN)]
    · have hlt : i < N := by omega
      rw [ifb_neg (nI_ge hlt hN), asrt_pos (by rw [hS]), asrt_pos (by rw [hS]; exact vp_in_nI hlt hN), lt_c, nI_clamp (by omega), fI_s, nI_1]
      exact ih (i + 1) (by omega) (by omega)
theorem fillI_c {a N : Nat} {v : Int32} (hS : S a = (20, N)) (hN : N < 2 ^ 31) (hg : N < g) : f_JArr_fill g S I a v = some (fI I a N v) := by
  have h := fillI_l (I := I) (v := v) hS hN g 0 (Nat.zero_le _) (by omega)
  rw [fI_0] at h
  simp only [f_JArr_fill, hS, asrt_t, lt_c]
  rw [show (Int32.ofNat N) = nI N from rfl, show (0 : Int32) = nI 0 from rfl, h]
  rfl
theorem n_Signs (h : (S t).1 = 8) (ht : t ≠ n) : f_Signs_new S R I L n t = some (zI I n, zL L n, wR (zR R n) t 0 (some n), wS S n (20, 80), n + 1) := by
  simp [f_Signs_new, lt_c, wS, ht, h, asrt_t]
theorem n_Numbers (h : (S t).1 = 4) (ht : t ≠ n) : f_Numbers_new S R I L n t = some (zI I n, zL L n, wR (zR R n) t 0 (some n), wS S n (21, 16), n + 1) := by
  simp [f_Numbers_new, lt_c, wS, ht, h, asrt_t]
theorem n_Party (h : (S t).1 = 5) (ht : t ≠ n) (hg : 1000 ≤ g) : f_Party_new g S R I L n t = some (fI (zI (wI (wI I t 2 9) t 3 1) n) n 36 (-1), zL L n, wR (zR R n) t 6 (some n), wS S n (20, 36), n + 1) := by
  simp only [f_Party_new, lt_c, wR_s, bnd1_c]
  rw [asrt_pos (by simp [wS, ht, h]), fillI_c (N := 36) (by simp [wS]) (by decide) (by omega)]
  rfl
end IN
section IN2
variable {g n t : Nat} {S : MS} {R : MR} {I : MI} {L : ML}
theorem wS_ap {a b : Nat} {v : Nat × Nat} : wS S a v b = if b = a then v else S b := rfl
theorem wR_ap {a k b j : Nat} {v : Option Nat} : wR R a k v b j = if b = a ∧ j = k then v else R b j := rfl
theorem zR_ap {a b j : Nat} : zR R a b j = if b = a then none else R b j := rfl
theorem n_Fee (h : (S t).1 = 0) : f_Fee_new S I t = some (wI I t 5 (-1)) := by
  simp [f_Fee_new, lt_c]
theorem n_Spread (h : (S t).1 = 9) (ht : t < n) : f_Spread_new S R I L n t = some (zI (zI I n) (n + 1), zL (zL L n) (n + 1), wR (zR (wR (zR R n) t 0 (some n)) (n + 1)) t 1 (some (n + 1)), wS (wS S n (20, 144)) (n + 1) (20, 144), n + 2) := by
  have h1 : t ≠ n := by omega
  have h2 : t ≠ n + 1 := by omega
  simp [f_Spread_new, lt_c, wS_ap, h1, h2, h, asrt_t]
theorem n_Market (h : (S t).1 = 3) (ht : t < n) : f_Market_new S R I L n t = some (wI (zI (zI I n) (n + 1)) t 3 (-1), zL (zL L n) (n + 1), wR (zR (wR (zR R n) t 0 (some n)) (n + 1)) t 1 (some (n + 1)), wS (wS S n (20, 25)) (n + 1) (20, 32), n + 2) := by
  have h1 : t ≠ n := by omega
  have h2 : t ≠ n + 1 := by omega
  simp [f_Market_new, lt_c, wS_ap, h1, h2, h, asrt_t]
theorem n_Trail {p1 p2 : Nat} (h : (S t).1 = 10) : f_Trail_new S R t p1 p2 = some (wR (wR R t 0 (some p1)) t 1 (some p2)) := by
  simp [f_Trail_new, lt_c]
theorem n_Prints {p1 p2 : Nat} (h : (S t).1 = 7) (ht : t < n) : f_Prints_new S R I L n t p1 p2 = some (zI (zI (zI I n) (n + 1)) (n + 2), zL (zL (zL L n) (n + 1)) (n + 2), wR (wR (wR (zR (wR (zR (wR (zR R n) t 2 (some n)) (n + 1)) t 3 (some (n + 1))) (n + 2)) t 4 (some (n + 2))) t 0 (some p1)) t 1 (some p2), wS (wS (wS S n (20, 12)) (n + 1) (21, 48)) (n + 2) (20, 48), n + 3) := by
  have h1 : t ≠ n := by omega
  have h2 : t ≠ n + 1 := by omega
  have h3 : t ≠ n + 2 := by omega
  simp [f_Prints_new, lt_c, wS_ap, h1, h2, h3, h, asrt_t]
/-- a row that counts: from its head on, each place holds itself -/
def cI (I : MI) (a N : Nat) : MI := fun b j => if b = a ∧ j < N then nI j else I b j
theorem cI_0 {a : Nat} : cI I a 0 = I := by funext b j; simp [cI]
theorem cI_s {a N : Nat} : wI (cI I a N) a N (nI N) = cI I a (N + 1) := by
  funext b j
  simp only [wI, cI]
  by_cases h : b = a ∧ j = N
  · rw [if_pos h, if_pos ⟨h.1, by omega⟩, h.2]
  · rw [if_neg h]
    by_cases h2 : b = a ∧ j < N
    · rw [if_pos h2, if_pos ⟨h2.1, by omega⟩]
    · rw [if_neg h2, if_neg (fun q => by
        rcases Nat.lt_or_ge j N with z | z
        · exact h2 ⟨q.1, z⟩
        · exact h ⟨q.1, by omega⟩)]
theorem land_l {a : Nat} (hR : R t 3 = some a) (hS : S a = (20, 144)) : ∀ (f i : Nat), i ≤ 144 → 144 < i + f → l_Land_new_42 S R t f (cI I a i) (nI i) = some (cI I a 144) := by
  intro f
  induction f with
  | zero => intro i h1 h2; omega
  | succ f ih =>
    intro i h1 h2
    rw [l_Land_new_42, show (144 : Int32) = nI 144 from rfl]
    by_cases h : i = 144
    · subst h
      rw [ifb_pos (nI_le (Nat.le_refl _) (by decide))]
    · have hlt : i < 144 := by omega
      rw [ifb_neg (nI_ge hlt (by decide)), hR, bnd1_c, asrt_pos (by rw [hS]), asrt_pos (by rw [hS]; exact vp_in_nI hlt (by decide)), lt_c, nI_clamp (by omega), cI_s, nI_1]
      exact ih (i + 1) (by omega) (by omega)
end IN2
section IN3
variable {g n t : Nat} {S : MS} {R : MR} {I : MI} {L : ML}
theorem n_Land (h : (S t).1 = 2) (ht : t < n) (hg : 1000 ≤ g) : f_Land_new g S R I L n t = some (cI (zI (zI (zI (wI (wI I t 0 1) t 1 1) n) (n + 1)) (n + 2)) (n + 1) 144, zL (zL (zL L n) (n + 1)) (n + 2),
    wR (zR (wR (zR (wR (zR R n) t 2 (some n)) (n + 1)) t 3 (some (n + 1))) (n + 2)) t 4 (some (n + 2)), wS (wS (wS S n (20, 36)) (n + 1) (20, 144)) (n + 2) (20, 144), n + 3) := by
  have h1 : t ≠ n := by omega
  have h2 : t ≠ n + 1 := by omega
  have h3 : t ≠ n + 2 := by omega
  have hl := land_l (t := t) (a := n + 1) (I := zI (zI (zI (wI (wI I t 0 1) t 1 1) n) (n + 1)) (n + 2)) (R := wR (zR (wR (zR (wR (zR R n) t 2 (some n)) (n + 1)) t 3 (some (n + 1))) (n + 2)) t 4 (some (n + 2)))
    (S := wS (wS (wS S n (20, 36)) (n + 1) (20, 144)) (n + 2) (20, 144)) (by simp [wR_ap, zR_ap, h3]) (by simp [wS_ap]) g 0 (by omega) (by omega)
  rw [cI_0] at hl
  simp only [f_Land_new, lt_c]
  rw [asrt_pos (by simp [wS_ap, h1, h]), asrt_pos (by simp [wS_ap, h1, h2, h]), asrt_pos (by simp [wS_ap, h1, h2, h3, h]), show (0 : Int32) = nI 0 from rfl]
  rw [hl]
  rfl
theorem n_Guide {p1 p2 : Nat} (h : (S t).1 = 1) (ht : t < n) : f_Guide_new S R I L n t p1 p2 = some (wI (wI (zI (zI (zI (zI (zI (zI (zI (zI I n) (n + 1)) (n + 2)) (n + 3)) (n + 4)) (n + 5)) (n + 6)) (n + 7)) (n + 7) 5 (-1)) t 11 3,
    zL (zL (zL (zL (zL (zL (zL (zL L n) (n + 1)) (n + 2)) (n + 3)) (n + 4)) (n + 5)) (n + 6)) (n + 7),
    wR (wR (wR (zR (wR (zR (wR (zR (wR (zR (wR (zR (wR (wR (zR (wR (zR (zR R n) (n + 1)) n 0 (some (n + 1))) (n + 2)) n 1 (some (n + 2))) t 2 (some n)) (n + 3)) t 3 (some (n + 3))) (n + 4)) t 4 (some (n + 4))) (n + 5)) t 5 (some (n + 5))) (n + 6)) t 6 (some (n + 6))) (n + 7)) t 7 (some (n + 7))) t 0 (some p1)) t 1 (some p2),
    wS (wS (wS (wS (wS (wS (wS (wS S n (9, 0)) (n + 1) (20, 144)) (n + 2) (20, 144)) (n + 3) (21, 1296)) (n + 4) (21, 1296)) (n + 5) (21, 1296)) (n + 6) (21, 1296)) (n + 7) (0, 0), n + 8) := by
  have h1 : t ≠ n := by omega
  have h2 : t ≠ n + 1 := by omega
  have h3 : t ≠ n + 2 := by omega
  have h4 : t ≠ n + 3 := by omega
  have h5 : t ≠ n + 4 := by omega
  have h6 : t ≠ n + 5 := by omega
  have h7 : t ≠ n + 6 := by omega
  have h8 : t ≠ n + 7 := by omega
  simp only [f_Guide_new, lt_c]
  rw [asrt_pos (by simp [wS_ap]), n_Spread (by simp [wS_ap]) (by omega)]
  simp [bnd5_c, wS_ap, h1, h2, h3, h4, h5, h6, h7, h8, h, asrt_t, n_Fee, bnd1_c, Nat.add_assoc]
theorem vpl_0_20 : vp_in 0 20 := by unfold vp_in; decide
theorem vpl_1_20 : vp_in 1 20 := by unfold vp_in; decide
theorem vpl_2_20 : vp_in 2 20 := by unfold vp_in; decide
theorem vpl_3_20 : vp_in 3 20 := by unfold vp_in; decide
theorem vpl_4_20 : vp_in 4 20 := by unfold vp_in; decide
theorem vpl_5_20 : vp_in 5 20 := by unfold vp_in; decide
theorem vpl_6_20 : vp_in 6 20 := by unfold vp_in; decide
theorem vpl_7_20 : vp_in 7 20 := by unfold vp_in; decide
theorem vpl_8_20 : vp_in 8 20 := by unfold vp_in; decide
theorem vpl_9_20 : vp_in 9 20 := by unfold vp_in; decide
theorem vpl_10_20 : vp_in 10 20 := by unfold vp_in; decide
theorem vpl_11_20 : vp_in 11 20 := by unfold vp_in; decide
theorem vpl_12_20 : vp_in 12 20 := by unfold vp_in; decide
theorem vpl_13_20 : vp_in 13 20 := by unfold vp_in; decide
theorem vpl_14_20 : vp_in 14 20 := by unfold vp_in; decide
theorem vpl_15_20 : vp_in 15 20 := by unfold vp_in; decide
theorem vpl_16_20 : vp_in 16 20 := by unfold vp_in; decide
theorem vpl_17_20 : vp_in 17 20 := by unfold vp_in; decide
theorem vpl_18_20 : vp_in 18 20 := by unfold vp_in; decide
theorem vpl_19_20 : vp_in 19 20 := by unfold vp_in; decide
theorem vpl_0_3 : vp_in 0 3 := by unfold vp_in; decide
theorem vpl_1_3 : vp_in 1 3 := by unfold vp_in; decide
theorem vpl_2_3 : vp_in 2 3 := by unfold vp_in; decide
theorem cln_0 : Int32.toNatClampNeg 0 = 0 := by decide
theorem cln_1 : Int32.toNatClampNeg 1 = 1 := by decide
theorem cln_2 : Int32.toNatClampNeg 2 = 2 := by decide
theorem cln_3 : Int32.toNatClampNeg 3 = 3 := by decide
theorem cln_4 : Int32.toNatClampNeg 4 = 4 := by decide
theorem cln_5 : Int32.toNatClampNeg 5 = 5 := by decide
theorem cln_6 : Int32.toNatClampNeg 6 = 6 := by decide
theorem cln_7 : Int32.toNatClampNeg 7 = 7 := by decide
theorem cln_8 : Int32.toNatClampNeg 8 = 8 := by decide
theorem cln_9 : Int32.toNatClampNeg 9 = 9 := by decide
theorem cln_10 : Int32.toNatClampNeg 10 = 10 := by decide
theorem cln_11 : Int32.toNatClampNeg 11 = 11 := by decide
theorem cln_12 : Int32.toNatClampNeg 12 = 12 := by decide
theorem cln_13 : Int32.toNatClampNeg 13 = 13 := by decide
theorem cln_14 : Int32.toNatClampNeg 14 = 14 := by decide
theorem cln_15 : Int32.toNatClampNeg 15 = 15 := by decide
theorem cln_16 : Int32.toNatClampNeg 16 = 16 := by decide
theorem cln_17 : Int32.toNatClampNeg 17 = 17 := by decide
theorem cln_18 : Int32.toNatClampNeg 18 = 18 := by decide
theorem cln_19 : Int32.toNatClampNeg 19 = 19 := by decide
end IN3
section IN4
variable {g n t : Nat} {S : MS} {R : MR} {I : MI} {L : ML}
theorem flag_c {x : Int32} : f_Mod_flag x = some (if x = 0 then 0 else 1) := by
  unfold f_Mod_flag
  by_cases h : x = 0
  · rw [ifb_pos h, if_pos h]; rfl
  · rw [ifb_neg h, if_neg h]; rfl
/-- how many of the first k places are not below 0 -/
def cnt0 (r : Nat → Int32) : Nat → Int32
  | 0 => 0
  | k + 1 => cnt0 r k + (if r k < 0 then 0 else 1)
theorem clr_l {a : Nat} (hR : R t 15 = some a) (hS : S a = (20, 36)) : ∀ (f i : Nat), i ≤ 36 → 36 < i + f → l_Mod_clearsTracks_4 S R t f (fI I a i (-1)) (cnt0 (I a) i) (nI i) = some (cnt0 (I a) 36, fI I a 36 (-1)) := by
  intro f
  induction f with
  | zero => intro i h1 h2; omega
  | succ f ih =>
    intro i h1 h2
    rw [l_Mod_clearsTracks_4, show (36 : Int32) = nI 36 from rfl]
    by_cases h : i = 36
    · subst h
      rw [ifb_pos (nI_le (Nat.le_refl _) (by decide))]
    · have hlt : i < 36 := by omega
      have hv : vp_in (nI i) (S a).2 := by rw [hS]; exact vp_in_nI hlt (by decide)
      have e : fI I a i (-1) a i = I a i := by simp [fI]
      rw [ifb_neg (nI_ge hlt (by decide)), hR, bnd1_c, asrt_pos (by rw [hS]), asrt_pos hv, nI_clamp (by omega), e]
      have e2 : bnd1 (bnd1 (ifb (I a i < 0) (some (0 : Int32)) (some 1)) fun (y6 : Int32) => f_Mod_flag y6) (fun x9 => some (cnt0 (I a) i + x9)) = some (cnt0 (I a) (i + 1)) := by
        by_cases hn : I a i < 0
        · rw [ifb_pos hn, bnd1_c, flag_c, bnd1_c]
          simp [cnt0, hn]
        · rw [ifb_neg hn, bnd1_c, flag_c, bnd1_c]
          simp [cnt0, hn]
      by_cases hn : I a i < 0
      · rw [ifb_pos hn, bnd1_c, flag_c, bnd1_c, lt_c, asrt_pos hv, lt_c, fI_s, nI_1]
        have := ih (i + 1) (by omega) (by omega)
        rw [show cnt0 (I a) (i + 1) = cnt0 (I a) i + (if (0 : Int32) = 0 then 0 else 1) by simp [cnt0, hn]] at this
        exact this
      · rw [ifb_neg hn, bnd1_c, flag_c, bnd1_c, lt_c, asrt_pos hv, lt_c, fI_s, nI_1]
        have := ih (i + 1) (by omega) (by omega)
        rw [show cnt0 (I a) (i + 1) = cnt0 (I a) i + (if (1 : Int32) = 0 then 0 else 1) by simp [cnt0, hn]] at this
        exact this
theorem n_clr {a : Nat} (hR : R t 15 = some a) (hS : S a = (20, 36)) (hg : 1000 ≤ g) : f_Mod_clearsTracks g S R I t = some (cnt0 (I a) 36, fI I a 36 (-1)) := by
  have h := clr_l (I := I) hR hS g 0 (by omega) (by omega)
  rw [fI_0] at h
  rw [f_Mod_clearsTracks, show (0 : Int32) = nI 0 from rfl]
  rw [show cnt0 (I a) 0 = nI 0 from rfl] at h
  rw [h]
  rfl
end IN4
