section PA
variable {W H B n : Nat} {K τ : Nat → Nat} {I I' : MI} {L : ML} {R : MR} {p : Bool} {fe : Nat} {q : Nat → Int32}
theorem Fr.cp {l : FT} {a b N : Nat} (h : Fr l I I') (hm : ∀ k, inF l b k = true) : Fr l I (cpI I' a b N) := fun c j hc => by
  unfold cpI
  rw [if_neg (fun z => by rw [z.1, hm] at hc; cases hc)]
  exact h c j hc
theorem takeFrom_c {a b ta tb : Nat} (ha : S1 a = (5, 0)) (hb : S1 b = (5, 0)) (hta : R a 6 = some ta) (htb : R b 6 = some tb) (sa : S1 ta = (20, 36)) (sb : S1 tb = (20, 36))
    (d1 : a ≠ b) (d2 : ta ≠ tb) (d3 : a ≠ ta) (d4 : a ≠ tb) (h : PR b tb q I) : wpo (f_Party_takeFrom S1 R I a b) (fun I' => Fr [(a, none), (ta, none)] I I' ∧ PR a ta q I') := by
  obtain ⟨⟨h0, h1, h2, h3, h4, h5⟩, h6⟩ := h
  unfold f_Party_takeFrom
  have ne : ∀ {J : MI} {k j : Nat} {v : Int32}, wI J a k v b j = J b j := wI_n (by omega)
  rw [hb, asrt_pos rfl, lt_c, lt_c, lt_c, lt_c, lt_c, lt_c, lt_c, lt_c, lt_c, lt_c, lt_c, lt_c, htb, bnd1_c, hta, bnd1_c, sa, sb, asrt_pos rfl, asrt_pos rfl, asrt_pos (by decide), asrt_pos (by decide), lt_c]
  have w : ∀ (k j : Nat), inF [(a, none), (ta, none)] a k = true := fun k _ => by simp [inF]
  refine wpo_some.mpr ⟨Fr.cp (Fr.w (Fr.w (Fr.w (Fr.w (Fr.w (Fr.w Fr.rf (w _ 0)) (w _ 0)) (w _ 0)) (w _ 0)) (w _ 0)) (w _ 0)) (fun k => by simp [inF]), ⟨?_, ?_, ?_, ?_, ?_, ?_⟩, fun k hk => ?_⟩
  all_goals unfold cpI
  · rw [if_neg (by omega)]
    simp (disch := omega) only [wI_s, wI_n, h0]
  · rw [if_neg (by omega)]
    simp (disch := omega) only [wI_s, wI_n, h1]
  · rw [if_neg (by omega)]
    simp (disch := omega) only [wI_s, wI_n, h2]
  · rw [if_neg (by omega)]
    simp (disch := omega) only [wI_s, wI_n, h3]
  · rw [if_neg (by omega)]
    simp (disch := omega) only [wI_s, wI_n, h4]
  · rw [if_neg (by omega)]
    simp (disch := omega) only [wI_s, wI_n, h5]
  · rw [if_pos ⟨rfl, hk⟩]
    simp (disch := omega) only [wI_n, h6 k hk]
theorem ringS : ∀ r, r < 20 → S1 (7 + 2 * r) = (5, 0) ∧ S1 (8 + 2 * r) = (20, 36) := by decide +kernel
theorem ringT : ∀ r, r < 20 → (6, r, 7 + 2 * r) ∈ tabR ∧ (7 + 2 * r, 6, 8 + 2 * r) ∈ tabR := by decide +kernel
theorem ringR (hR : RG p fe R) {r : Nat} (h : r < 20) : R 6 r = some (7 + 2 * r) ∧ R (7 + 2 * r) 6 = some (8 + 2 * r) := ⟨hR.1 _ (ringT r h).1, hR.1 _ (ringT r h).2⟩
/-- what the past is behind one more step -/
def pn1 (n : Nat) : Nat := if n < 20 then n + 1 else 20
def pu1 (n : Nat) (u : Nat → Nat → Int32) (q : Nat → Int32) : Nat → Nat → Int32 := fun j => if j = pn1 n - 1 then q else if n < 20 then u j else u (j + 1)
theorem remember_c (hR : RG p fe R) {nx : Nat} {u : Nat → Nat → Int32} (hn : n ≤ 20) (hx : nx < 20) (h1 : I 5 1 = nI nx) (h2 : I 5 2 = nI n) (hq : PR 64 65 q I) (hu : ∀ j, j < n → PR (7 + 2 * rgi n nx j) (8 + 2 * rgi n nx j) (u j) I) :
    wpo (f_Past_remember S1 R I 5 64) (fun I' => Fr [(7 + 2 * nx, none), (8 + 2 * nx, none), (5, some 1), (5, some 2)] I I' ∧ I' 5 1 = nI ((nx + 1) % 20) ∧ I' 5 2 = nI (pn1 n) ∧
      ∀ j, j < pn1 n → PR (7 + 2 * rgi (pn1 n) ((nx + 1) % 20) j) (8 + 2 * rgi (pn1 n) ((nx + 1) % 20) j) (pu1 n u q j) I') := by
  have hr := ringS nx hx
  have hr2 := ringR hR hx
  obtain ⟨I1, e1, a1, b1⟩ := takeFrom_c (a := 7 + 2 * nx) (b := 64) (ta := 8 + 2 * nx) (tb := 65) hr.1 t_64 hr2.2 (r_64_6 hR) hr.2 t_65 (by omega) (by omega) (by omega) (by omega) hq
  have g1 : I1 5 1 = nI nx := by
    rw [a1 5 1 (by simp [inF]; omega), h1]
  have g2 : I1 5 2 = nI n := by
    rw [a1 5 2 (by simp [inF]; omega), h2]
  unfold f_Past_remember
  rw [h1, ifb_neg (zn (by omega)), show (20 : Int32) = nI 20 from rfl, ifb_neg (by rw [le32 (by omega) (by omega)]; omega), r_5_0 hR, bnd1_c, lt_c, t_6, asrt_pos rfl, asrt_pos (vir hx (by omega)), cl32 (by omega), hr2.1, bnd1_c, hr.1, asrt_pos rfl, e1, bnd1_c, bnd1_c, g1, nI_1]
  have e2 : ifb (nI (nx + 1) < nI 20) (some (nI (nx + 1))) (some 0) = some (nI ((nx + 1) % 20)) := by
    by_cases h : nx + 1 < 20
    · rw [ifb_pos (by rw [lt32 (by omega) (by omega)]; omega), Nat.mod_eq_of_lt h]
    · rw [ifb_neg (by rw [lt32 (by omega) (by omega)]; omega), show nx + 1 = 20 by omega]; rfl
  have e3 : ifb (nI 20 ≤ nI n) (some (nI n)) (some (nI (n + 1))) = some (nI (pn1 n)) := by
    unfold pn1
    by_cases h : n < 20
    · rw [ifb_neg (by rw [le32 (by omega) (by omega)]; omega), if_pos h]
    · rw [ifb_pos (by rw [le32 (by omega) (by omega)]; omega), if_neg h, show n = 20 by omega]
  rw [e2, bnd1_c, lt_c, wI_n (by omega), g2, nI_1, e3, bnd1_c, lt_c]
  have fr2 : Fr [(5, some 1), (5, some 2)] I1 (wI (wI I1 5 1 (nI ((nx + 1) % 20))) 5 2 (nI (pn1 n))) := Fr.w (Fr.w Fr.rf rfl) rfl
  refine wpo_some.mpr ⟨(a1.sub (by simp [subF])).tr (fr2.sub (by simp [subF])), by rw [wI_n (by omega), wI_s], wI_s, fun j hj => ?_⟩
  have hpn : (n < 20 ∧ pn1 n = n + 1) ∨ (n = 20 ∧ pn1 n = 20) := by
    unfold pn1
    by_cases h : n < 20
    · exact Or.inl ⟨h, if_pos h⟩
    · exact Or.inr ⟨by omega, if_neg h⟩
  by_cases e : j = pn1 n - 1
  · have : rgi (pn1 n) ((nx + 1) % 20) j = nx := by
      unfold rgi
      omega
    rw [this]
    unfold pu1
    rw [if_pos e]
    exact b1.to (fun k => fr2 _ k (by simp [inF]; omega)) (fun k => fr2 _ k (by simp [inF]; omega))
  · obtain ⟨i, hi, hrg, hne, hp⟩ : ∃ i, i < n ∧ rgi (pn1 n) ((nx + 1) % 20) j = rgi n nx i ∧ rgi n nx i ≠ nx ∧ pu1 n u q j = u i := by
      rcases hpn with ⟨hc, hc2⟩ | ⟨hc, hc2⟩
      · refine ⟨j, by omega, by unfold rgi; omega, by unfold rgi; omega, ?_⟩
        unfold pu1
        rw [if_neg e, if_pos hc]
      · refine ⟨j + 1, by omega, by unfold rgi; omega, by unfold rgi; omega, ?_⟩
        unfold pu1
        rw [if_neg e, if_neg (by omega)]
    have hlt := @rgi_lt n nx i
    rw [hrg, hp]
    have hp := hu i hi
    generalize rgi n nx i = r at *
    exact hp.to (fun k => (fr2 _ k (by simp [inF]; omega)).trans (a1 _ k (by simp [inF]; omega))) (fun k => (fr2 _ k (by simp [inF]; omega)).trans (a1 _ k (by simp [inF]; omega)))
/-! the reference's own past -/
theorem shift_l (hR : RG p fe R) : ∀ (f k : Nat) (I : MI), k ≤ 817 → 817 < k + f → wpo (l_Mod_putsBy_11 S1 R 90 f I (nI k)) (fun I' => Fr [(99, none)] I I' ∧ (∀ j, j < k → I' 99 j = I 99 j) ∧ ∀ j, k ≤ j → j < 817 → I' 99 j = I 99 (j + 43)) := by
  intro f
  induction f with
  | zero => intro k I h1 h2; omega
  | succ f ih =>
    intro k I h1 h2
    rw [l_Mod_putsBy_11, show (817 : Int32) = nI 817 from rfl]
    by_cases hk : k = 817
    · subst hk
      rw [ifb_pos (by rw [le32 (by omega) (by omega)]; omega)]
      exact ⟨I, rfl, Fr.rf, fun _ _ => rfl, fun j a b => by omega⟩
    · rw [ifb_neg (by rw [le32 (by omega) (by omega)]; omega), r_90_24 hR, bnd1_c, show (43 : Int32) = nI 43 from rfl, nI_add, lt_c, t_99, asrt_pos rfl, asrt_pos (vir (by omega) (by omega)), lt_c, asrt_pos (vir (by omega) (by omega)), lt_c, cl32 (by omega), cl32 (by omega), nI_1]
      refine wpo_mono (ih (k + 1) _ (by omega) (by omega)) ?_
      rintro I' ⟨a, b, c⟩
      refine ⟨(Fr.w Fr.rf rfl).tr a, fun j hj => ?_, fun j h3 h4 => ?_⟩
      · rw [b j (by omega), wI_n (by omega)]
      · by_cases e : j = k
        · subst e
          rw [b j (by omega), wI_s]
        · rw [c j (by omega) h4, wI_n (by omega)]
theorem puts_l (hR : RG p fe R) {a N m : Nat} (ha : S1 a = (20, N)) (hm : 43 * m + 43 ≤ N) (hN : N < 1000) (hd : a ≠ 94) : ∀ (f k : Nat) (I : MI), k ≤ 36 → 36 < k + f → wpo (l_Mod_puts_54 S1 R 90 a (nI (43 * m)) f I (nI k))
    (fun I' => Fr [(a, none)] I I' ∧ (∀ j, j < 43 * m + 7 + k ∨ 43 * m + 43 ≤ j → I' a j = I a j) ∧ ∀ j, k ≤ j → j < 36 → I' a (43 * m + 7 + j) = I 94 j) := by
  intro f
  induction f with
  | zero => intro k I h1 h2; omega
  | succ f ih =>
    intro k I h1 h2
    rw [l_Mod_puts_54, show (36 : Int32) = nI 36 from rfl]
    by_cases hk : k = 36
    · subst hk
      rw [ifb_pos (by rw [le32 (by omega) (by omega)]; omega)]
      exact ⟨I, rfl, Fr.rf, fun _ _ => rfl, fun j a b => by omega⟩
    · rw [ifb_neg (by rw [le32 (by omega) (by omega)]; omega), r_90_15 hR, bnd1_c, t_94, asrt_pos rfl, asrt_pos (vir (by omega) (by omega)), lt_c, ha, asrt_pos rfl, show (7 : Int32) = nI 7 from rfl, nI_add, nI_add, asrt_pos (vir (by show _ < N; omega) (by omega)), lt_c, cl32 (by omega), cl32 (by omega), nI_1]
      refine wpo_mono (ih (k + 1) _ (by omega) (by omega)) ?_
      rintro I' ⟨a', b, c⟩
      refine ⟨(Fr.w Fr.rf (by simp [inF])).tr a', fun j hj => ?_, fun j h3 h4 => ?_⟩
      · rw [b j (by omega), wI_n (by omega)]
      · by_cases e : j = k
        · subst e
          rw [b _ (by omega), wI_s]
        · rw [c j (by omega) h4, wI_n (by omega)]
theorem puts_c {g : Nat} (hg : 1000 ≤ g) (hR : RG p fe R) {a N m : Nat} (ha : S1 a = (20, N)) (hm : 43 * m + 43 ≤ N) (hN : N < 1000) (hd : a ≠ 94) (hd2 : a ≠ 90) (hq : PM q I) : wpo (f_Mod_puts g S1 R I 90 a (nI (43 * m)))
    (fun I' => Fr [(a, none)] I I' ∧ (∀ j, j < 43 * m ∨ 43 * m + 43 ≤ j → I' a j = I a j) ∧ PS a m q I') := by
  obtain ⟨⟨h0, h1, h2, h3, h4, h5⟩, h6⟩ := hq
  have hq' : ∀ {J : MI} {k j : Nat} {v : Int32}, wI J a k v 90 j = J 90 j := wI_n (by omega)
  unfold f_Mod_puts
  rw [lt_c, ha, asrt_pos rfl, asrt_pos (vir (by show _ < N; omega) (by omega)), lt_c, lt_c, show (1 : Int32) = nI 1 from rfl, nI_add, asrt_pos (vir (by show _ < N; omega) (by omega)), lt_c, lt_c, show (2 : Int32) = nI 2 from rfl, nI_add, asrt_pos (vir (by show _ < N; omega) (by omega)), lt_c, lt_c,
    show (3 : Int32) = nI 3 from rfl, nI_add, asrt_pos (vir (by show _ < N; omega) (by omega)), lt_c, lt_c, show (4 : Int32) = nI 4 from rfl, nI_add, asrt_pos (vir (by show _ < N; omega) (by omega)), lt_c, lt_c, show (5 : Int32) = nI 5 from rfl, nI_add, asrt_pos (vir (by show _ < N; omega) (by omega)), lt_c,
    cl32 (by omega), cl32 (by omega), cl32 (by omega), cl32 (by omega), cl32 (by omega), cl32 (by omega), hq', hq', hq', hq', hq', hq', hq', hq', hq', hq', hq', hq', hq', hq', hq', h0, h1, h2, h3, h4, h5, wpo_b1]
  obtain ⟨I1, e1, a1, b1, c1⟩ := puts_l hR ha hm hN hd g 0 (wI (wI (wI (wI (wI (wI I a (43 * m) (q 0)) a (43 * m + 1) (q 1)) a (43 * m + 2) (q 2)) a (43 * m + 3) (q 3)) a (43 * m + 4) (q 4)) a (43 * m + 5) (q 5)) (by omega) (by omega)
  refine ⟨I1, e1, wpo_some.mpr ⟨?_, fun j hj => ?_, fun i hi h6' => ?_⟩⟩
  · have w : ∀ (k : Nat), inF [(a, none)] a k = true := fun k => by simp [inF]
    exact (Fr.w (Fr.w (Fr.w (Fr.w (Fr.w (Fr.w Fr.rf (w _)) (w _)) (w _)) (w _)) (w _)) (w _)).tr a1
  · rw [b1 j (by omega)]
    simp (disch := omega) only [wI_n]
  · by_cases hi7 : i < 7
    · rw [b1 _ (by omega)]
      have : i = 0 ∨ i = 1 ∨ i = 2 ∨ i = 3 ∨ i = 4 ∨ i = 5 := by omega
      rcases this with rfl | rfl | rfl | rfl | rfl | rfl
      · simp (disch := omega) only [wI_n, Nat.add_zero, wI_s]
      · simp (disch := omega) only [wI_n, wI_s]
      · simp (disch := omega) only [wI_n, wI_s]
      · simp (disch := omega) only [wI_n, wI_s]
      · simp (disch := omega) only [wI_n, wI_s]
      · simp (disch := omega) only [wI_n, wI_s]
    · have := c1 (i - 7) (by omega) (by omega)
      rw [show 43 * m + 7 + (i - 7) = 43 * m + i by omega] at this
      rw [this]
      simp (disch := omega) only [wI_n]
      rw [h6 _ (by omega), show 7 + (i - 7) = i by omega]
theorem putsBy_c {g : Nat} (hg : 1000 ≤ g) (hR : RG p fe R) {u : Nat → Nat → Int32} (hn : n ≤ 20) (h1 : I 90 23 = nI n) (hq : PM q I) (hu : ∀ j, j < n → PS 99 j (u j) I) :
    wpo (f_Mod_putsBy g S1 R I 90) (fun I' => Fr [(99, none), (90, some 23)] I I' ∧ I' 90 23 = nI (pn1 n) ∧ ∀ j, j < pn1 n → PS 99 j (pu1 n u q j) I') := by
  have main : ∀ (J : MI) (m : Nat) (u' : Nat → Nat → Int32), m < 20 → J 90 23 = nI m → PM q J → (∀ j, j < m → PS 99 j (u' j) J) →
      wpo (bnd1 (R 90 24) fun b17 => bnd1 (f_Mod_puts g S1 R J 90 b17 (43 * (J 90 23))) fun I18 => lt ((I18 90 23) + 1) fun (x20 : Int32) => lt (wI I18 90 23 x20) fun (I21 : MI) => some I21)
        (fun I' => Fr [(99, none), (90, some 23)] J I' ∧ I' 90 23 = nI (m + 1) ∧ ∀ j, j < m + 1 → PS 99 j (if j = m then q else u' j) I') := by
    intro J m u' hm hJ hqJ huJ
    obtain ⟨I1, e1, a1, b1, c1⟩ := puts_c hg hR (a := 99) (m := m) t_99 (by omega) (by omega) (by omega) (by omega) hqJ
    rw [r_90_24 hR, bnd1_c, hJ, show (43 : Int32) = nI 43 from rfl, pk_mul, e1, bnd1_c, a1 90 23 rfl, hJ, nI_1, lt_c, lt_c]
    refine wpo_some.mpr ⟨(a1.sub rfl).w rfl, wI_s, fun j hj i hi h6 => ?_⟩
    rw [wI_n (by omega)]
    by_cases e : j = m
    · subst e
      rw [if_pos rfl]
      exact c1 i hi h6
    · rw [if_neg e, b1 _ (by omega)]
      exact huJ j (by omega) i hi h6
  unfold f_Mod_putsBy
  by_cases h : n = 20
  · subst h
    obtain ⟨I1, e1, a1, b1, c1⟩ := shift_l hR g 0 I (by omega) (by omega)
    rw [h1, ifb_pos (by decide), show (0 : Int32) = nI 0 from rfl, e1, bnd1_c, a1 90 23 rfl, h1, lt_c, lt_c, bnd1_c, show nI 20 - 1 = nI 19 from rfl]
    have fr1 : Fr [(99, none), (90, some 23)] I (wI I1 90 23 (nI 19)) := (a1.sub rfl).w rfl
    refine wpo_mono (main (wI I1 90 23 (nI 19)) 19 (fun j => u (j + 1)) (by omega) wI_s ?_ ?_) ?_
    · obtain ⟨⟨h0, h1, h2, h3, h4, h5⟩, h6⟩ := hq
      exact ⟨⟨(fr1 90 7 rfl).trans h0, (fr1 90 8 rfl).trans h1, (fr1 90 10 rfl).trans h2, (fr1 90 12 rfl).trans h3, (fr1 90 13 rfl).trans h4, (fr1 90 14 rfl).trans h5⟩, fun k hk => (fr1 94 k rfl).trans (h6 k hk)⟩
    · intro j hj i hi h6
      rw [wI_n (by omega), c1 _ (by omega) (by omega)]
      have := hu (j + 1) (by omega) i hi h6
      rw [← this]
      congr 1
      omega
    · rintro I' ⟨x, y, z⟩
      refine ⟨fr1.tr x, y, fun j hj => ?_⟩
      have := z j hj
      unfold pu1
      exact this
  · have hlt : n < 20 := by omega
    rw [h1, ifb_neg (by rw [show (20 : Int32) = nI 20 from rfl, eq32 (by omega) (by omega)]; exact h), bnd1_c]
    refine wpo_mono (main I n u hlt h1 hq hu) ?_
    rintro I' ⟨x, y, z⟩
    unfold pu1 pn1
    rw [if_pos hlt]
    refine ⟨x, y, fun j hj => ?_⟩
    have := z j hj
    simp only [hlt, if_true, Nat.add_sub_cancel]
    exact this
end PA
