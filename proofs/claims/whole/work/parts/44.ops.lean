section OH
variable {W H B n : Nat} {K τ : Nat → Nat} {I I' : MI} {L : ML} {R : MR} {p : Bool} {fe : Nat} {q : Nat → Int32}
/-- how many of the first k tracks there are -/
def ctk (q : Nat → Int32) : Nat → Nat
  | 0 => 0
  | k + 1 => ctk q k + (if q (7 + k) = -1 then 0 else 1)
theorem ctk_le (q : Nat → Int32) : ∀ k, ctk q k ≤ k
  | 0 => Nat.le_refl 0
  | k + 1 => by
    have := ctk_le q k
    unfold ctk
    split <;> omega
theorem wash_l (hR : RG p fe R) : ∀ (f k : Nat) (I : MI), k ≤ 36 → 36 < k + f → (∀ j, k ≤ j → j < 36 → I 65 j = q (7 + j)) → wpo (l_Party_washTracks_4 S1 R 64 f I (nI (ctk q k)) (nI k))
    (fun r => r.1 = nI (ctk q 36) ∧ Fr [(65, none)] I r.2 ∧ (∀ j, j < k → r.2 65 j = I 65 j) ∧ ∀ j, k ≤ j → j < 36 → r.2 65 j = -1) := by
  intro f
  induction f with
  | zero => intro k I h1 h2; omega
  | succ f ih =>
    intro k I h1 h2 hI
    rw [l_Party_washTracks_4, show (36 : Int32) = nI 36 from rfl]
    by_cases hk : k = 36
    · subst hk
      rw [ifb_pos (by rw [le32 (by omega) (by omega)]; omega)]
      exact ⟨_, rfl, rfl, Fr.rf, fun _ _ => rfl, fun j a b => by omega⟩
    · have hle := ctk_le q k
      rw [ifb_neg (by rw [le32 (by omega) (by omega)]; omega), r_64_6 hR, bnd1_c, t_65, asrt_pos rfl, asrt_pos (vir (by omega) (by omega)), cl32 (by omega), hI k (by omega) (by omega), nI_1]
      have e : ∀ {β : Type} (g : Int32 → Option β), bnd1 (ifb (q (7 + k) = -1) (some (0 : Int32)) (some 1)) g = g (nI (if q (7 + k) = -1 then 0 else 1)) := fun g => by
        by_cases h : q (7 + k) = -1
        · rw [ifb_pos h, if_pos h]; rfl
        · rw [ifb_neg h, if_neg h]; rfl
      rw [e, lt_c, nI_add, asrt_pos (vir (by omega) (by omega)), lt_c]
      refine wpo_mono (ih (k + 1) (wI I 65 k (-1)) (by omega) (by omega) (fun j a b => by rw [wI_n (by omega)]; exact hI j (by omega) b)) ?_
      rintro ⟨v, I'⟩ ⟨a, b, c, d⟩
      refine ⟨a, (Fr.w Fr.rf rfl).tr b, fun j hj => ?_, fun j h3 h4 => ?_⟩
      · rw [c j (by omega), wI_n (by omega)]
      · by_cases e : j = k
        · subst e
          rw [c j (by omega), wI_s]
        · exact d j (by omega) h4
theorem clears_l (hR : RG p fe R) (hq : ∀ k, k < 36 → q (7 + k) = -1 ∨ ∃ j, j < 36 ∧ q (7 + k) = nI j) : ∀ (f k : Nat) (I : MI), k ≤ 36 → 36 < k + f → (∀ j, k ≤ j → j < 36 → I 94 j = q (7 + j)) → wpo (l_Mod_clearsTracks_4 S1 R 90 f I (nI (ctk q k)) (nI k))
    (fun r => r.1 = nI (ctk q 36) ∧ Fr [(94, none)] I r.2 ∧ (∀ j, j < k → r.2 94 j = I 94 j) ∧ ∀ j, k ≤ j → j < 36 → r.2 94 j = -1) := by
  intro f
  induction f with
  | zero => intro k I h1 h2; omega
  | succ f ih =>
    intro k I h1 h2 hI
    rw [l_Mod_clearsTracks_4, show (36 : Int32) = nI 36 from rfl]
    by_cases hk : k = 36
    · subst hk
      rw [ifb_pos (by rw [le32 (by omega) (by omega)]; omega)]
      exact ⟨_, rfl, rfl, Fr.rf, fun _ _ => rfl, fun j a b => by omega⟩
    · have hle := ctk_le q k
      have e : ∀ {β : Type} (g : Int32 → Option β), bnd1 (ifb (q (7 + k) < 0) (some (0 : Int32)) (some 1)) (fun (y6 : Int32) => bnd1 (f_Mod_flag y6) g) = g (nI (if q (7 + k) = -1 then 0 else 1)) := fun g => by
        rcases hq k (by omega) with h | ⟨j, hj, h⟩
        · rw [h, ifb_pos (by decide), bnd1_c, flag_0, if_pos rfl]; rfl
        · rw [h, ifb_neg (zn (by omega)), bnd1_c, flag_1, if_neg (nIm1 (by omega))]; rfl
      rw [ifb_neg (by rw [le32 (by omega) (by omega)]; omega), r_90_15 hR, bnd1_c, t_94, asrt_pos rfl, asrt_pos (vir (by omega) (by omega)), cl32 (by omega), hI k (by omega) (by omega), nI_1, e, lt_c, nI_add, asrt_pos (vir (by omega) (by omega)), lt_c]
      refine wpo_mono (ih (k + 1) (wI I 94 k (-1)) (by omega) (by omega) (fun j a b => by rw [wI_n (by omega)]; exact hI j (by omega) b)) ?_
      rintro ⟨v, I'⟩ ⟨a, b, c, d⟩
      refine ⟨a, (Fr.w Fr.rf rfl).tr b, fun j hj => ?_, fun j h3 h4 => ?_⟩
      · rw [c j (by omega), wI_n (by omega)]
      · by_cases e : j = k
        · subst e
          rw [c j (by omega), wI_s]
        · exact d j (by omega) h4
theorem wash_c {g : Nat} (hg : 1000 ≤ g) (hR : RG p fe R) (h : ∀ k, k < 36 → I 65 k = q (7 + k)) : wpo (f_Party_washTracks g S1 R I 64) (fun r => r.1 = nI (ctk q 36) ∧ Fr [(65, none)] I r.2 ∧ ∀ j, j < 36 → r.2 65 j = -1) := by
  obtain ⟨⟨v, I'⟩, e, a, b, -, d⟩ := wash_l (q := q) hR g 0 I (by omega) (by omega) (fun j _ hj => h j hj)
  have e' : l_Party_washTracks_4 S1 R 64 g I 0 0 = some (v, I') := e
  refine ⟨(v, I'), ?_, a, b, fun j hj => d j (by omega) hj⟩
  unfold f_Party_washTracks
  rw [e', bnd2_c]
theorem clears_c {g : Nat} (hg : 1000 ≤ g) (hR : RG p fe R) (hq : ∀ k, k < 36 → q (7 + k) = -1 ∨ ∃ j, j < 36 ∧ q (7 + k) = nI j) (h : ∀ k, k < 36 → I 94 k = q (7 + k)) : wpo (f_Mod_clearsTracks g S1 R I 90) (fun r => r.1 = nI (ctk q 36) ∧ Fr [(94, none)] I r.2 ∧ ∀ j, j < 36 → r.2 94 j = -1) := by
  obtain ⟨⟨v, I'⟩, e, a, b, -, d⟩ := clears_l (q := q) hR hq g 0 I (by omega) (by omega) (fun j _ hj => h j hj)
  have e' : l_Mod_clearsTracks_4 S1 R 90 g I 0 0 = some (v, I') := e
  refine ⟨(v, I'), ?_, a, b, fun j hj => d j (by omega) hj⟩
  unfold f_Mod_clearsTracks
  rw [e', bnd2_c]
theorem Pok36 (h : Pok W H q) (hN : W * H ≤ 36) : ∀ k, k < 36 → q (7 + k) = -1 ∨ ∃ j, j < 36 ∧ q (7 + k) = nI j := fun k hk => by
  rcases h.2.2.2 k hk with e | ⟨j, hj, e⟩
  · exact Or.inl e
  · exact Or.inr ⟨j, by omega, e⟩
/-- a party without tracks -/
def notr (q : Nat → Int32) : Nat → Int32 := fun i => if i < 7 then q i else -1
theorem op_rain {g : Nat} (hg : 1000 ≤ g) (hC : Cp B I L R) : ∃ v I1 I2, f_GWL_rain g S1 R I 0 = some (v, I1) ∧ f_Mod_rain g S1 R I1 90 = some (v, I2) ∧ Cp (B + 1) I2 L R := by
  obtain ⟨⟨p, fe, hR⟩, hTx, hRw, hWg, hFe, hSh, hMk, W, H, K, hLn, hPt, hPs, hPr, hKp⟩ := hC
  obtain ⟨q, hq⟩ := hPt
  have hN := hLn.1.N36
  obtain ⟨ok, c0, c1, c2, c3, c4, c5, c6⟩ := hq.d
  obtain ⟨⟨v1, I1⟩, e1, a1, b1, d1⟩ := wash_c hg hR (q := q) (fun k hk => (c6 k hk).1)
  simp only at a1 b1 d1
  obtain ⟨⟨v2, I2⟩, e2, a2, b2, d2⟩ := clears_c hg hR (I := wI I1 90 0 0) (q := q) (Pok36 ok hN.2) (fun k hk => by rw [wI_n (by omega), b1 94 k rfl]; exact (c6 k hk).2)
  simp only at a2 b2 d2
  have f1 : Fr [(65, none), (90, some 0), (94, none)] I I2 := ((b1.sub rfl).w rfl).tr (b2.sub rfl)
  refine ⟨v1, I1, I2, ?_, ?_, ?_⟩
  · unfold f_GWL_rain
    rw [r_0_3 hR, bnd1_c, t_64, asrt_pos rfl, e1, bnd2_c]
  · unfold f_Mod_rain
    rw [lt_c, e2, bnd2_c, a1, a2]
  · refine ⟨⟨_, _, hR⟩, hTx.imp fun _ h => h.imp fun _ h => h.ag (f1.ag rfl), hRw.imp fun _ h => h.imp fun _ h => h.ag (f1.ag rfl) (fun _ _ _ => rfl), hWg.imp fun _ h => h.imp fun _ h => h.ag (f1.ag rfl), hFe.imp fun _ h => h.ag (f1.ag rfl), hSh.ag (f1.ag rfl), hMk.imp fun _ h => h.ag (f1.ag rfl), W, H, K, hLn.ag (f1.ag rfl), ?_, hPs.imp fun _ h => h.imp fun _ h => h.imp fun _ h => h.ag (f1.ag rfl), hPr.imp fun _ h => h.imp fun _ h => h.imp fun _ h => h.ag (f1.ag rfl), hKp.ag (f1.ag rfl)⟩
    refine ⟨notr q, Ptyq ⟨ok.1, ok.2.1, ok.2.2.1, fun k hk => Or.inl ?_⟩ ?_ ?_ ?_ ?_ ?_ ?_ (fun k hk => ⟨?_, ?_⟩)⟩
    · unfold notr; rw [if_neg (by omega)]
    · exact ⟨(f1 64 0 rfl).trans c0.1, (f1 90 7 rfl).trans c0.2⟩
    · exact ⟨(f1 64 1 rfl).trans c1.1, (f1 90 8 rfl).trans c1.2⟩
    · exact ⟨(f1 64 2 rfl).trans c2.1, (f1 90 10 rfl).trans c2.2⟩
    · exact ⟨(f1 64 3 rfl).trans c3.1, (f1 90 12 rfl).trans c3.2⟩
    · exact ⟨(f1 64 4 rfl).trans c4.1, (f1 90 13 rfl).trans c4.2⟩
    · exact ⟨(f1 64 5 rfl).trans c5.1, (f1 90 14 rfl).trans c5.2⟩
    · unfold notr; rw [if_neg (by omega), b2 65 k rfl, wI_n (by omega), d1 k hk]
    · unfold notr; rw [if_neg (by omega), d2 k hk]
/-! a print -/
theorem abs_c (x : Int32) : f_JMath_abs_I x = some (if 0 ≤ x then x else -x) := by
  unfold f_JMath_abs_I
  by_cases h : 0 ≤ x
  · rw [ifb_pos h, if_pos h]; rfl
  · rw [ifb_neg h, if_neg h]; rfl
def abI (x : Int32) : Int32 := if 0 ≤ x then x else -x
theorem beside_k : ∀ a, a < 6 → ∀ b, b < 6 → ∀ c, c < 6 → ∀ d, d < 6 → (1 < (nI a - nI b) * (nI a - nI b) + (nI c - nI d) * (nI c - nI d) ↔ 1 < abI (nI b - nI a) + abI (nI d - nI c)) := by decide +kernel
theorem isStepOn_e (h : LKc W H K I) (hR : RG p fe R) (x y : Int32) : ∃ v, f_Prints_isStepOn S1 R I 77 x y = some v := by
  have hnz : ¬ nI W = 0 := nI_ne0 (by have := h.1; omega) (by have := h.1; omega)
  have hW := h.1
  unfold f_Prints_isStepOn
  rw [r_77_0 hR, bnd1_c, t_60, asrt_pos rfl, h.2.2.2.1, lt_c, ifb_pos (by rw [show (1 : Int32) = nI 1 from rfl, le32 (by omega) (by omega)]; omega), asrt_pos hnz, asrt_pos hnz, lt_c, asrt_pos hnz, asrt_pos hnz, lt_c]
  by_cases hc : 1 < ((irm x (nI W) - irm y (nI W)) * (irm x (nI W) - irm y (nI W)) + (x / nI W - y / nI W) * (x / nI W - y / nI W))
  · exact ⟨0, by rw [ifb_pos hc, bnd1_c, asrt_pos (Or.inl rfl)]⟩
  · exact ⟨1, by rw [ifb_neg hc, bnd1_c, asrt_pos (Or.inr rfl)]⟩
theorem beside_c (h : LKc W H K I) (hM : LM W H K I') (hR : RG p fe R) {a b : Nat} (ha : a < W * H) (hb : b < W * H) : ∃ v, (v = 0 ∨ v = 1) ∧ f_Prints_isStepOn S1 R I 77 (nI a) (nI b) = some v ∧ f_Mod_isBeside S1 I' 90 (nI b) (nI a) = some v := by
  have hN := h.N36
  have hnz : ¬ nI W = 0 := nI_ne0 (by have := h.1; omega) (by have := h.1; omega)
  have hW := h.1
  have hH := h.2.1
  have key := beside_k (a % W) (by have := Nat.mod_lt a (show W > 0 by omega); omega) (b % W) (by have := Nat.mod_lt b (show W > 0 by omega); omega) (a / W) (by have := Nat.div_lt_of_lt_mul ha; omega) (b / W) (by have := Nat.div_lt_of_lt_mul hb; omega)
  have e1 : f_Prints_isStepOn S1 R I 77 (nI a) (nI b) = (bnd1 (ifb (1 < (nI (a % W) - nI (b % W)) * (nI (a % W) - nI (b % W)) + (nI (a / W) - nI (b / W)) * (nI (a / W) - nI (b / W))) (some 0) (some 1)) fun (y : Int32) => asrt (y = 0 ∨ y = 1) <| some y) := by
    unfold f_Prints_isStepOn irm
    rw [r_77_0 hR, bnd1_c, t_60, asrt_pos rfl, h.2.2.2.1, lt_c, ifb_pos (by rw [show (1 : Int32) = nI 1 from rfl, le32 (by omega) (by omega)]; omega), asrt_pos hnz, asrt_pos hnz, lt_c, asrt_pos hnz, asrt_pos hnz, lt_c, pk_rem (by omega) (by omega) (by omega), pk_rem (by omega) (by omega) (by omega), pk_div (by omega) (by omega) (by omega), pk_div (by omega) (by omega) (by omega)]
  have e2 : f_Mod_isBeside S1 I' 90 (nI b) (nI a) = (bnd1 (ifb (1 < abI (nI (b % W) - nI (a % W)) + abI (nI (b / W) - nI (a / W))) (some 0) (some 1)) fun (y : Int32) => asrt (y = 0 ∨ y = 1) <| some y) := by
    unfold f_Mod_isBeside irm
    rw [hM.2.2.2.1, lt_c, asrt_pos hnz, lt_c, asrt_pos hnz, pk_rem (by omega) (by omega) (by omega), pk_rem (by omega) (by omega) (by omega), abs_c, bnd1_c, lt_c, asrt_pos hnz, lt_c, asrt_pos hnz, pk_div (by omega) (by omega) (by omega), pk_div (by omega) (by omega) (by omega), abs_c, bnd1_c]
    rfl
  rw [e1, e2]
  by_cases hc : 1 < (nI (a % W) - nI (b % W)) * (nI (a % W) - nI (b % W)) + (nI (a / W) - nI (b / W)) * (nI (a / W) - nI (b / W))
  · exact ⟨0, Or.inl rfl, by rw [ifb_pos hc, bnd1_c, asrt_pos (Or.inl rfl)], by rw [ifb_pos (key.mp hc), bnd1_c, asrt_pos (Or.inl rfl)]⟩
  · exact ⟨1, Or.inr rfl, by rw [ifb_neg hc, bnd1_c, asrt_pos (Or.inr rfl)], by rw [ifb_neg (fun z => hc (key.mpr z)), bnd1_c, asrt_pos (Or.inr rfl)]⟩
theorem cellAt_c (hR : RG p fe R) {z : Nat → Nat} {k : Nat} (h6 : I 77 6 = nI n) (hn : n ≤ 12) (hk : k < n) (hz : I 78 k = nI (z k)) : f_Prints_cellAt S1 R I 77 (nI k) = some (nI (z k)) := by
  unfold f_Prints_cellAt
  rw [ifb_neg (zn (by omega)), h6, ifb_neg (by rw [le32 (by omega) (by omega)]; omega), show (12 : Int32) = nI 12 from rfl, ifb_neg (by rw [le32 (by omega) (by omega)]; omega), r_77_2 hR, bnd1_c, t_78, asrt_pos rfl, asrt_pos (vir (by omega) (by omega)), cl32 (by omega), hz]
  rfl
end OH
