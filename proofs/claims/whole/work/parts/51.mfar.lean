section FB
variable {W H B n : Nat} {K τ : Nat → Nat} {I I' : MI} {L : ML} {R : MR} {p : Bool} {fe : Nat} {q : Nat → Int32}
def sumN (F : Nat → Nat) : Nat → Nat
  | 0 => 0
  | k + 1 => sumN F k + F k
theorem sumN_eq {F G : Nat → Nat} : ∀ n, (∀ k, k < n → F k = G k) → sumN F n = sumN G n
  | 0, _ => rfl
  | n + 1, h => by
    unfold sumN
    rw [sumN_eq n (fun k hk => h k (by omega)), h n (by omega)]
theorem sumN_upd {F G : Nat → Nat} {s : Nat} (h : ∀ k, k ≠ s → G k = F k) : ∀ n, s < n → sumN G n + F s = sumN F n + G s
  | 0, hn => by omega
  | n + 1, hn => by
    unfold sumN
    by_cases e : s = n
    · subst e
      rw [sumN_eq s (fun k hk => h k (by omega))]
      omega
    · have := sumN_upd h n (by omega)
      rw [h n (fun z => e z.symm)]
      omega
theorem sumN_le {F : Nat → Nat} {c : Nat} : ∀ n, (∀ k, k < n → F k ≤ c) → sumN F n ≤ n * c
  | 0, _ => by unfold sumN; omega
  | n + 1, h => by
    have := sumN_le n (fun k hk => h k (by omega))
    have := h n (by omega)
    unfold sumN
    rw [Nat.succ_mul]
    omega
theorem min_c {a b : Nat} (ha : a < 2147483648) (hb : b < 2147483648) : f_JMath_min (nI a) (nI b) = some (nI (min a b)) := by
  unfold f_JMath_min
  by_cases h : b < a
  · rw [ifb_pos (by rw [lt32 hb ha]; exact h), bnd1_c, Nat.min_eq_right (by omega)]
  · rw [ifb_neg (by rw [lt32 hb ha]; exact h), bnd1_c, Nat.min_eq_left (by omega)]
/-- the reference's row of steps to home, while it is at work -/
def FO (W H : Nat) (K : Nat → Nat) (F : Nat → Nat) (I : MI) : Prop := ∀ s, s < 4 * (W * H) → I 100 s = nI (F s) ∧ F s ≤ 1000000 ∧ (F s < 1000000 → rch W H K (F s) s) ∧ (K (s / 4) = 3 → F s = 0)
theorem farB_c (hM : LM W H K I) (hR : RG p fe R) {c h t : Nat} (hc : c < W * H) (hh : h < 4) (ht : t < 3) : f_Mod_farBehind S1 R I 90 (nI c) (nI h) (nI t) = some (I 100 (aft W H K (4 * c + h) t)) := by
  have hN := hM.N36
  have hd := @hd3_lt (4 * c + h) t
  have e3 : (h + t + 3) % 4 = hd3 (4 * c + h) t := by
    unfold hd3
    omega
  have hlt := @nxt_lt W H K hM.1 c (hd3 (4 * c + h) t) hc
  unfold f_Mod_farBehind
  rw [turned_c hh ht, bnd1_c, r_90_25 hR, bnd1_c, e3, cellBy_c hM hR hc hd, bnd1_c, show (4 : Int32) = nI 4 from rfl, pk_mul, nI_add, lt_c, t_100, asrt_pos rfl, asrt_pos (vir (by omega) (by omega)), lt_c, cl32 (by omega)]
  unfold aft
  rw [show (4 * c + h) / 4 = c by omega]
/-- the best that a stance can have now -/
def bst (W H : Nat) (K : Nat → Nat) (F : Nat → Nat) (s : Nat) : Nat := min (min (min (F s) (1 + F (aft W H K s 0))) (1 + F (aft W H K s 1))) (1 + F (aft W H K s 2))
theorem best_c {g : Nat} (hg : 1000 ≤ g) (hM : LM W H K I) (hR : RG p fe R) {F : Nat → Nat} (hF : FO W H K F I) {c h : Nat} {v1 : Int32} (hc : c < W * H) (hh : h < 4) :
    l_Mod_measures_104 S1 R I 90 v1 (nI c) (nI h) g (nI (F (4 * c + h))) 0 = some (nI (bst W H K F (4 * c + h))) := by
  obtain ⟨g, rfl⟩ : ∃ g', g = g' + 4 := ⟨g - 4, by omega⟩
  have hs : 4 * c + h < 4 * (W * H) := by omega
  have step : ∀ (f t a : Nat), t < 3 → a ≤ 1000000 → l_Mod_measures_104 S1 R I 90 v1 (nI c) (nI h) (f + 1) (nI a) (nI t) = l_Mod_measures_104 S1 R I 90 v1 (nI c) (nI h) f (nI (min a (1 + F (aft W H K (4 * c + h) t)))) (nI (t + 1)) := fun f t a ht ha => by
    obtain ⟨e, h1, -⟩ := hF _ (@aft_lt W H K hM.1 (4 * c + h) t hs)
    rw [l_Mod_measures_104, show (3 : Int32) = nI 3 from rfl, ifb_neg (by rw [le32 (by omega) (by omega)]; omega), farB_c hM hR hc hh ht, bnd1_c, e, show (1 : Int32) = nI 1 from rfl, nI_add, nI_add, min_c (by omega) (by omega), bnd1_c]
  have last : ∀ (f a : Nat), l_Mod_measures_104 S1 R I 90 v1 (nI c) (nI h) (f + 1) (nI a) (nI 3) = some (nI a) := fun f a => by
    rw [l_Mod_measures_104, ifb_pos (by decide)]
  have h0 := (hF _ hs).2.1
  rw [nI0, step _ 0 _ (by omega) h0, step _ 1 _ (by omega) (by omega), step _ 2 _ (by omega) (by omega), last]
  rfl
theorem bst_le {F : Nat → Nat} {s : Nat} : bst W H K F s ≤ F s ∧ ∀ t, t < 3 → bst W H K F s ≤ 1 + F (aft W H K s t) := by
  unfold bst
  refine ⟨by omega, fun t ht => ?_⟩
  have : t = 0 ∨ t = 1 ∨ t = 2 := by omega
  rcases this with rfl | rfl | rfl <;> omega
theorem bst_or {F : Nat → Nat} {s : Nat} : bst W H K F s = F s ∨ ∃ t, t < 3 ∧ bst W H K F s = 1 + F (aft W H K s t) := by
  unfold bst
  by_cases h0 : min (min (min (F s) (1 + F (aft W H K s 0))) (1 + F (aft W H K s 1))) (1 + F (aft W H K s 2)) = F s
  · exact Or.inl h0
  · right
    by_cases h1 : min (min (min (F s) (1 + F (aft W H K s 0))) (1 + F (aft W H K s 1))) (1 + F (aft W H K s 2)) = 1 + F (aft W H K s 0)
    · exact ⟨0, by omega, h1⟩
    · by_cases h2 : min (min (min (F s) (1 + F (aft W H K s 0))) (1 + F (aft W H K s 1))) (1 + F (aft W H K s 2)) = 1 + F (aft W H K s 1)
      · exact ⟨1, by omega, h2⟩
      · exact ⟨2, by omega, by omega⟩
/-- one stance done anew -/
def upF (F : Nat → Nat) (s v : Nat) : Nat → Nat := fun x => if x = s then v else F x
theorem FO_up (hM : LM W H K I) {F : Nat → Nat} (hF : FO W H K F I) {s : Nat} (hs : s < 4 * (W * H)) (he : isE (K (s / 4)) = false) : FO W H K (upF F s (bst W H K F s)) (wI I 100 s (nI (bst W H K F s))) := by
  intro x hx
  unfold upF
  by_cases e : x = s
  · subst e
    obtain ⟨a, b, c, d⟩ := hF x hx
    have hl := (@bst_le W H K F x)
    simp only [if_true]
    refine ⟨wI_s, by omega, fun hlt => ?_, fun h3 => ?_⟩
    · rcases @bst_or W H K F x with e | ⟨t, ht, e⟩
      · rw [e] at hlt ⊢
        exact c hlt
      · obtain ⟨a', b', c', d'⟩ := hF _ (@aft_lt W H K hM.1 x t hx)
        rw [e, Nat.add_comm]
        exact ⟨hx, he, t, ht, c' (by omega)⟩
    · unfold isE at he
      rw [h3] at he
      cases he
  · simp only [e, if_false]
    rw [wI_n (by omega)]
    exact hF x hx
theorem sweepH_l {g : Nat} (hg : 1000 ≤ g) (hR : RG p fe R) {c : Nat} (hc : c < W * H) : ∀ (f h v1 : Nat) (F : Nat → Nat) (I : MI), LM W H K I → FO W H K F I → h ≤ 4 → 4 < h + f → v1 ≤ 1 →
    wpo (l_Mod_measures_76 g S1 R 90 (nI c) f I (nI v1) (nI h)) (fun r => ∃ v' F', v' ≤ 1 ∧ r.1 = nI v' ∧ Fr [(100, none)] I r.2 ∧ FO W H K F' r.2 ∧ sumN F' (4 * (W * H)) ≤ sumN F (4 * (W * H)) ∧ (v' = 1 → v1 = 1 ∨ sumN F' (4 * (W * H)) < sumN F (4 * (W * H))) ∧
      (v' = 0 → v1 = 0 ∧ F' = F ∧ ∀ x, 4 * c + h ≤ x → x < 4 * c + 4 → isE (K (x / 4)) = false → ∀ t, t < 3 → F x ≤ 1 + F (aft W H K x t))) := by
  intro f
  induction f with
  | zero => intro h v1 F I _ _ h1 h2; omega
  | succ f ih =>
    intro h v1 F I hM hF h1 h2 hv
    have hN := hM.N36
    rw [l_Mod_measures_76, show (4 : Int32) = nI 4 from rfl]
    by_cases hh : h = 4
    · subst hh
      rw [ifb_pos (by decide)]
      exact ⟨_, rfl, v1, F, hv, rfl, Fr.rf, hF, Nat.le_refl _, fun z => Or.inl z, fun z => ⟨z, rfl, fun x a b => by omega⟩⟩
    · rw [ifb_neg (by rw [le32 (by omega) (by omega)]; omega), isEnd_in hM hR hc, bnd1_c]
      by_cases he : isE (K c) = true
      · have heb : eb (K c) = 1 := by unfold eb; rw [he]; rfl
        rw [heb, ifb_neg (by decide)]
        refine ⟨_, rfl, v1, F, hv, rfl, Fr.rf, hF, Nat.le_refl _, fun z => Or.inl z, fun z => ⟨z, rfl, fun x a b hx => ?_⟩⟩
        rw [show x / 4 = c by omega, he] at hx
        cases hx
      · have heb : eb (K c) = 0 := by unfold eb; rw [if_neg he]
        have hs : 4 * c + h < 4 * (W * H) := by omega
        have he' : isE (K ((4 * c + h) / 4)) = false := by
          rw [show (4 * c + h) / 4 = c by omega]
          cases hh : isE (K c) with | false => rfl | true => exact absurd hh he
        obtain ⟨e1, e2, e3, e4⟩ := hF _ hs
        have hbl := @bst_le W H K F (4 * c + h)
        rw [heb, ifb_pos rfl, r_90_25 hR, bnd1_c, pk_mul, nI_add, lt_c, t_100, asrt_pos rfl, asrt_pos (vir (by omega) (by omega)), lt_c, cl32 (by omega), e1, best_c hg hM hR hF hc (by omega), bnd1_c, lt_c, asrt_pos (vir (by omega) (by omega)), cl32 (by omega), e1, nI_1]
        obtain ⟨y, hy, hy1, hy2, hy3⟩ : ∃ y : Nat, y ≤ 1 ∧ (∀ {β : Type} (gg : Int32 → Option β), bnd1 (ifb (nI v1 = 0) (ifb (nI (F (4 * c + h)) ≤ nI (bst W H K F (4 * c + h))) (some (0 : Int32)) (some 1)) (some 1)) gg = gg (nI y)) ∧ (y = 0 → v1 = 0 ∧ bst W H K F (4 * c + h) = F (4 * c + h)) ∧ (y = 1 → v1 = 1 ∨ bst W H K F (4 * c + h) < F (4 * c + h)) := by
          by_cases hv0 : v1 = 0
          · by_cases hle : F (4 * c + h) ≤ bst W H K F (4 * c + h)
            · refine ⟨0, by omega, fun gg => by rw [ifb_pos (by rw [hv0]; rfl), ifb_pos (by rw [le32 (by omega) (by omega)]; exact hle)]; rfl, fun _ => ⟨hv0, by omega⟩, fun z => by omega⟩
            · refine ⟨1, by omega, fun gg => by rw [ifb_pos (by rw [hv0]; rfl), ifb_neg (by rw [le32 (by omega) (by omega)]; exact hle)]; rfl, fun z => by omega, fun _ => Or.inr (by omega)⟩
          · exact ⟨1, by omega, fun gg => by rw [ifb_neg (by rw [nI0, eq32 (by omega) (by omega)]; exact hv0)]; rfl, fun z => by omega, fun _ => Or.inl (by omega)⟩
        have hy1' := @hy1
        rw [hy1, asrt_pos (vir (by omega) (by omega)), lt_c]
        have f1 : Fr [(100, none)] I (wI I 100 (4 * c + h) (nI (bst W H K F (4 * c + h)))) := Fr.w Fr.rf rfl
        have hsum := sumN_upd (F := F) (G := upF F (4 * c + h) (bst W H K F (4 * c + h))) (s := 4 * c + h) (fun k hk => by unfold upF; rw [if_neg hk]) (4 * (W * H)) hs
        have hself : upF F (4 * c + h) (bst W H K F (4 * c + h)) (4 * c + h) = bst W H K F (4 * c + h) := by unfold upF; rw [if_pos rfl]
        rw [hself] at hsum
        refine wpo_mono (ih (h + 1) y _ _ (hM.ag (f1.ag rfl)) (FO_up hM hF hs he') (by omega) (by omega) hy) ?_
        rintro r ⟨v', F', a1, a2, a3, a4, a5, a6, a7⟩
        refine ⟨v', F', a1, a2, f1.tr a3, a4, by omega, fun z => ?_, fun z => ?_⟩
        · rcases a6 z with q | q
          · rcases hy3 q with q2 | q2
            · exact Or.inl q2
            · exact Or.inr (by omega)
          · exact Or.inr (by omega)
        · obtain ⟨b1, b2, b3⟩ := a7 z
          obtain ⟨b4, b5⟩ := hy2 b1
          have hFF : upF F (4 * c + h) (bst W H K F (4 * c + h)) = F := by
            funext x
            unfold upF
            by_cases e : x = 4 * c + h
            · rw [if_pos e, b5, e]
            · rw [if_neg e]
          rw [hFF] at b2 b3
          refine ⟨b4, b2, fun x hx1 hx2 hx3 t ht => ?_⟩
          by_cases e : x = 4 * c + h
          · subst e
            have := hbl.2 t ht
            omega
          · exact b3 x (by omega) hx2 hx3 t ht
theorem sweep_l {g : Nat} (hg : 1000 ≤ g) (hR : RG p fe R) : ∀ (f c v1 : Nat) (F : Nat → Nat) (I : MI), LM W H K I → FO W H K F I → c ≤ W * H → W * H < c + f → v1 ≤ 1 →
    wpo (l_Mod_measures_66 g S1 R 90 f I (nI v1) (nI c)) (fun r => ∃ v' F', v' ≤ 1 ∧ r.1 = nI v' ∧ Fr [(100, none)] I r.2 ∧ FO W H K F' r.2 ∧ sumN F' (4 * (W * H)) ≤ sumN F (4 * (W * H)) ∧ (v' = 1 → v1 = 1 ∨ sumN F' (4 * (W * H)) < sumN F (4 * (W * H))) ∧
      (v' = 0 → v1 = 0 ∧ F' = F ∧ ∀ x, 4 * c ≤ x → x < 4 * (W * H) → isE (K (x / 4)) = false → ∀ t, t < 3 → F x ≤ 1 + F (aft W H K x t))) := by
  intro f
  induction f with
  | zero => intro c v1 F I _ _ h1 h2; omega
  | succ f ih =>
    intro c v1 F I hM hF h1 h2 hv
    have hN := hM.N36
    rw [l_Mod_measures_66]
    unfold f_Mod_cells
    rw [hM.2.2.2.1, hM.2.2.2.2.1, pk_mul, lt_c, bnd1_c]
    by_cases hh : c = W * H
    · rw [ifb_pos (by rw [le32 (by omega) (by omega)]; omega)]
      exact ⟨_, rfl, v1, F, hv, rfl, Fr.rf, hF, Nat.le_refl _, fun z => Or.inl z, fun z => ⟨z, rfl, fun x a b => by omega⟩⟩
    · rw [ifb_neg (by rw [le32 (by omega) (by omega)]; omega), wpo_b2, nI_1]
      refine wpo_mono (sweepH_l hg hR (c := c) (by omega) g 0 v1 F I hM hF (by omega) (by omega) hv) ?_
      rintro ⟨y, I1⟩ ⟨v', F', a1, a2, a3, a4, a5, a6, a7⟩
      simp only at a2 a3 a4
      simp only
      rw [a2]
      refine wpo_mono (ih (c + 1) v' F' I1 (hM.ag (a3.ag rfl)) a4 (by omega) (by omega) a1) ?_
      rintro r ⟨v2, F2, b1, b2, b3, b4, b5, b6, b7⟩
      refine ⟨v2, F2, b1, b2, a3.tr b3, b4, by omega, fun z => ?_, fun z => ?_⟩
      · rcases b6 z with q | q
        · rcases a6 q with q2 | q2
          · exact Or.inl q2
          · exact Or.inr (by omega)
        · exact Or.inr (by omega)
      · obtain ⟨c1, c2, c3⟩ := b7 z
        obtain ⟨d1, d2, d3⟩ := a7 c1
        subst d2
        refine ⟨d1, c2, fun x hx1 hx2 hx3 t ht => ?_⟩
        by_cases e : x < 4 * c + 4
        · exact d3 x (by omega) e hx3 t ht
        · exact c3 x (by omega) hx2 hx3 t ht
theorem relax_l {g : Nat} (hg : 1000 ≤ g) (hR : RG p fe R) : ∀ (f : Nat) (F : Nat → Nat) (I : MI), LM W H K I → FO W H K F I → sumN F (4 * (W * H)) + 1 < f →
    wpo (l_Mod_measures_58 g S1 R 90 f I 1) (fun I' => ∃ F', Fr [(100, none)] I I' ∧ FO W H K F' I' ∧ ∀ x, x < 4 * (W * H) → isE (K (x / 4)) = false → ∀ t, t < 3 → F' x ≤ 1 + F' (aft W H K x t)) := by
  intro f
  induction f with
  | zero => intro F I _ _ h; omega
  | succ f ih =>
    intro F I hM hF hf
    rw [l_Mod_measures_58, ifb_neg (show ¬ (1 : Int32) = 0 by decide), wpo_b2, nI0]
    refine wpo_mono (sweep_l hg hR g 0 0 F I hM hF (by omega) (by have := hM.N36; omega) (by omega)) ?_
    rintro ⟨y, I1⟩ ⟨v', F', a1, a2, a3, a4, a5, a6, a7⟩
    simp only at a2 a3 a4
    simp only
    rw [a2]
    have hv : v' = 0 ∨ v' = 1 := by omega
    rcases hv with rfl | rfl
    · obtain ⟨f, rfl⟩ : ∃ f', f = f' + 1 := ⟨f - 1, by omega⟩
      rw [l_Mod_measures_58, ifb_pos (by decide)]
      obtain ⟨-, b2, b3⟩ := a7 rfl
      exact ⟨I1, rfl, F', a3, a4, fun x hx he t ht => by rw [b2]; exact b3 x (by omega) hx he t ht⟩
    · have hlt := (a6 rfl).resolve_left (by omega)
      refine wpo_mono (ih F' I1 (hM.ag (a3.ag rfl)) a4 (by omega)) ?_
      rintro I' ⟨F2, b1, b2, b3⟩
      exact ⟨F2, a3.tr b1, b2, b3⟩
def Fz0 (W H : Nat) (K : Nat → Nat) (s : Nat) : Nat := if K (s / 4) = 3 then 0 else 1000000
theorem fin12 (hR : RG p fe R) {c : Nat} (hc : c < W * H) : ∀ (f h : Nat) (I : MI), LM W H K I → h ≤ 4 → 4 < h + f → wpo (l_Mod_measures_12 S1 R 90 (nI c) f I (nI h)) (fun I' => Fr [(100, none)] I I' ∧ (∀ x, x < 4 * c + h → I' 100 x = I 100 x) ∧ ∀ x, 4 * c + h ≤ x → x < 4 * c + 4 → I' 100 x = nI (Fz0 W H K x)) := by
  intro f
  induction f with
  | zero => intro h I _ h1 h2; omega
  | succ f ih =>
    intro h I hM h1 h2
    have hN := hM.N36
    rw [l_Mod_measures_12, show (4 : Int32) = nI 4 from rfl]
    by_cases hh : h = 4
    · subst hh
      rw [ifb_pos (by decide)]
      exact ⟨_, rfl, Fr.rf, fun _ _ => rfl, fun x a b => by omega⟩
    · have ek : ∀ {β : Type} (gg : Int32 → Option β), bnd1 (ifb (nI (K c) = 3) (some (0 : Int32)) (some 1000000)) gg = gg (nI (Fz0 W H K (4 * c + h))) := fun gg => by
        have hk4 := hM.2.2.1 c
        unfold Fz0
        rw [show (4 * c + h) / 4 = c by omega]
        by_cases e : K c = 3
        · rw [e, ifb_pos (by decide), if_pos rfl]; rfl
        · rw [ifb_neg (by rw [show (3 : Int32) = nI 3 from rfl, eq32 (by omega) (by omega)]; exact e), if_neg e]; rfl
      rw [ifb_neg (by rw [le32 (by omega) (by omega)]; omega), r_90_25 hR, bnd1_c, r_90_5 hR, bnd1_c, t_92, asrt_pos rfl, asrt_pos (vir (by omega) (by omega)), cl32 (by omega), hM.2.2.2.2.2 c hc, ek, t_100, asrt_pos rfl, pk_mul, nI_add, asrt_pos (vir (by omega) (by omega)), lt_c, cl32 (by omega), nI_1]
      have f1 : Fr [(100, none)] I (wI I 100 (4 * c + h) (nI (Fz0 W H K (4 * c + h)))) := Fr.w Fr.rf rfl
      refine wpo_mono (ih (h + 1) _ (hM.ag (f1.ag rfl)) (by omega) (by omega)) ?_
      rintro I' ⟨a, b, d⟩
      refine ⟨f1.tr a, fun x hx => ?_, fun x hx hx2 => ?_⟩
      · rw [b x (by omega), wI_n (by omega)]
      · by_cases e : x = 4 * c + h
        · subst e
          rw [b _ (by omega), wI_s]
        · exact d x (by omega) hx2
theorem fin2 {g : Nat} (hg : 1000 ≤ g) (hR : RG p fe R) : ∀ (f c : Nat) (I : MI), LM W H K I → c ≤ W * H → W * H < c + f → wpo (l_Mod_measures_2 g S1 R 90 f I (nI c)) (fun I' => Fr [(100, none)] I I' ∧ (∀ x, x < 4 * c → I' 100 x = I 100 x) ∧ ∀ x, 4 * c ≤ x → x < 4 * (W * H) → I' 100 x = nI (Fz0 W H K x)) := by
  intro f
  induction f with
  | zero => intro c I _ h1 h2; omega
  | succ f ih =>
    intro c I hM h1 h2
    have hN := hM.N36
    rw [l_Mod_measures_2]
    unfold f_Mod_cells
    rw [hM.2.2.2.1, hM.2.2.2.2.1, pk_mul, lt_c, bnd1_c]
    by_cases hh : c = W * H
    · rw [ifb_pos (by rw [le32 (by omega) (by omega)]; omega)]
      exact ⟨_, rfl, Fr.rf, fun _ _ => rfl, fun x a b => by omega⟩
    · rw [ifb_neg (by rw [le32 (by omega) (by omega)]; omega), wpo_b1, nI_1, nI0]
      refine wpo_mono (fin12 hR (c := c) (by omega) g 0 I hM (by omega) (by omega)) ?_
      rintro I1 ⟨a1, b1, d1⟩
      refine wpo_mono (ih (c + 1) I1 (hM.ag (a1.ag rfl)) (by omega) (by omega)) ?_
      rintro I' ⟨a, b, d⟩
      refine ⟨a1.tr a, fun x hx => ?_, fun x hx hx2 => ?_⟩
      · rw [b x (by omega), b1 x (by omega)]
      · by_cases e : x < 4 * (c + 1)
        · rw [b x e]
          exact d1 x (by omega) (by omega)
        · exact d x (by omega) hx2
/-- what the reference's row of steps to home says at last -/
def FWy (W H : Nat) (K : Nat → Nat) (s : Nat) (v : Int32) : Prop := (∃ d, d ≤ 144 ∧ DH W H K s d ∧ v = nI d) ∨ ((∀ d, ¬ rch W H K d s) ∧ v = nI 1000000)
theorem measures_c {g : Nat} (hg : 1000000000 ≤ g) (hR : RG p fe R) (hM : LM W H K I) (hb : ∀ s, s < 4 * (W * H) → (∃ d, d ≤ 144 ∧ DH W H K s d) ∨ ∀ d, ¬ rch W H K d s) : wpo (f_Mod_measures g S1 R I 90) (fun I' => Fr [(100, none)] I I' ∧ ∀ s, s < 4 * (W * H) → FWy W H K s (I' 100 s)) := by
  have hN := hM.N36
  unfold f_Mod_measures
  rw [wpo_b1, nI0]
  refine wpo_mono (fin2 (by omega) hR g 0 I hM (by omega) (by omega)) ?_
  rintro I1 ⟨a1, -, d1⟩
  have hFz0 : FO W H K (Fz0 W H K) I1 := fun s hs => by
    refine ⟨d1 s (by omega) hs, ?_, fun h => ?_, fun h => ?_⟩
    · unfold Fz0
      split <;> omega
    · unfold Fz0 at h ⊢
      by_cases e : K (s / 4) = 3
      · rw [if_pos e]; exact ⟨hs, e⟩
      · rw [if_neg e] at h; omega
    · unfold Fz0
      rw [if_pos h]
  have hsum : sumN (Fz0 W H K) (4 * (W * H)) ≤ 4 * (W * H) * 1000000 := sumN_le _ (fun k _ => by unfold Fz0; split <;> omega)
  rw [wpo_b1]
  refine wpo_mono (relax_l (by omega) hR g (Fz0 W H K) I1 (hM.ag (a1.ag rfl)) hFz0 (by omega)) ?_
  rintro I2 ⟨F, b1, b2, b3⟩
  rw [wpo_some]
  refine ⟨a1.tr b1, fun s hs => ?_⟩
  have low : ∀ (d s : Nat), rch W H K d s → F s ≤ d := by
    intro d
    induction d with
    | zero => intro s hr; rw [(b2 s hr.1).2.2.2 hr.2]; omega
    | succ d ih =>
      intro s hr
      obtain ⟨h1, h2, t, ht, h3⟩ := hr
      have := ih _ h3
      have := b3 s h1 h2 t ht
      omega
  obtain ⟨c1, c2, c3, c4⟩ := b2 s hs
  rcases hb s hs with ⟨d, hd, hD⟩ | hno
  · have h1 := low d s hD.1
    have h2 := c3 (by omega)
    have h3 : F s = d := by
      rcases Nat.lt_or_ge (F s) d with z | z
      · exact absurd h2 (hD.2 _ z)
      · omega
    exact Or.inl ⟨d, hd, hD, by rw [c1, h3]⟩
  · refine Or.inr ⟨hno, ?_⟩
    by_cases e : F s < 1000000
    · exact absurd (c3 e) (hno _)
    · rw [c1, show F s = 1000000 by omega]
end FB
