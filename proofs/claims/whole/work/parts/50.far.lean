section FA
variable {W H B n : Nat} {K τ : Nat → Nat} {I I' : MI} {L : ML} {R : MR} {p : Bool} {fe : Nat} {q : Nat → Int32}
theorem rch_lt {d s : Nat} (h : rch W H K d s) : s < 4 * (W * H) := by
  cases d with
  | zero => exact h.1
  | succ d => exact h.1
theorem rch_home {s : Nat} (h : rch W H K 0 s) {d : Nat} : ¬ rch W H K (d + 1) s := fun z => by
  have := z.2.1
  rw [h.2] at this
  cases this
theorem DH_step {s d : Nat} (h : DH W H K s (d + 1)) : ∃ t, t < 3 ∧ DH W H K (aft W H K s t) d := by
  obtain ⟨⟨a, b, t, ht, c⟩, m⟩ := h
  exact ⟨t, ht, c, fun e he z => m (e + 1) (by omega) ⟨a, b, t, ht, z⟩⟩
theorem DH_un {s d e : Nat} (h : DH W H K s d) (h' : DH W H K s e) : d = e := by
  rcases Nat.lt_trichotomy d e with z | z | z
  · exact absurd h.1 (h'.2 d z)
  · exact z
  · exact absurd h'.1 (h.2 e z)
theorem DH_of {s d : Nat} (h : rch W H K d s) : ∃ e, e ≤ d ∧ DH W H K s e := by
  induction d using Nat.strongRecOn with
  | ind d ih =>
    by_cases hm : ∃ e, e < d ∧ rch W H K e s
    · obtain ⟨e, he, hr⟩ := hm
      obtain ⟨e', h1, h2⟩ := ih e he hr
      exact ⟨e', by omega, h2⟩
    · exact ⟨d, Nat.le_refl d, h, fun e he hr => hm ⟨e, he, hr⟩⟩
/-- the row behind k layers -/
def QH (W H : Nat) (K : Nat → Nat) (k s : Nat) (v : Int32) : Prop := (∃ d, d ≤ k ∧ DH W H K s d ∧ v = nI d) ∨ ((∀ d, d ≤ k → ¬ rch W H K d s) ∧ v = -1)
theorem QH_eq {k s d : Nat} {v : Int32} (h : QH W H K k s v) (hk : k ≤ 1000) (hd : d ≤ k) : v = nI d ↔ DH W H K s d := by
  rcases h with ⟨e, h1, h2, rfl⟩ | ⟨h1, rfl⟩
  · rw [eq32 (by omega) (by omega)]
    exact ⟨fun z => z ▸ h2, fun z => DH_un h2 z⟩
  · exact ⟨fun z => absurd z.symm (nIm1 (by omega)), fun z => absurd z.1 (h1 d hd)⟩
theorem QH_m1 {k s : Nat} {v : Int32} (h : QH W H K k s v) (hk : k ≤ 1000) : v = -1 ↔ ∀ d, d ≤ k → ¬ rch W H K d s := by
  rcases h with ⟨e, h1, h2, rfl⟩ | ⟨h1, rfl⟩
  · exact ⟨fun z => absurd z (nIm1 (by omega)), fun z => absurd h2.1 (z e h1)⟩
  · exact ⟨fun _ => h1, fun _ => rfl⟩
theorem stepsHome_c (hR : RG p fe R) {s : Nat} (hs : s < 144) : f_Land_stepsHome S1 R I 60 (nI s) = some (I 63 s) := by
  unfold f_Land_stepsHome
  rw [ifb_neg (zn (by omega)), show (144 : Int32) = nI 144 from rfl, ifb_neg (by rw [le32 (by omega) (by omega)]; omega), r_60_4 hR, bnd1_c, t_63, asrt_pos rfl, asrt_pos (vir (by omega) (by omega)), cl32 (by omega)]
  rfl
/-- the least turn behind which the row says v -/
noncomputable def ltn (F : Nat → Int32) (W H : Nat) (K : Nat → Nat) (s : Nat) (v : Int32) : Nat :=
  @ite _ (F (aft W H K s 0) = v) (Classical.propDecidable _) 0 (@ite _ (F (aft W H K s 1) = v) (Classical.propDecidable _) 1 (@ite _ (F (aft W H K s 2) = v) (Classical.propDecidable _) 2 3))
theorem turnT_c {g : Nat} (hg : 1000 ≤ g) (hN : W * H ≤ 36) (hW : 1 ≤ W ∧ W ≤ 6) (hA : LA W H K I) (hR : RG p fe R) {s : Nat} (hs : s < 4 * (W * H)) (v : Int32) :
    f_Land_turnTowards g S1 R I 60 (nI s) v = some (if ltn (I 63) W H K s v = 3 then -1 else nI (ltn (I 63) W H K s v)) := by
  obtain ⟨g, rfl⟩ : ∃ g', g = g' + 4 := ⟨g - 4, by omega⟩
  have step : ∀ (f t : Nat), t < 3 → l_Land_turnTowards_2 S1 R I 60 (nI s) v (f + 1) (nI t) = ifb (I 63 (aft W H K s t) = v) (some (nI t)) (l_Land_turnTowards_2 S1 R I 60 (nI s) v f (nI (t + 1))) := fun f t ht => by
    have := @aft_lt W H K hW s t hs
    rw [l_Land_turnTowards_2, show (3 : Int32) = nI 3 from rfl, ifb_neg (by rw [le32 (by omega) (by omega)]; omega), after_c hN hA hR hs ht, bnd1_c, stepsHome_c hR (by omega), bnd1_c, nI_1]
  have last : ∀ (f : Nat), l_Land_turnTowards_2 S1 R I 60 (nI s) v (f + 1) (nI 3) = some (-1) := fun f => by
    rw [l_Land_turnTowards_2, ifb_pos (by decide)]
  unfold f_Land_turnTowards ltn
  rw [nI0, step _ 0 (by omega), step _ 1 (by omega), step _ 2 (by omega), last]
  by_cases h0 : I 63 (aft W H K s 0) = v
  · rw [ifb_pos h0, if_pos h0]; rfl
  · rw [ifb_neg h0, if_neg h0]
    by_cases h1 : I 63 (aft W H K s 1) = v
    · rw [ifb_pos h1, if_pos h1]; rfl
    · rw [ifb_neg h1, if_neg h1]
      by_cases h2 : I 63 (aft W H K s 2) = v
      · rw [ifb_pos h2, if_pos h2]; rfl
      · rw [ifb_neg h2, if_neg h2]; rfl
theorem ltn_lt {F : Nat → Int32} {s : Nat} {v : Int32} : ltn F W H K s v < 3 ↔ ∃ t, t < 3 ∧ F (aft W H K s t) = v := by
  unfold ltn
  by_cases h0 : F (aft W H K s 0) = v
  · rw [if_pos h0]; exact ⟨fun _ => ⟨0, by omega, h0⟩, fun _ => by omega⟩
  · rw [if_neg h0]
    by_cases h1 : F (aft W H K s 1) = v
    · rw [if_pos h1]; exact ⟨fun _ => ⟨1, by omega, h1⟩, fun _ => by omega⟩
    · rw [if_neg h1]
      by_cases h2 : F (aft W H K s 2) = v
      · rw [if_pos h2]; exact ⟨fun _ => ⟨2, by omega, h2⟩, fun _ => by omega⟩
      · rw [if_neg h2]
        refine ⟨fun z => by omega, ?_⟩
        rintro ⟨t, ht, e⟩
        have : t = 0 ∨ t = 1 ∨ t = 2 := by omega
        rcases this with rfl | rfl | rfl
        · exact absurd e h0
        · exact absurd e h1
        · exact absurd e h2
theorem ltn_le {F : Nat → Int32} {s : Nat} {v : Int32} : ltn F W H K s v ≤ 3 := by
  unfold ltn
  split
  · omega
  · split
    · omega
    · split <;> omega
theorem ltn_at {F : Nat → Int32} {s : Nat} {v : Int32} (h : ltn F W H K s v < 3) : F (aft W H K s (ltn F W H K s v)) = v := by
  unfold ltn at h ⊢
  by_cases h0 : F (aft W H K s 0) = v
  · rw [if_pos h0]; exact h0
  · rw [if_neg h0] at h ⊢
    by_cases h1 : F (aft W H K s 1) = v
    · rw [if_pos h1]; exact h1
    · rw [if_neg h1] at h ⊢
      by_cases h2 : F (aft W H K s 2) = v
      · rw [if_pos h2]; exact h2
      · rw [if_neg h2] at h
        omega
theorem ltn_congr {F G : Nat → Int32} {s : Nat} {v w : Int32} (h : ∀ t, t < 3 → (F (aft W H K s t) = v ↔ G (aft W H K s t) = w)) : ltn F W H K s v = ltn G W H K s w := by
  unfold ltn
  have e : ∀ (a b : Prop) (x y : Nat), (a ↔ b) → @ite _ a (Classical.propDecidable a) x y = @ite _ b (Classical.propDecidable b) x y := fun a b x y hab => by
    by_cases ha : a
    · rw [if_pos ha, if_pos (hab.mp ha)]
    · rw [if_neg ha, if_neg (fun z => ha (hab.mpr z))]
  rw [e _ _ _ _ (h 0 (by omega)), e _ _ _ _ (h 1 (by omega)), e _ _ _ _ (h 2 (by omega))]
/-- how many stances have no number -/
def cun (I : MI) : Nat := cnf (fun s => decide (I 63 s ≠ -1)) 144
theorem cun_le (I : MI) : cun I ≤ 144 := by
  unfold cun
  exact cnf_le _ _
theorem cun_eq {I J : MI} (h : I 63 = J 63) : cun I = cun J := by unfold cun; rw [h]
theorem cun_w {s : Nat} (hs : s < 144) (h : I 63 s = -1) {v : Int32} (hv : v ≠ -1) : cun I = cun (wI I 63 s v) + 1 := by
  unfold cun
  refine cnf_upd (d := s) ?_ ?_ (fun k hk => ?_) 144 hs
  · simp [h]
  · simp [wI_s, hv]
  · rw [wI_n (by omega)]
theorem widen_l {g : Nat} (hg : 1000 ≤ g) (hR : RG p fe R) {k : Nat} (hk : k + 1 ≤ 144) : ∀ (f s : Nat) (v2 : Nat) (I : MI), LKc W H K I → LA W H K I → s ≤ 4 * (W * H) → 4 * (W * H) < s + f → v2 ≤ 1 → (∀ x, x < s → QH W H K (k + 1) x (I 63 x)) → (∀ x, s ≤ x → x < 144 → QH W H K k x (I 63 x)) →
    wpo (l_Land_widen_4 g S1 R 60 (nI (k + 1)) f I (nI v2) (nI s)) (fun r => ∃ v', v' ≤ 1 ∧ r.1 = nI v' ∧ Fr [(63, none)] I r.2 ∧ (∀ x, x < 144 → QH W H K (k + 1) x (r.2 63 x)) ∧ cun r.2 ≤ cun I ∧ (v' = 1 → v2 = 1 ∨ cun r.2 < cun I) ∧ (v' = 0 → v2 = 0 ∧ ∀ x, s ≤ x → x < 144 → ¬ DH W H K x (k + 1))) := by
  intro f
  induction f with
  | zero => intro s v2 I _ _ h1 h2; omega
  | succ f ih =>
    intro s v2 I hL hA h1 h2 hv q1 q2
    have hN := hL.N36
    by_cases hs : s = 4 * (W * H)
    · have hend : ∀ x, s ≤ x → x < 144 → QH W H K (k + 1) x (I 63 x) := fun x hx hx2 => by
        rcases q2 x hx hx2 with ⟨d, a, b, c⟩ | ⟨a, b⟩
        · exact Or.inl ⟨d, by omega, b, c⟩
        · exact Or.inr ⟨fun d _ z => by have := rch_lt z; omega, b⟩
      have hres : l_Land_widen_4 g S1 R 60 (nI (k + 1)) (f + 1) I (nI v2) (nI s) = some (nI v2, I) := by
        rw [l_Land_widen_4]
        by_cases h144 : (144 : Int32) ≤ nI s
        · rw [ifb_pos h144]
        · rw [ifb_neg h144, cellOf_c (by omega), bnd1_c, hL.2.2.2.1, hL.2.2.2.2.1, pk_mul, ifb_pos (by rw [le32 (by omega) (by omega)]; omega)]
      refine ⟨_, hres, v2, hv, rfl, Fr.rf, fun x hx => ?_, Nat.le_refl _, fun z => Or.inl z, fun z => ⟨z, fun x hx hx2 hd => ?_⟩⟩
      · by_cases e : x < s
        · exact q1 x e
        · exact hend x (by omega) hx
      · have := rch_lt hd.1; omega
    · have hlt : s < 4 * (W * H) := by omega
      rw [l_Land_widen_4, show (144 : Int32) = nI 144 from rfl, ifb_neg (by rw [le32 (by omega) (by omega)]; omega), cellOf_c (by omega), bnd1_c, hL.2.2.2.1, hL.2.2.2.2.1, pk_mul, ifb_neg (by rw [le32 (by omega) (by omega)]; omega), r_60_4 hR, bnd1_c, t_63, asrt_pos rfl, asrt_pos (vir (by omega) (by omega)), cl32 (by omega), nI_1]
      have hq := q2 s (Nat.le_refl _) (by omega)
      -- nothing changes at this stance
      have stay : QH W H K (k + 1) s (I 63 s) → (¬ DH W H K s (k + 1)) → wpo (l_Land_widen_4 g S1 R 60 (nI (k + 1)) f I (nI v2) (nI (s + 1))) (fun r => ∃ v', v' ≤ 1 ∧ r.1 = nI v' ∧ Fr [(63, none)] I r.2 ∧ (∀ x, x < 144 → QH W H K (k + 1) x (r.2 63 x)) ∧ cun r.2 ≤ cun I ∧ (v' = 1 → v2 = 1 ∨ cun r.2 < cun I) ∧ (v' = 0 → v2 = 0 ∧ ∀ x, s ≤ x → x < 144 → ¬ DH W H K x (k + 1))) := by
        intro hqs hnd
        refine wpo_mono (ih (s + 1) v2 I hL hA (by omega) (by omega) hv (fun x hx => ?_) (fun x hx hx2 => q2 x (by omega) hx2)) ?_
        · by_cases e : x = s
          · subst e; exact hqs
          · exact q1 x (by omega)
        · rintro r ⟨v', a, b, c, d, e, e2, e3⟩
          refine ⟨v', a, b, c, d, e, e2, fun z => ⟨(e3 z).1, fun x hx hx2 => ?_⟩⟩
          by_cases ex : x = s
          · subst ex; exact hnd
          · exact (e3 z).2 x (by omega) hx2
      by_cases hm : I 63 s = -1
      rotate_left
      · rw [ifb_neg hm, bnd2_c]
        rcases hq with ⟨d, a, b, c⟩ | ⟨a, b⟩
        · exact stay (Or.inl ⟨d, by omega, b, c⟩) (fun z => by have := DH_un b z; omega)
        · exact absurd b hm
      have hno := (QH_m1 hq (by omega)).mp hm
      rw [ifb_pos hm, bnd1_c, endsAt_in hL hR (by omega), bnd1_c]
      by_cases he : isE (K (s / 4)) = true
      · have heb : eb (K (s / 4)) = 1 := by unfold eb; rw [he]; rfl
        rw [heb, ifb_neg (by decide), bnd2_c]
        have hnr : ¬ rch W H K (k + 1) s := fun z => by have := z.2.1; rw [he] at this; cases this
        exact stay (Or.inr ⟨fun d hd => by
          by_cases e : d = k + 1
          · rw [e]; exact hnr
          · exact hno d (by omega), hm⟩) (fun z => hnr z.1)
      have heb : eb (K (s / 4)) = 0 := by unfold eb; rw [if_neg he]
      have he' : isE (K (s / 4)) = false := by cases hh : isE (K (s / 4)) with | false => rfl | true => exact absurd hh he
      rw [heb, ifb_pos rfl, sub1 (by omega), Nat.add_sub_cancel, turnT_c hg hN.2 hL.1 hA hR hlt, bnd1_c]
      -- a turn behind which there are k
      have hex : (ltn (I 63) W H K s (nI k) < 3) ↔ DH W H K s (k + 1) := by
        rw [ltn_lt]
        constructor
        · rintro ⟨t, ht, e⟩
          have hl := @aft_lt W H K hL.1 s t hlt
          have hdh : DH W H K (aft W H K s t) k := by
            by_cases ex : aft W H K s t < s
            · exact (QH_eq (q1 _ ex) (by omega) (by omega)).mp e
            · exact (QH_eq (q2 _ (by omega) (by omega)) (by omega) (Nat.le_refl _)).mp e
          exact ⟨⟨hlt, he', t, ht, hdh.1⟩, fun e' he2 => hno e' (by omega)⟩
        · intro hd
          obtain ⟨t, ht, hdh⟩ := DH_step hd
          have hl := @aft_lt W H K hL.1 s t hlt
          refine ⟨t, ht, ?_⟩
          by_cases ex : aft W H K s t < s
          · exact (QH_eq (q1 _ ex) (by omega) (by omega)).mpr hdh
          · exact (QH_eq (q2 _ (by omega) (by omega)) (by omega) (Nat.le_refl _)).mpr hdh
      have hl3 := @ltn_le W H K (I 63) s (nI k)
      by_cases hd : DH W H K s (k + 1)
      · have hlt3 := hex.mpr hd
        rw [if_neg (by omega), ifb_neg (nIm1 (by omega)), asrt_pos (vir (by omega) (by omega)), lt_c, bnd2_c]
        have hc := cun_w (by omega : s < 144) hm (nIm1 (n := k + 1) (by omega))
        have f1 : Fr [(63, none)] I (wI I 63 s (nI (k + 1))) := Fr.w Fr.rf rfl
        refine wpo_mono (ih (s + 1) 1 (wI I 63 s (nI (k + 1))) (hL.ag (f1.ag rfl)) (hA.ag (f1.ag rfl)) (by omega) (by omega) (by omega) (fun x hx => ?_) (fun x hx hx2 => by rw [wI_n (by omega)]; exact q2 x (by omega) hx2)) ?_
        · by_cases e : x = s
          · subst e; rw [wI_s]; exact Or.inl ⟨k + 1, Nat.le_refl _, hd, rfl⟩
          · rw [wI_n (by omega)]; exact q1 x (by omega)
        · rintro r ⟨v', a, b, c, d, e, e2, e3⟩
          refine ⟨v', a, b, f1.tr c, d, by omega, fun _ => Or.inr (by omega), fun z => absurd (e3 z).1 (by omega)⟩
      · have hnot : ¬ ltn (I 63) W H K s (nI k) < 3 := fun z => hd (hex.mp z)
        rw [if_pos (by omega), ifb_pos rfl, bnd2_c]
        refine stay (Or.inr ⟨fun d hdd => ?_, hm⟩) hd
        by_cases e : d = k + 1
        · intro hr
          rw [e] at hr
          exact hd ⟨hr, fun e' he2 => hno e' (by omega)⟩
        · exact hno d (by omega)
theorem cnf_zero {f : Nat → Bool} : ∀ n, cnf f n = 0 → ∀ k, k < n → f k = true
  | 0, _, k, hk => by omega
  | n + 1, h, k, hk => by
    unfold cnf at h
    cases hn : f n with
    | false => rw [hn] at h; simp at h
    | true =>
      rw [hn] at h
      simp only [if_true, Nat.add_zero] at h
      by_cases e : k = n
      · rw [e]; exact hn
      · exact cnf_zero n h k (by omega)
theorem noDH (hN : W * H ≤ 36) {k : Nat} (h : ∀ x, x < 144 → ¬ DH W H K x (k + 1)) : ∀ (j x : Nat), ¬ DH W H K x (k + 1 + j)
  | 0, x, hd => h x (by have := rch_lt hd.1; omega) hd
  | j + 1, x, hd => by
    obtain ⟨t, -, hd'⟩ := DH_step (d := k + 1 + j) hd
    exact noDH hN h j _ hd'
theorem layers_l {g : Nat} (hg : 1000 ≤ g) (hR : RG p fe R) : ∀ (f k : Nat) (I : MI), LKc W H K I → LA W H K I → k ≤ 144 → 145 < k + f → (∀ x, x < 144 → QH W H K k x (I 63 x)) → cun I + k ≤ 144 →
    wpo (l_Land_measure_57 g S1 R 60 f I 1 (nI (k + 1))) (fun I' => Fr [(63, none)] I I' ∧ ∀ x, x < 144 → HW W H K x (I' 63 x)) := by
  intro f
  induction f with
  | zero => intro k I _ _ h1 h2; omega
  | succ f ih =>
    intro k I hL hA h1 h2 hq hc
    have hN := hL.N36
    rw [l_Land_measure_57, ifb_neg (show ¬ (1 : Int32) = 0 by decide), show (144 : Int32) = nI 144 from rfl]
    by_cases hk : k = 144
    · rw [ifb_pos (by rw [lt32 (by omega) (by omega)]; omega)]
      refine ⟨I, rfl, Fr.rf, fun x hx => ?_⟩
      have h0 : cun I = 0 := by omega
      have h0' : cnf (fun s => decide (I 63 s ≠ -1)) 144 = 0 := h0
      have := cnf_zero _ h0' x hx
      simp only [ne_eq, decide_not, Bool.not_eq_true', decide_eq_false_iff_not] at this
      rcases hq x hx with ⟨d, a, b, c⟩ | ⟨a, b⟩
      · exact Or.inl ⟨d, by omega, b, c⟩
      · exact absurd b this
    · rw [ifb_neg (by rw [lt32 (by omega) (by omega)]; omega), wpo_b2]
      unfold f_Land_widen
      rw [wpo_b2]
      have hw := widen_l (k := k) hg hR (by omega) g 0 0 I hL hA (by omega) (by omega) (by omega) (fun x hx => by omega) (fun x _ hx => hq x hx)
      refine wpo_mono hw ?_
      rintro ⟨y, I1⟩ ⟨v', a, b, c, d, e, e2, e3⟩
      simp only at b c d e e2 e3
      have hv : v' = 0 ∨ v' = 1 := by omega
      rcases hv with rfl | rfl
      · rw [wpo_as, wpo_some]
        refine ⟨Or.inl b, ?_⟩
        simp only
        rw [b, show nI 0 = (0 : Int32) from rfl]
        obtain ⟨f, rfl⟩ : ∃ f', f = f' + 1 := ⟨f - 1, by omega⟩
        rw [l_Land_measure_57, ifb_pos rfl]
        refine ⟨I1, rfl, c, fun x hx => ?_⟩
        have hno := noDH hN.2 (fun x hx => (e3 rfl).2 x (by omega) hx)
        rcases d x hx with ⟨d', a', b', c'⟩ | ⟨a', b'⟩
        · exact Or.inl ⟨d', by omega, b', c'⟩
        · refine Or.inr ⟨fun d' hr => ?_, b'⟩
          obtain ⟨e', he1, he2⟩ := DH_of hr
          by_cases h3 : e' ≤ k + 1
          · exact a' e' h3 he2.1
          · have := hno (e' - (k + 1)) x
            rw [show k + 1 + (e' - (k + 1)) = e' by omega] at this
            exact this he2
      · rw [wpo_as, wpo_some]
        refine ⟨Or.inr b, ?_⟩
        simp only
        rw [b, show nI 1 = (1 : Int32) from rfl, nI_1]
        have hlt := (e2 rfl).resolve_left (by omega)
        refine wpo_mono (ih (k + 1) I1 (hL.ag (c.ag rfl)) (hA.ag (c.ag rfl)) (by omega) (by omega) d (by omega)) ?_
        rintro I' ⟨x1, x2⟩
        exact ⟨c.tr x1, x2⟩
theorem minit_l (hR : RG p fe R) : ∀ (f s : Nat) (I : MI), LKc W H K I → s ≤ 144 → 144 < s + f → wpo (l_Land_measure_15 S1 R 60 1 f I (nI s)) (fun I' => Fr [(63, none)] I I' ∧ (∀ x, x < s → I' 63 x = I 63 x) ∧ ∀ x, s ≤ x → x < 144 → QH W H K 0 x (I' 63 x)) := by
  intro f
  induction f with
  | zero => intro s I _ h1 h2; omega
  | succ f ih =>
    intro s I hL h1 h2
    have hN := hL.N36
    rw [l_Land_measure_15, ifb_neg (show ¬ (1 : Int32) = 0 by decide), show (144 : Int32) = nI 144 from rfl]
    by_cases hs : s = 144
    · rw [ifb_pos (by rw [le32 (by omega) (by omega)]; omega)]
      exact ⟨I, rfl, Fr.rf, fun _ _ => rfl, fun x a b => by omega⟩
    · rw [ifb_neg (by rw [le32 (by omega) (by omega)]; omega), r_60_4 hR, bnd1_c, cellOf_c (by omega), bnd1_c]
      have hk : ∃ v, QH W H K 0 s v ∧ ∀ {β : Type} (g : Int32 → Option β), bnd1 (f_Land_kindOf S1 R I 60 (nI (s / 4))) (fun x10 => bnd1 (ifb (x10 = 3) (some (0 : Int32)) (some (-1))) g) = g v := by
        by_cases hin : s < 4 * (W * H)
        · have hk4 := hL.2.2.1 (s / 4)
          by_cases e : K (s / 4) = 3
          · refine ⟨0, Or.inl ⟨0, Nat.le_refl _, ⟨⟨hin, e⟩, fun e he => by omega⟩, rfl⟩, fun g => ?_⟩
            rw [kindOf_in hL hR (by omega), bnd1_c, e, ifb_pos (by decide)]; rfl
          · refine ⟨-1, Or.inr ⟨fun d hd hr => ?_, rfl⟩, fun g => ?_⟩
            · have : d = 0 := by omega
              subst this
              exact e hr.2
            · rw [kindOf_in hL hR (by omega), bnd1_c, ifb_neg (by rw [show (3 : Int32) = nI 3 from rfl, eq32 (by omega) (by omega)]; exact e)]; rfl
        · refine ⟨-1, Or.inr ⟨fun d hd hr => by have := rch_lt hr; omega, rfl⟩, fun g => ?_⟩
          rw [kindOf_out hL (Or.inr (by rw [le32 (by omega) (by omega)]; omega)), bnd1_c, ifb_neg (by decide)]; rfl
      obtain ⟨v, hv, hk⟩ := hk
      rw [hk, t_63, asrt_pos rfl, asrt_pos (vir (by omega) (by omega)), lt_c, cl32 (by omega), nI_1]
      have f1 : Fr [(63, none)] I (wI I 63 s v) := Fr.w Fr.rf rfl
      refine wpo_mono (ih (s + 1) _ (hL.ag (f1.ag rfl)) (by omega) (by omega)) ?_
      rintro I' ⟨a, b, c⟩
      refine ⟨f1.tr a, fun x hx => ?_, fun x hx hx2 => ?_⟩
      · rw [b x (by omega), wI_n (by omega)]
      · by_cases e : x = s
        · subst e
          rw [b x (by omega), wI_s]; exact hv
        · exact c x (by omega) hx2
theorem measure_c {g : Nat} (hg : 1000 ≤ g) (hR : RG p fe R) (hL : LKc W H K I) (hA : LA W H K I) (hM : LHm W H K I) : wpo (f_Land_measure g S1 R I 60) (fun I' => Fr [(63, none), (60, some 5)] I I' ∧ I' 60 5 = 1 ∧ ∀ x, x < 144 → HW W H K x (I' 63 x)) := by
  obtain ⟨g, rfl⟩ : ∃ g', g = g' + 1 := ⟨g - 1, by omega⟩
  unfold f_Land_measure
  rcases hM with h0 | ⟨h1, h2⟩
  · rw [h0, ifb_pos rfl, bnd1_c, wpo_b1, nI0]
    refine wpo_mono (minit_l hR (g + 1) 0 I hL (by omega) (by omega)) ?_
    rintro I1 ⟨a, -, c⟩
    rw [wpo_b1, show (1 : Int32) = nI (0 + 1) from rfl]
    have hcu := cun_le I1
    refine wpo_mono (layers_l hg hR (g + 1) 0 I1 (hL.ag (a.ag rfl)) (hA.ag (a.ag rfl)) (by omega) (by omega) (fun x hx => c x (by omega) hx) (by omega)) ?_
    rintro I2 ⟨d, e⟩
    rw [wpo_lt, wpo_some]
    exact ⟨((a.sub rfl).tr (d.sub rfl)).w rfl, wI_s, fun x hx => by rw [wI_n (by omega)]; exact e x hx⟩
  · rw [h1, ifb_neg (by decide), bnd1_c, l_Land_measure_15, ifb_pos rfl, bnd1_c, l_Land_measure_57, ifb_pos rfl, bnd1_c, lt_c, wpo_some]
    exact ⟨Fr.w Fr.rf rfl, wI_s, fun x hx => by rw [wI_n (by omega)]; exact h2 x hx⟩
end FA
