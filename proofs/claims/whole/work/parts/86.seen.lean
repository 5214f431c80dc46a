section SE
variable {W H m s0 n k hd h0 N b c h s B lim M q : Nat} {K w : Nat → Nat} {I I' : MI} {L L' L0 : ML} {R : MR} {p : Bool} {fe : Nat} {S T T' : Nat → Bool} {o d : Nat → Nat}
/-! what the model has seen -/
def bI (b : Bool) : Int32 := if b = true then 1 else 0
theorem bI_and (b : Bool) : bI b &&& 1 = bI b := by cases b <;> rfl
theorem bI_0 {b : Bool} : bI b = 0 ↔ b = false := by cases b <;> decide
theorem bI_eq {a b : Bool} : bI a = bI b ↔ a = b := by cases a <;> cases b <;> decide
def Sn (a : Nat) (S : Nat → Bool) (I : MI) : Prop := ∀ s, s < 144 → I a s = bI (S s)
theorem sees_c {g : Nat} (hg : 1000 ≤ g) (hR : RG p fe R) (hc : c < 36) (hh : h < 4) (h7 : I 90 7 = nI c) (h8 : I 90 8 = nI h) : ∃ I', f_Mod_seesHere g S1 R I 90 = some I' ∧ Fr [(101, none)] I I' ∧ Sn 101 (fun s => decide (s = 4 * c + h)) I' := by
  have loop : ∀ F k (I : MI), k ≤ 144 → 144 < k + F → I 90 7 = nI c → I 90 8 = nI h → (∀ j, j < k → I 101 j = bI (decide (j = 4 * c + h))) → ∃ I', l_Mod_seesHere_2 S1 R 90 F I (nI k) = some I' ∧ Fr [(101, none)] I I' ∧ Sn 101 (fun s => decide (s = 4 * c + h)) I' := by
    intro F
    induction F with
    | zero => intro k I h1 h2; omega
    | succ F ih =>
      intro k I h1 h2 h7 h8 h3
      rw [l_Mod_seesHere_2]
      by_cases hk : k = 144
      · subst hk
        exact ⟨I, by rw [ifb_pos (by decide)], Fr.rf, h3⟩
      obtain ⟨I', e, f1, q1⟩ := ih (k + 1) (wI I 101 k (bI (decide (k = 4 * c + h)))) (by omega) (by omega) ((wI_n (by omega)).trans h7) ((wI_n (by omega)).trans h8) (fun j hj => by
        by_cases ej : j = k
        · subst ej; exact wI_s
        · rw [wI_n (by omega)]; exact h3 j (by omega))
      refine ⟨I', ?_, (Fr.w Fr.rf rfl).tr f1, q1⟩
      have ey : ∀ X : Int32 → Option MI, bnd1 (ifb (nI k = ((4 * nI c) + nI h)) (some 1) (some 0)) X = X (bI (decide (k = 4 * c + h))) := by
        intro X
        rw [show (4 : Int32) = nI 4 from rfl, pk_mul, nI_add]
        by_cases ek : k = 4 * c + h
        · rw [ifb_pos (by rw [ek]), bnd1_c, decide_eq_true ek]; rfl
        · rw [ifb_neg (by rw [eq32 (by omega) (by omega)]; exact ek), bnd1_c, decide_eq_false ek]; rfl
      rw [ifb_neg (by rw [show (144 : Int32) = nI 144 from rfl, le32 (by omega) (by omega)]; omega), r_90_26 hR, bnd1_c, h7, h8, ey, t_101, asrt_pos rfl, asrt_pos (vir (by omega) (by omega)), cl32 (by omega), bI_and, lt_c, nI_1]
      exact e
  obtain ⟨I', e, f1, q1⟩ := loop g 0 I (by omega) (by omega) h7 h8 (fun j hj => by omega)
  unfold f_Mod_seesHere
  exact ⟨I', by rw [show l_Mod_seesHere_2 S1 R 90 g I 0 = some I' from e, bnd1_c], f1, q1⟩
theorem sp4 (hR : RG p fe R) {v1 v2 : Int32} : ∀ F k (I : MI), k ≤ 144 → 144 < k + F → Sn 101 S I → (∀ j, j < k → I 102 j = bI (S j)) → ∃ I', l_Mod_spreads_4 S1 R 90 v1 v2 F I (nI k) = some I' ∧ Fr [(102, none)] I I' ∧ Sn 102 S I' := by
  intro F
  induction F with
  | zero => intro k I h1 h2; omega
  | succ F ih =>
    intro k I h1 h2 hS h3
    rw [l_Mod_spreads_4]
    by_cases hk : k = 144
    · subst hk
      exact ⟨I, by rw [ifb_pos (by decide)], Fr.rf, h3⟩
    obtain ⟨I', e, f1, q1⟩ := ih (k + 1) (wI I 102 k (bI (S k))) (by omega) (by omega) (fun s hs => (wI_n (by omega)).trans (hS s hs)) (fun j hj => by
      by_cases ej : j = k
      · subst ej; exact wI_s
      · rw [wI_n (by omega)]; exact h3 j (by omega))
    refine ⟨I', ?_, (Fr.w Fr.rf rfl).tr f1, q1⟩
    rw [ifb_neg (by rw [show (144 : Int32) = nI 144 from rfl, le32 (by omega) (by omega)]; omega), r_90_27 hR, bnd1_c, r_90_26 hR, bnd1_c, t_101, asrt_pos rfl, asrt_pos (vir (by omega) (by omega)), cl32 (by omega), hS k (by omega), lt_c, t_102, asrt_pos rfl, asrt_pos (vir (by omega) (by omega)), bI_and, lt_c, nI_1]
    exact e
/-- what a spread goes by, all through -/
def SH (W H : Nat) (K w : Nat → Nat) (M q : Nat) (S : Nat → Bool) (I : MI) : Prop := LM W H K I ∧ (∀ t, t < 3 → w t ≤ 10 ∧ I 93 t = nI (w t)) ∧ (∀ t, t < 3 → (M.testBit t = true ↔ q = 0 ∨ 0 < w t)) ∧ Sn 101 S I
theorem SH.to {I' : MI} (hH : SH W H K w M q S I) (f : Fr [(102, none)] I I') : SH W H K w M q S I' := ⟨hH.1.ag (f.ag rfl), fun t ht => ⟨(hH.2.1 t ht).1, (f 93 t rfl).trans (hH.2.1 t ht).2⟩, hH.2.2.1, fun s hs => (f 101 s rfl).trans (hH.2.2.2 s hs)⟩
theorem sp51 (hR : RG p fe R) (hs : s < 4 * (W * H)) (hq : q < 2) {v2 : Int32} : ∀ F t (I : MI) (T : Nat → Bool), t ≤ 3 → 3 < t + F → SH W H K w M q S I → Sn 102 T I →
    ∃ (I' : MI) (T' : Nat → Bool), l_Mod_spreads_51 S1 R 90 (nI q) v2 (nI (s / 4)) (nI (s % 4)) F I (nI t) = some I' ∧ Fr [(102, none)] I I' ∧ Sn 102 T' I' ∧ (∀ x, T x = true → T' x = true) ∧ (∀ x, T' x = true → T x = true ∨ (S s = true ∧ isE (K (s / 4)) = false ∧ ∃ u, u < 3 ∧ M.testBit u = true ∧ x = aft W H K s u)) ∧ (S s = true → isE (K (s / 4)) = false → ∀ u, t ≤ u → u < 3 → M.testBit u = true → T' (aft W H K s u) = true) := by
  intro F
  induction F with
  | zero => intro t I T h1 h2; omega
  | succ F ih =>
    intro t I T h1 h2 hH hT
    obtain ⟨hL, hw, hm, hS⟩ := id hH
    have hN := hL.N36
    rw [l_Mod_spreads_51]
    by_cases ht : t = 3
    · subst ht
      exact ⟨I, T, by rw [ifb_pos (by decide)], Fr.rf, hT, fun x hx => hx, fun x hx => Or.inl hx, fun _ _ u a b => by omega⟩
    have ht3 : t < 3 := by omega
    rw [ifb_neg (by rw [show (3 : Int32) = nI 3 from rfl, le32 (by omega) (by omega)]; omega), r_90_26 hR, bnd1_c, show (4 : Int32) = nI 4 from rfl, pk_mul, nI_add, show 4 * (s / 4) + s % 4 = s by omega, lt_c, t_101, asrt_pos rfl, asrt_pos (vir (by omega) (by omega)), cl32 (by omega), hS s (by omega)]
    cases hSs : S s
    · exact ⟨I, T, by rw [ifb_pos (show bI false = 0 from rfl)], Fr.rf, hT, fun x hx => hx, fun x hx => Or.inl hx, (fun z => by cases z)⟩
    rw [ifb_neg (by decide), isEnd_in hL hR (by omega), bnd1_c]
    unfold eb
    cases hE : isE (K (s / 4))
    rotate_left
    · exact ⟨I, T, by rw [if_pos rfl, ifb_neg (by decide)], Fr.rf, hT, fun x hx => hx, fun x hx => Or.inl hx, (fun _ z => by cases z)⟩
    rw [if_neg (by decide), ifb_pos rfl]
    have ha := @aft_lt W H K hL.1 s t hs
    have h4 := @hd3_lt s t
    have fin : ∀ (I1 : MI) (T1 : Nat → Bool), Fr [(102, none)] I I1 → Sn 102 T1 I1 → (∀ x, T x = true → T1 x = true) → (∀ x, T1 x = true → T x = true ∨ (M.testBit t = true ∧ x = aft W H K s t)) → (M.testBit t = true → T1 (aft W H K s t) = true) →
        ∃ (I' : MI) (T' : Nat → Bool), l_Mod_spreads_51 S1 R 90 (nI q) v2 (nI (s / 4)) (nI (s % 4)) F I1 (nI t + 1) = some I' ∧ Fr [(102, none)] I I' ∧ Sn 102 T' I' ∧ (∀ x, T x = true → T' x = true) ∧ (∀ x, T' x = true → T x = true ∨ (true = true ∧ false = false ∧ ∃ u, u < 3 ∧ M.testBit u = true ∧ x = aft W H K s u)) ∧ (true = true → false = false → ∀ u, t ≤ u → u < 3 → M.testBit u = true → T' (aft W H K s u) = true) := by
      intro I1 T1 f1 h1' m1 s1 c1
      obtain ⟨I', T', e, f2, g1, g2, g3, g4⟩ := ih (t + 1) I1 T1 (by omega) (by omega) (hH.to f1) h1'
      refine ⟨I', T', by rw [nI_1]; exact e, f1.tr f2, g1, fun x hx => g2 x (m1 x hx), fun x hx => ?_, fun _ _ u a b e' => ?_⟩
      · rcases g3 x hx with z | ⟨-, -, z⟩
        · rcases s1 x z with z | ⟨z1, z2⟩
          · exact Or.inl z
          · exact Or.inr ⟨rfl, rfl, t, ht3, z1, z2⟩
        · exact Or.inr ⟨rfl, rfl, z⟩
      · by_cases eu : u = t
        · subst eu; exact g2 _ (c1 e')
        · exact g4 hSs hE u (by omega) b e'
    have put : ∀ X : MI → Option MI, bnd1 (bnd1 (f_Mod_turned (nI (s % 4)) (nI t)) fun x29 => bnd1 (R 90 27) fun b31 => bnd1 (f_Mod_cellBy S1 R I 90 (nI (s / 4)) x29) fun x32 => asrt ((S1 b31).1 = 22) <| asrt (vp_in ((nI 4 * x32) + x29) (S1 b31).2) <| lt (wI I b31 (Int32.toNatClampNeg ((nI 4 * x32) + x29)) (1 &&& 1)) fun (I36 : MI) => some I36) X = X (wI I 102 (aft W H K s t) (bI true)) := by
      intro X
      rw [turned_c (by omega) ht3, bnd1_c, show (s % 4 + t + 3) % 4 = hd3 s t from rfl, r_90_27 hR, bnd1_c, cellBy_c hL hR (by omega) h4, bnd1_c, pk_mul, nI_add, show 4 * nxt W H K (s / 4) (hd3 s t) + hd3 s t = aft W H K s t from rfl, t_102, asrt_pos rfl, asrt_pos (vir (by omega) (by omega)), cl32 (by omega), lt_c, bnd1_c]
      rfl
    have put2 := fin (wI I 102 (aft W H K s t) (bI true)) (fun x => if x = aft W H K s t then true else T x) (Fr.w Fr.rf rfl) (fun x hx => by
      by_cases ex : x = aft W H K s t
      · show wI I 102 (aft W H K s t) (bI true) 102 x = bI (if x = aft W H K s t then true else T x)
        rw [if_pos ex, ex, wI_s]
      · show wI I 102 (aft W H K s t) (bI true) 102 x = bI (if x = aft W H K s t then true else T x)
        rw [if_neg ex, wI_n (by omega)]; exact hT x hx) (fun x hx => by
      by_cases ex : x = aft W H K s t
      · rw [if_pos ex]
      · rw [if_neg ex]; exact hx)
    by_cases hq0 : q = 0
    · have hb := (hm t ht3).mpr (Or.inl hq0)
      rw [ifb_pos (by rw [hq0]; rfl), put]
      exact put2 (fun x hx => by
        by_cases ex : x = aft W H K s t
        · exact Or.inr ⟨hb, ex⟩
        · rw [if_neg ex] at hx; exact Or.inl hx) (fun _ => if_pos rfl)
    rw [ifb_neg (by rw [nI0, eq32 (by omega) (by omega)]; exact hq0), r_90_9 hR, bnd1_c, t_93, asrt_pos rfl, asrt_pos (vir (by omega) (by omega)), cl32 (by omega), (hw t ht3).2]
    have hwt := (hw t ht3).1
    by_cases hw0 : w t = 0
    · rw [ifb_pos (by rw [hw0]; decide), bnd1_c]
      exact fin I T Fr.rf hT (fun x hx => hx) (fun x hx => Or.inl hx) (fun z => by
        rcases (hm t ht3).mp z with z | z <;> omega)
    · have hb := (hm t ht3).mpr (Or.inr (by omega))
      rw [ifb_neg (by rw [nI0, le32 (by omega) (by omega)]; omega), put]
      exact put2 (fun x hx => by
        by_cases ex : x = aft W H K s t
        · exact Or.inr ⟨hb, ex⟩
        · rw [if_neg ex] at hx; exact Or.inl hx) (fun _ => if_pos rfl)
def SpI (W H : Nat) (K : Nat → Nat) (M : Nat) (S T : Nat → Bool) (n : Nat) : Prop := (∀ x, S x = true → T x = true) ∧ (∀ x, T x = true → S x = true ∨ ∃ r u, r < 4 * (W * H) ∧ S r = true ∧ isE (K (r / 4)) = false ∧ u < 3 ∧ M.testBit u = true ∧ x = aft W H K r u) ∧ ∀ r, r < n → S r = true → isE (K (r / 4)) = false → ∀ u, u < 3 → M.testBit u = true → T (aft W H K r u) = true
theorem sp42 {g : Nat} (hg : 10 ≤ g) (hR : RG p fe R) (hc : c < W * H) (hq : q < 2) {v2 : Int32} : ∀ F h (I : MI) (T : Nat → Bool), h ≤ 4 → 4 < h + F → SH W H K w M q S I → Sn 102 T I → SpI W H K M S T (4 * c + h) →
    ∃ (I' : MI) (T' : Nat → Bool), l_Mod_spreads_42 g S1 R 90 (nI q) v2 (nI c) F I (nI h) = some I' ∧ Fr [(102, none)] I I' ∧ Sn 102 T' I' ∧ SpI W H K M S T' (4 * c + 4) := by
  intro F
  induction F with
  | zero => intro h I T h1 h2; omega
  | succ F ih =>
    intro h I T h1 h2 hH hT hI
    rw [l_Mod_spreads_42]
    by_cases hh : h = 4
    · subst hh
      exact ⟨I, T, by rw [ifb_pos (by decide)], Fr.rf, hT, hI⟩
    have hs : 4 * c + h < 4 * (W * H) := by omega
    obtain ⟨I1, T1, e1, f1, g1, g2, g3, g4⟩ := sp51 (v2 := v2) hR hs hq g 0 I T (by omega) (by omega) hH hT
    rw [show (4 * c + h) / 4 = c by omega, show (4 * c + h) % 4 = h by omega] at e1
    obtain ⟨I', T', e, f2, r1, r2⟩ := ih (h + 1) I1 T1 (by omega) (by omega) (hH.to f1) g1 ⟨fun x hx => g2 x (hI.1 x hx), fun x hx => by
      rcases g3 x hx with z | ⟨z1, z2, u, z3, z4, z5⟩
      · exact hI.2.1 x z
      · exact Or.inr ⟨4 * c + h, u, hs, z1, z2, z3, z4, z5⟩, fun r hr z1 z2 u z3 z4 => by
      by_cases er : r = 4 * c + h
      · subst er; exact g4 z1 z2 u (by omega) z3 z4
      · exact g2 _ (hI.2.2 r (by omega) z1 z2 u z3 z4)⟩
    refine ⟨I', T', ?_, f1.tr f2, r1, r2⟩
    rw [ifb_neg (by rw [show (4 : Int32) = nI 4 from rfl, le32 (by omega) (by omega)]; omega), show l_Mod_spreads_51 S1 R 90 (nI q) v2 (nI c) (nI h) g I 0 = some I1 from e1, bnd1_c, nI_1]
    exact e
theorem sp31 {g : Nat} (hg : 10 ≤ g) (hR : RG p fe R) (hq : q < 2) {v2 : Int32} : ∀ F c (I : MI) (T : Nat → Bool), c ≤ W * H → W * H < c + F → SH W H K w M q S I → Sn 102 T I → SpI W H K M S T (4 * c) →
    ∃ (I' : MI) (T' : Nat → Bool), l_Mod_spreads_31 g S1 R 90 (nI q) v2 F I (nI c) = some I' ∧ Fr [(102, none)] I I' ∧ Sn 102 T' I' ∧ SpI W H K M S T' (4 * (W * H)) := by
  intro F
  induction F with
  | zero => intro c I T h1 h2; omega
  | succ F ih =>
    intro c I T h1 h2 hH hT hI
    have hN := hH.1.N36
    rw [l_Mod_spreads_31, cells_c hH.1, bnd1_c]
    by_cases hc : c = W * H
    · subst hc
      exact ⟨I, T, by rw [ifb_pos (by rw [le32 (by omega) (by omega)]; omega)], Fr.rf, hT, hI⟩
    obtain ⟨I1, T1, e1, f1, g1, g2⟩ := sp42 (c := c) (v2 := v2) hg hR (by omega) hq g 0 I T (by omega) (by omega) hH hT hI
    obtain ⟨I', T', e, f2, r1, r2⟩ := ih (c + 1) I1 T1 (by omega) (by omega) (hH.to f1) g1 (by rw [show 4 * (c + 1) = 4 * c + 4 by omega]; exact g2)
    refine ⟨I', T', ?_, f1.tr f2, r1, r2⟩
    rw [ifb_neg (by rw [le32 (by omega) (by omega)]; omega), show l_Mod_spreads_42 g S1 R 90 (nI q) v2 (nI c) g I 0 = some I1 from e1, bnd1_c, nI_1]
    exact e
theorem sp140 (hR : RG p fe R) : ∀ F k (v : Int32) (I : MI), k ≤ 144 → 144 < k + F → (∀ s, k ≤ s → s < 144 → I 101 s = bI (S s)) → Sn 102 T I → (∀ j, j < k → I 101 j = bI (T j)) → ((v = 0 ∧ ∀ j, j < k → T j = S j) ∨ (v = 1 ∧ ∃ j, j < 144 ∧ T j ≠ S j)) →
    ∃ v' I', l_Mod_spreads_140 S1 R 90 F I v (nI k) = some (v', I') ∧ Fr [(101, none)] I I' ∧ Sn 101 T I' ∧ ((v' = 0 ∧ ∀ j, j < 144 → T j = S j) ∨ (v' = 1 ∧ ∃ j, j < 144 ∧ T j ≠ S j)) := by
  intro F
  induction F with
  | zero => intro k v I h1 h2; omega
  | succ F ih =>
    intro k v I h1 h2 hS hT h3 hv
    rw [l_Mod_spreads_140]
    by_cases hk : k = 144
    · subst hk
      exact ⟨v, I, by rw [ifb_pos (by decide)], Fr.rf, h3, hv⟩
    obtain ⟨y, hy, hyv⟩ : ∃ y, (∀ X : Int32 → Option (Int32 × MI), bnd1 (ifb (v = 0) (bnd1 (R 90 27) fun b60 => asrt ((S1 b60).1 = 22) <| asrt (vp_in (nI k) (S1 b60).2) <| bnd1 (R 90 26) fun b63 => asrt ((S1 b63).1 = 22) <| asrt (vp_in (nI k) (S1 b63).2) <| ifb ((I b60 (Int32.toNatClampNeg (nI k))) = (I b63 (Int32.toNatClampNeg (nI k)))) (some 0) (some 1)) (some 1)) X = X y) ∧ ((y = 0 ∧ ∀ j, j < k + 1 → T j = S j) ∨ (y = 1 ∧ ∃ j, j < 144 ∧ T j ≠ S j)) := by
      rcases hv with ⟨v0, hv⟩ | ⟨v1, hv⟩
      · by_cases e : T k = S k
        · refine ⟨0, fun X => ?_, Or.inl ⟨rfl, fun j hj => ?_⟩⟩
          · rw [ifb_pos v0, r_90_27 hR, bnd1_c, t_102, asrt_pos rfl, asrt_pos (vir (by omega) (by omega)), r_90_26 hR, bnd1_c, t_101, asrt_pos rfl, asrt_pos (vir (by omega) (by omega)), cl32 (by omega), hT k (by omega), hS k (by omega) (by omega), ifb_pos (by rw [e]), bnd1_c]
          · by_cases ej : j = k
            · subst ej; exact e
            · exact hv j (by omega)
        · refine ⟨1, fun X => ?_, Or.inr ⟨rfl, k, by omega, e⟩⟩
          rw [ifb_pos v0, r_90_27 hR, bnd1_c, t_102, asrt_pos rfl, asrt_pos (vir (by omega) (by omega)), r_90_26 hR, bnd1_c, t_101, asrt_pos rfl, asrt_pos (vir (by omega) (by omega)), cl32 (by omega), hT k (by omega), hS k (by omega) (by omega), ifb_neg (fun z => e (bI_eq.mp z)), bnd1_c]
      · exact ⟨1, fun X => by rw [ifb_neg (by rw [v1]; decide), bnd1_c], Or.inr ⟨rfl, hv⟩⟩
    obtain ⟨v', I', e, f1, q1, q2⟩ := ih (k + 1) y (wI I 101 k (bI (T k))) (by omega) (by omega) (fun s a b => (wI_n (by omega)).trans (hS s (by omega) b)) (fun s hs => (wI_n (by omega)).trans (hT s hs)) (fun j hj => by
      by_cases ej : j = k
      · subst ej; exact wI_s
      · rw [wI_n (by omega)]; exact h3 j (by omega)) hyv
    refine ⟨v', I', ?_, (Fr.w Fr.rf rfl).tr f1, q1, q2⟩
    rw [ifb_neg (by rw [show (144 : Int32) = nI 144 from rfl, le32 (by omega) (by omega)]; omega), hy, r_90_26 hR, bnd1_c, r_90_27 hR, bnd1_c, t_102, asrt_pos rfl, asrt_pos (vir (by omega) (by omega)), cl32 (by omega), hT k (by omega), lt_c, t_101, asrt_pos rfl, asrt_pos (vir (by omega) (by omega)), bI_and, lt_c, nI_1]
    exact e
def fSe : FT := [(101, none), (102, none)]
theorem spreads_c {g : Nat} (hg : 1000 ≤ g) (hR : RG p fe R) (hq : q < 2) (hH : SH W H K w M q S I) : ∃ (v : Int32) (I' : MI) (T : Nat → Bool), f_Mod_spreads g S1 R I 90 (nI q) = some (v, I') ∧ Fr fSe I I' ∧ SH W H K w M q T I' ∧ SpI W H K M S T (4 * (W * H)) ∧ ((v = 0 ∧ ∀ j, j < 144 → T j = S j) ∨ (v = 1 ∧ ∃ j, j < 144 ∧ T j ≠ S j)) := by
  have hN := hH.1.N36
  obtain ⟨I10, e1, f1, g1⟩ := sp4 (v1 := nI q) (v2 := 0) hR g 0 I (by omega) (by omega) hH.2.2.2 (fun j hj => by omega)
  obtain ⟨I53, T, e2, f2, g2, g3⟩ := sp31 (v2 := 0) (M := M) (w := w) (K := K) (W := W) (H := H) (g := g) (by omega) hR hq g 0 I10 S (by omega) (by omega) (hH.to f1) g1 ⟨fun x hx => hx, fun x hx => Or.inl hx, fun r hr => by omega⟩
  have hH2 := (hH.to f1).to f2
  obtain ⟨v, I', e3, f3, g4, g5⟩ := sp140 (S := S) hR g 0 0 I53 (by omega) (by omega) (fun s _ hs => hH2.2.2.2 s hs) g2 (fun j hj => by omega) (Or.inl ⟨rfl, fun j hj => by omega⟩)
  have f4 : Fr fSe I I' := ((f1.sub rfl).tr (f2.sub rfl)).tr (f3.sub rfl)
  refine ⟨v, I', T, ?_, f4, ⟨hH.1.ag (f4.ag rfl), fun t ht => ⟨(hH.2.1 t ht).1, (f4 93 t rfl).trans (hH.2.1 t ht).2⟩, hH.2.2.1, g4⟩, g3, g5⟩
  unfold f_Mod_spreads
  rw [show l_Mod_spreads_4 S1 R 90 (nI q) 0 g I 0 = some I10 from e1, bnd1_c, show l_Mod_spreads_31 g S1 R 90 (nI q) 0 g I10 0 = some I53 from e2, bnd1_c, show l_Mod_spreads_140 S1 R 90 g I53 0 0 = some (v, I') from e3, bnd2_c, asrt_pos (g5.imp (fun z => z.1) (fun z => z.1))]
/-! in at most k steps -/
def RQ (W H : Nat) (K : Nat → Nat) (s0 M k s : Nat) : Prop := ∃ j, j ≤ k ∧ pth W H K s0 M j s
theorem pth_lt (hW : 1 ≤ W ∧ W ≤ 6) (hs : s0 < 4 * (W * H)) : ∀ j s, pth W H K s0 M j s → s < 4 * (W * H) := by
  intro j
  induction j with
  | zero => intro s h; rw [pth] at h; omega
  | succ j ih =>
    intro s h
    rw [pth] at h
    obtain ⟨r, t, h1, h2, h3, h4, rfl⟩ := h
    exact aft_lt hW (ih r h1)
theorem RQ_s (hW : 1 ≤ W ∧ W ≤ 6) (hs : s0 < 4 * (W * H)) (h : SpI W H K M S T (4 * (W * H))) (hN : W * H ≤ 36) (hS : ∀ s, s < 144 → (S s = true ↔ RQ W H K s0 M k s)) : ∀ s, s < 144 → (T s = true ↔ RQ W H K s0 M (k + 1) s) := by
  intro s hs1
  constructor
  · intro ht
    rcases h.2.1 s ht with z | ⟨r, u, z1, z2, z3, z4, z5, z6⟩
    · obtain ⟨j, hj, hp⟩ := (hS s hs1).mp z
      exact ⟨j, by omega, hp⟩
    · obtain ⟨j, hj, hp⟩ := (hS r (by omega)).mp z2
      exact ⟨j + 1, by omega, r, u, hp, z3, z4, z5, z6⟩
  · rintro ⟨j, hj, hp⟩
    by_cases hjk : j ≤ k
    · exact h.1 s ((hS s hs1).mpr ⟨j, hjk, hp⟩)
    · obtain rfl : j = k + 1 := by omega
      rw [pth] at hp
      obtain ⟨r, u, z1, z2, z3, z4, rfl⟩ := hp
      have hr := pth_lt hW hs k r z1
      exact h.2.2 r hr ((hS r (by omega)).mpr ⟨k, Nat.le_refl _, z1⟩) z2 u z3 z4
theorem cnt_mono {f f' : Nat → Bool} : ∀ n, (∀ i, i < n → f i = true → f' i = true) → cnt f n ≤ cnt f' n := by
  intro n
  induction n with
  | zero => intro _; exact Nat.le_refl _
  | succ n ih =>
    intro h
    have h1 := ih (fun i hi => h i (by omega))
    have h2 := h n (by omega)
    rw [cnt, cnt]
    by_cases e : f n = true
    · rw [if_pos e, if_pos (h2 e)]; omega
    · rw [if_neg e]; split <;> omega
theorem cnt_more {f f' : Nat → Bool} : ∀ n, (∀ i, i < n → f i = true → f' i = true) → (∃ i, i < n ∧ f' i ≠ f i) → cnt f n < cnt f' n := by
  intro n
  induction n with
  | zero => rintro _ ⟨i, hi, -⟩; omega
  | succ n ih =>
    rintro h ⟨i, hi, hne⟩
    have h2 := h n (by omega)
    rw [cnt, cnt]
    by_cases e : i = n
    · subst e
      have h1 := cnt_mono i (fun j hj => h j (by omega))
      cases e1 : f i
      · cases e2 : f' i
        · rw [e1, e2] at hne; exact absurd rfl hne
        · rw [if_neg (by decide), if_pos rfl]; omega
      · rw [e1, h2 e1] at hne; exact absurd rfl hne
    · have h1 := ih (fun j hj => h j (by omega)) ⟨i, by omega, hne⟩
      by_cases e : f n = true
      · rw [if_pos e, if_pos (h2 e)]; omega
      · rw [if_neg e]; split <;> omega
theorem reach_l {g : Nat} (hg : 1000 ≤ g) (hR : RG p fe R) (hs : s0 < 4 * (W * H)) : ∀ F k (S : Nat → Bool) (I : MI), 145 < cnt S 144 + F → SH W H K w 7 0 S I → (∀ s, s < 144 → (S s = true ↔ RQ W H K s0 7 k s)) → k + 1 ≤ cnt S 144 →
    ∃ (I' : MI) (T : Nat → Bool), l_Mod_reach_11 g S1 R 90 F I 1 = some I' ∧ Fr fSe I I' ∧ Sn 101 T I' ∧ ∀ s, s < 144 → (T s = true ↔ RQ W H K s0 7 144 s) := by
  intro F
  induction F with
  | zero =>
    intro k S I h1
    have := @cnt_le S 144
    omega
  | succ F ih =>
    intro k S I h1 hH hS hk
    have hN := hH.1.N36
    obtain ⟨v, I1, T, e1, f1, hT, hI, hv⟩ := spreads_c hg hR (by omega) hH
    have hTQ := RQ_s hH.1.1 hs hI hN.2 hS
    rw [l_Mod_reach_11, ifb_neg (by decide), show f_Mod_spreads g S1 R I 90 0 = some (v, I1) from e1, bnd2_c]
    have hcl := @cnt_le S 144
    rcases hv with ⟨rfl, hv⟩ | ⟨rfl, hv⟩
    · cases F with
      | zero =>
        -- the fuel is one more
        omega
      | succ F =>
        rw [l_Mod_reach_11, ifb_pos rfl]
        refine ⟨I1, T, rfl, f1, hT.2.2.2, fun s hs1 => ?_⟩
        have stay : ∀ j x, pth W H K s0 7 j x → RQ W H K s0 7 k x := by
          intro j
          induction j with
          | zero => intro x hx; exact ⟨0, by omega, hx⟩
          | succ j ihj =>
            intro x hx
            have hxl := pth_lt hH.1.1 hs (j + 1) x hx
            rw [pth] at hx
            obtain ⟨r, u, z1, z2, z3, z4, rfl⟩ := hx
            obtain ⟨i, hi, hp⟩ := ihj r z1
            have : T (aft W H K r u) = true := (hTQ _ (by omega)).mpr ⟨i + 1, by omega, r, u, hp, z2, z3, z4, rfl⟩
            rw [hv _ (by omega)] at this
            exact (hS _ (by omega)).mp this
        rw [hTQ s hs1]
        constructor
        · rintro ⟨j, hj, hp⟩
          exact ⟨j, by omega, hp⟩
        · rintro ⟨j, hj, hp⟩
          obtain ⟨i, hi, hp2⟩ := stay j s hp
          exact ⟨i, by omega, hp2⟩
    · have hlt := cnt_more 144 (fun i _ hi => hI.1 i hi) hv
      obtain ⟨I', T', e, f2, r1, r2⟩ := ih (k + 1) T I1 (by omega) hT hTQ (by omega)
      exact ⟨I', T', e, f1.tr f2, r1, r2⟩
theorem perils_l {g : Nat} (hg : 1000 ≤ g) (hR : RG p fe R) (hs : s0 < 4 * (W * H)) (hn : n ≤ 8) : ∀ F k (S : Nat → Bool) (I : MI), k ≤ n → n < k + F → SH W H K w M 1 S I → (∀ s, s < 144 → (S s = true ↔ RQ W H K s0 M k s)) →
    ∃ (I' : MI) (T : Nat → Bool), l_Mod_perils_20 g S1 R 90 (nI n) F I (nI k) = some I' ∧ Fr fSe I I' ∧ Sn 101 T I' ∧ ∀ s, s < 144 → (T s = true ↔ RQ W H K s0 M n s) := by
  intro F
  induction F with
  | zero => intro k S I h1 h2; omega
  | succ F ih =>
    intro k S I h1 h2 hH hS
    have hN := hH.1.N36
    rw [l_Mod_perils_20]
    by_cases hk : k = n
    · subst hk
      exact ⟨I, S, by rw [ifb_pos (by rw [le32 (by omega) (by omega)]; omega)], Fr.rf, hH.2.2.2, hS⟩
    obtain ⟨v, I1, T, e1, f1, hT, hI, -⟩ := spreads_c hg hR (by omega) hH
    obtain ⟨I', T', e, f2, r1, r2⟩ := ih (k + 1) T I1 (by omega) (by omega) hT (RQ_s hH.1.1 hs hI hN.2 hS)
    refine ⟨I', T', ?_, f1.tr f2, r1, r2⟩
    rw [ifb_neg (by rw [le32 (by omega) (by omega)]; omega), show f_Mod_spreads g S1 R I 90 1 = some (v, I1) from e1, bnd2_c, nI_1]
    exact e
end SE
