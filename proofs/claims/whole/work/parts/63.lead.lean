section GM
variable {W H m s0 n k vo hd fb N lim : Nat} {K w : Nat → Nat} {M : Int} {f : Nat → Int} {sp : Int32} {o d : Nat → Nat} {I I' : MI} {L L' : ML} {R : MR} {p : Bool} {fe : Nat} {X : Nat → Nat → Nat → Int × Int × Nat}
def En (X : Nat → Nat → Nat → Int × Int × Nat) (p : Bool) (L : ML) (k s v : Nat) : Prop := L (la p) (v * 144 + s) = iL (X k s v).1 ∧ L (lb p) (v * 144 + s) = iL (X k s v).2.1
def fGL (p : Bool) : FT := [(la p, none), (lb p, none)]
theorem fGL_n (p : Bool) (k : Nat) : inF (fGL p) (la !p) k = false ∧ inF (fGL p) (lb !p) k = false := by cases p <;> exact ⟨rfl, rfl⟩
theorem En.ag {s v : Nat} (h : En X (!p) L k s v) (hf : FrL (fGL p) L L') : En X (!p) L' k s v := ⟨(hf _ _ (fGL_n p _).1).trans h.1, (hf _ _ (fGL_n p _).2).trans h.2⟩
theorem lab (p : Bool) : la p ≠ lb p := by cases p <;> decide
theorem En.wr (s v : Nat) : En X p (wL (wL L (la p) (v * 144 + s) (iL (X k s v).1)) (lb p) (v * 144 + s) (iL (X k s v).2.1)) k s v := by
  have := lab p
  exact ⟨by rw [wL_n (by omega), wL_s], wL_s⟩
theorem En.kp {s v s' v' : Nat} (h : En X p L k s' v') (hs : s < 144) (hs' : s' < 144) : En X p (wL (wL L (la p) (v * 144 + s) (iL (X k s v).1)) (lb p) (v * 144 + s) (iL (X k s v).2.1)) k s' v' := by
  have := lab p
  by_cases e : v' * 144 + s' = v * 144 + s
  · obtain ⟨rfl, rfl⟩ : v' = v ∧ s' = s := by omega
    exact En.wr _ _
  · exact ⟨by rw [wL_n (by omega), wL_n (by omega)]; exact h.1, by rw [wL_n (by omega), wL_n (by omega)]; exact h.2⟩
theorem FrL_wr (i : Nat) (x y : Int64) : FrL (fGL p) L (wL (wL L (la p) i x) (lb p) i y) := by
  intro a k h
  have h2 : a ≠ la p ∧ a ≠ lb p := by
    constructor <;> rintro rfl <;> simp [inF, fGL] at h
  rw [wL_n (fun z => h2.2 z.1), wL_n (fun z => h2.1 z.1)]
theorem lead96_c {g : Nat} (hg : 4 ≤ g) (hR : RG p fb R) (hX : X = V W H K w hd (eF f sp K) (f 3) (f 4)) {s c : Nat} {v2 v3 v8 v9 : Int32} (hs : s < 4 * (W * H)) (hk : k ≤ n) (hc : c ≤ k) : ∀ (F v : Nat) (I : MI) (L : ML), v ≤ c + 1 → c + 1 < v + F → GH W H K w hd f sp M n fb I →
    (∀ j, k = j + 1 → isE (K (s / 4)) = false → ∀ t, t < 3 → ∀ u, u ≤ j → u ≤ c → En X (!p) L j (aft W H K s t) u) →
    ∃ I' L', l_Guide_lead_96 g S1 R 67 v2 v3 (nI k) (nI c) v8 v9 (nI s) F I L (nI v) = some (I', L') ∧ Fr [(67, some 11)] I I' ∧ FrL (fGL p) L L' ∧ (∀ s' v', s' < 144 → En X p L k s' v' → En X p L' k s' v') ∧ (∀ u, v ≤ u → u ≤ c → En X p L' k s u) ∧ (v ≤ c → 0 < k → isE (K (s / 4)) = false → I' 67 11 = nI (X k s c).2.2) := by
  intro F
  induction F with
  | zero => intro v I L h1 h2; omega
  | succ F ih =>
    intro v I L h1 h2 hG hP
    have hN := hG.2.1
    have hn8 : n ≤ 8 := hG.2.2.2.2.2.2.2.2.2.2.2.1
    rw [l_Guide_lead_96]
    by_cases hv : v = c + 1
    · subst hv
      exact ⟨I, L, by rw [ifb_pos (by rw [lt32 (by omega) (by omega)]; omega)], Fr.rf, FrL.rf, fun _ _ _ h => h, fun u a b => by omega, fun h => by omega⟩
    obtain ⟨I1, e1, f1, d1⟩ := decide_c (L := L) (v := v) hg hR hG hs hk (by omega) (fun j hj hE t ht u hu hu' => by
      have := hP j hj hE t ht u hu (by omega)
      rw [hX] at this
      exact this)
    rw [← hX] at e1 d1
    have fl := @FrL_wr L p (v * 144 + s) (iL (X k s v).1) (iL (X k s v).2.1)
    rw [ifb_neg (by rw [lt32 (by omega) (by omega)]; omega), e1, bnd2_c, nI_1]
    obtain ⟨I', L', e, fI, fL, kp, nw, dr⟩ := ih (v + 1) I1 _ (by omega) (by omega) (hG.ag11 f1) (fun j hj hE t ht u hu hu' => (hP j hj hE t ht u hu hu').ag fl)
    refine ⟨I', L', e, f1.tr fI, fl.tr fL, fun s' v' a b => kp s' v' a (b.kp (by omega) a), fun u a b => ?_, fun a b c' => ?_⟩
    · by_cases hu : u = v
      · subst hu; exact kp s u (by omega) (En.wr s u)
      · exact nw u (by omega) b
    · by_cases hu : v = c
      · subst hu
        obtain ⟨F, rfl⟩ : ∃ F', F = F' + 1 := ⟨F - 1, by omega⟩
        rw [l_Guide_lead_96, ifb_pos (by rw [lt32 (by omega) (by omega)]; omega)] at e
        injection e with e
        injection e with e e'
        subst e
        exact d1 b c'
      · exact dr (by omega) b c'
theorem SC.agi {a : Nat} (h : SC a N lim m o d I) (hf : ∀ b k, (b = a ∨ b = a + 1 ∨ b = a + 2) → I' b k = I b k) : SC a N lim m o d I' := by
  obtain ⟨h1, h2, h3, h4⟩ := h
  have e : I' (a + 2) = I (a + 2) := funext fun k => hf _ k (by omega)
  refine ⟨(hf _ _ (by omega)).trans h1, fun j hj => ?_, ?_, ?_⟩
  · rw [e, hf _ _ (by omega)]; exact h2 j hj
  · rw [e]; exact h3
  · rw [e]; exact h4
theorem stanceAt_c {a : Nat} (hB : SB a R) (h : SC a N lim m o d I) {j : Nat} (hj : j < m) : f_Spread_stanceAt S1 R I a (nI j) = some (nI (o j)) := by
  have hm := h.le
  obtain ⟨h1, h2, h3, h4⟩ := h
  obtain ⟨b1, b2, b3, b4⟩ := hB
  unfold f_Spread_stanceAt
  rw [ifb_neg (zn (by omega)), show (144 : Int32) = nI 144 from rfl, ifb_neg (by rw [le32 (by omega) (by omega)]; omega), b1, bnd1_c, b3, asrt_pos rfl, asrt_pos (vir (by omega) (by omega)), cl32 (by omega), (h2 j hj).2.1, bnd1_c]
theorem within_c {a g : Nat} (hg : 145 ≤ g) (hB : SB a R) (hN : N ≤ 36) (hl : lim ≤ 144) (h : SC a N lim m o d I) (hS : ∀ i j, i ≤ j → j < m → d (o i) ≤ d (o j)) {q : Nat} (hq : q ≤ 144) : ∃ x, x ≤ m ∧ f_Spread_within g S1 R I a (nI q) = some (nI x) ∧ ∀ j, j < m → (j < x ↔ d (o j) ≤ q) := by
  have hm := h.le
  have loop : ∀ F i x, i ≤ m → m < i + F → x ≤ i → (∀ j, j < i → (j < x ↔ d (o j) ≤ q)) → ∃ x', x' ≤ m ∧ l_Spread_within_4 S1 R I a (nI q) F (nI x) (nI i) = some (nI x') ∧ ∀ j, j < m → (j < x' ↔ d (o j) ≤ q) := by
    intro F
    induction F with
    | zero => intro i x h1 h2; omega
    | succ F ih =>
      intro i x h1 h2 h3 h4
      rw [l_Spread_within_4, h.1]
      by_cases hi : i = m
      · subst hi
        exact ⟨x, h3, by rw [ifb_pos (by rw [le32 (by omega) (by omega)]; omega)], h4⟩
      obtain ⟨b1, b2, b3, b4⟩ := id hB
      have h2i := h.2.1 i (by omega)
      rw [ifb_neg (by rw [le32 (by omega) (by omega)]; omega), show (144 : Int32) = nI 144 from rfl, ifb_neg (by rw [le32 (by omega) (by omega)]; omega), b1, bnd1_c, b3, asrt_pos rfl, asrt_pos (vir (by omega) (by omega)), cl32 (by omega), h2i.2.1, depthOf_c hB hN h (by omega), bnd1_c]
      by_cases hd : d (o i) ≤ q
      · have hxi : x = i := by
          by_cases hx : x < i
          · have := hS x i (by omega) (by omega)
            have := (h4 x hx).mpr (by omega)
            omega
          · omega
        rw [ifb_neg (by rw [lt32 (by omega) (by omega)]; omega), bnd1_c, nI_1, nI_1, lt_c]
        refine ih (i + 1) (x + 1) (by omega) (by omega) (by omega) (fun j hj => ?_)
        by_cases hj' : j = i
        · subst hj'
          exact ⟨fun _ => hd, fun _ => by omega⟩
        · have := h4 j (by omega)
          constructor
          · intro z; exact this.mp (by omega)
          · intro z; omega
      · rw [ifb_pos (by rw [lt32 (by omega) (by omega)]; omega), bnd1_c, show nI x + 0 = nI x by rw [nI0, nI_add, Nat.add_zero], nI_1, lt_c]
        refine ih (i + 1) x (by omega) (by omega) (by omega) (fun j hj => ?_)
        by_cases hj' : j = i
        · subst hj'
          constructor
          · intro z; omega
          · intro z; exact absurd z hd
        · exact h4 j (by omega)
  obtain ⟨x, a1, a2, a3⟩ := loop g 0 0 (by omega) (by omega) (by omega) (fun j hj => by omega)
  refine ⟨x, a1, ?_, a3⟩
  unfold f_Spread_within
  rw [show l_Spread_within_4 S1 R I a (nI q) g 0 0 = some (nI x) from a2, bnd1_c]
theorem SB68 (hR : RG p fe R) : SB 68 R := ⟨r_68_0 hR, r_68_1 hR, rfl, rfl⟩
theorem fr11_68 {b k : Nat} (h : b = 68 ∨ b = 68 + 1 ∨ b = 68 + 2) : inF [(67, some 11)] b k = false := by
  rcases h with rfl | rfl | rfl <;> rfl
theorem lead75_c {g : Nat} (hg : 16 ≤ g) (hR : RG p fb R) (hX : X = V W H K w hd (eF f sp K) (f 3) (f 4)) {c x : Nat} {v2 v3 : Int32} (hk : k ≤ n) (hc : c ≤ k) (hx : x ≤ m) : ∀ (F i : Nat) (I : MI) (L : ML), i ≤ x → x < i + F → GH W H K w hd f sp M n fb I → SC 68 (W * H) lim m o d I →
    (∀ i, i < x → ∀ j, k = j + 1 → isE (K (o i / 4)) = false → ∀ t, t < 3 → ∀ u, u ≤ j → u ≤ c → En X (!p) L j (aft W H K (o i) t) u) →
    ∃ I' L', l_Guide_lead_75 g S1 R 67 v2 v3 (nI k) (nI c) (nI x) F I L (nI i) = some (I', L') ∧ Fr [(67, some 11)] I I' ∧ FrL (fGL p) L L' ∧ (∀ s' v', s' < 144 → En X p L k s' v' → En X p L' k s' v') ∧ (∀ j, i ≤ j → j < x → ∀ u, u ≤ c → En X p L' k (o j) u) ∧ (i < x → 0 < k → isE (K (o (x - 1) / 4)) = false → I' 67 11 = nI (X k (o (x - 1)) c).2.2) := by
  intro F
  induction F with
  | zero => intro i I L h1 h2; omega
  | succ F ih =>
    intro i I L h1 h2 hG hC hP
    have hm := hC.le
    have hN := hG.2.1
    have hn8 : n ≤ 8 := hG.2.2.2.2.2.2.2.2.2.2.2.1
    rw [l_Guide_lead_75]
    by_cases hi : i = x
    · subst hi
      exact ⟨I, L, by rw [ifb_pos (by rw [le32 (by omega) (by omega)]; omega)], Fr.rf, FrL.rf, fun _ _ _ h => h, fun u a b => by omega, fun h => by omega⟩
    have hoi := (hC.2.1 i (by omega)).1
    obtain ⟨I1, L1, e1, f1, l1, k1, n1, d1⟩ := lead96_c (g := g) (v2 := v2) (v3 := v3) (v8 := nI x) (v9 := nI i) (by omega) hR hX hoi hk hc g 0 I L (by omega) (by omega) hG (hP i (by omega))
    rw [ifb_neg (by rw [le32 (by omega) (by omega)]; omega), r_67_2 hR, bnd1_c, show (S1 68).1 = 9 from rfl, asrt_pos rfl, stanceAt_c (SB68 hR) hC (by omega), bnd1_c, show l_Guide_lead_96 g S1 R 67 v2 v3 (nI k) (nI c) (nI x) (nI i) (nI (o i)) g I L 0 = some (I1, L1) from e1, bnd2_c, nI_1]
    obtain ⟨I', L', e, fI, fL, kp, nw, dr⟩ := ih (i + 1) I1 L1 (by omega) (by omega) (hG.ag11 f1) (hC.agi (fun b q h => f1 b q (fr11_68 h))) (fun i' hi' j hj hE t ht u hu hu' => (hP i' hi' j hj hE t ht u hu hu').ag l1)
    refine ⟨I', L', e, f1.tr fI, l1.tr fL, fun s' v' a b => kp s' v' a (k1 s' v' a b), fun j a b u hu => ?_, fun a b c' => ?_⟩
    · by_cases hj : j = i
      · subst hj; exact kp _ _ (by omega) (n1 u (by omega) hu)
      · exact nw j (by omega) b u hu
    · by_cases hj : i + 1 = x
      · subst hj
        obtain ⟨F, rfl⟩ : ∃ F', F = F' + 1 := ⟨F - 1, by omega⟩
        rw [l_Guide_lead_75, ifb_pos (by rw [le32 (by omega) (by omega)]; omega)] at e
        injection e with e
        injection e with e e'
        subst e
        exact d1 (by omega) b c'
      · exact dr (by omega) b c'
theorem tabR67 : ∀ q ∈ tabR, ¬ (q.1 = 67 ∧ 3 ≤ q.2.1) := by decide
theorem swap_c (hR : RG p fe R) : ∃ R', f_Guide_swapLayers S1 R 67 = some R' ∧ RG (!p) fe R' := by
  obtain ⟨h0, h3, h4, h5, h6, h7⟩ := hR
  refine ⟨wR (wR (wR (wR R 67 3 (some (if p then 72 else 71))) 67 4 (some (if p then 71 else 72))) 67 5 (some (if p then 74 else 73))) 67 6 (some (if p then 73 else 74)), ?_, ?_⟩
  · unfold f_Guide_swapLayers
    rw [h3, bnd1_c, h4, bnd1_c, lt_c, lt_c, wR_n (by omega), wR_n (by omega), h5, bnd1_c, wR_n (by omega), wR_n (by omega), h6, bnd1_c, lt_c, lt_c]
  · refine ⟨fun q hq => ?_, ?_, ?_, ?_, ?_, ?_⟩
    · have := tabR67 q hq
      rw [wR_n (by omega), wR_n (by omega), wR_n (by omega), wR_n (by omega)]
      exact h0 q hq
    · rw [wR_n (by omega), wR_n (by omega), wR_n (by omega), wR_s]; cases p <;> rfl
    · rw [wR_n (by omega), wR_n (by omega), wR_s]; cases p <;> rfl
    · rw [wR_n (by omega), wR_s]; cases p <;> rfl
    · rw [wR_s]; cases p <;> rfl
    · rw [wR_n (by omega), wR_n (by omega), wR_n (by omega), wR_n (by omega)]; exact h7
def fG4 : FT := [(71, none), (72, none), (73, none), (74, none)]
theorem fG4_s (p : Bool) : subF (fGL p) fG4 = true := by cases p <;> rfl
theorem lead41_c {g : Nat} (hg : 145 ≤ g) (hX : X = V W H K w hd (eF f sp K) (f 3) (f 4)) (hvo : vo ≤ 9) (hn : n ≤ 8) : ∀ (F k : Nat) (p : Bool) (I : MI) (L : ML) (R : MR), k ≤ n + 1 → n + 1 < k + F → RG p fb R → GH W H K w hd f sp M n fb I → SPR 68 W H K s0 7 n m o d I →
    (∀ j, k = j + 1 → ∀ i, i < m → d (o i) ≤ n - j → ∀ u, u ≤ min vo j → En X p L j (o i) u) → (0 < n → k = n + 1 → isE (K (s0 / 4)) = false → I 67 11 = nI (X n s0 (min vo n)).2.2) →
    ∃ I' L' R' p', l_Guide_lead_41 g S1 67 (nI n) (nI vo) F I L R (nI k) = some (I', L', R') ∧ RG p' fb R' ∧ Fr [(67, some 11)] I I' ∧ FrL fG4 L L' ∧ (∀ u, u ≤ min vo n → En X p' L' n s0 u) ∧ (0 < n → isE (K (s0 / 4)) = false → I' 67 11 = nI (X n s0 (min vo n)).2.2) := by
  intro F
  induction F with
  | zero => intro k p I L R h1 h2; omega
  | succ F ih =>
    intro k p I L R h1 h2 hR hG hQ hP hD
    obtain ⟨q1, q2, q3, q4, q5, q6, q7⟩ := id hQ
    have hm := q1.le
    have hN := hG.2.1
    rw [l_Guide_lead_41]
    by_cases hk : k = n + 1
    · refine ⟨I, L, R, p, by rw [ifb_pos (by rw [lt32 (by omega) (by omega)]; omega)], hR, Fr.rf, FrL.rf, fun u hu => ?_, fun a b => hD a hk b⟩
      have := hP n hk 0 q5 (by rw [q6, q7]; exact Nat.zero_le _) u hu
      rw [q6] at this
      exact this
    obtain ⟨R1, er, hR1⟩ := swap_c hR
    obtain ⟨x, hxm, ex, hx⟩ := within_c (g := g) (by omega) (SB68 hR1) hN (by omega) q1 q2 (q := n - k) (by omega)
    have hx0 : 0 < x := (hx 0 q5).mpr (by rw [q6, q7]; exact Nat.zero_le _)
    rw [ifb_neg (by rw [lt32 (by omega) (by omega)]; omega), er, bnd1_c, minI_c (by omega) (by omega), bnd1_c, r_67_2 hR1, bnd1_c, show (S1 68).1 = 9 from rfl, asrt_pos rfl, pk_sub (by omega), ex, bnd1_c]
    obtain ⟨I1, L1, e1, f1, l1, k1, n1, d1⟩ := lead75_c (g := g) (v2 := nI n) (v3 := nI vo) (c := min vo k) (x := x) (by omega) hR1 hX (by omega) (Nat.min_le_right _ _) hxm g 0 I L (by omega) (by omega) hG q1 (fun i hi j hj hE t ht u hu hu' => by
      have hdi := (hx i (by omega)).mp hi
      obtain ⟨i', hi', he, hd'⟩ := q4 i (by omega) (by omega) hE t ht (by
        have : t = 0 ∨ t = 1 ∨ t = 2 := by omega
        rcases this with rfl | rfl | rfl <;> rfl)
      have := hP j hj i' hi' (by omega) u (by omega)
      rw [he] at this
      rw [Bool.not_not]
      exact this)
    rw [show l_Guide_lead_75 g S1 R1 67 (nI n) (nI vo) (nI k) (nI (min vo k)) (nI x) g I L 0 = some (I1, L1) from e1, bnd2_c, nI_1]
    have hQ1 : SPR 68 W H K s0 7 n m o d I1 := ⟨q1.agi (fun b q h => f1 b q (fr11_68 h)), q2, q3, q4, q5, q6, q7⟩
    obtain ⟨I', L', R', p', e, a1, a2, a3, a4, a5⟩ := ih (k + 1) (!p) I1 L1 R1 (by omega) (by omega) hR1 (hG.ag11 f1) hQ1 (fun j hj i hi hd' u hu => by
      obtain rfl : k = j := by omega
      exact n1 i (by omega) ((hx i hi).mpr hd') u hu) (fun a b c => by
      obtain rfl : k = n := by omega
      have hz := (hx (x - 1) (by omega)).mp (by omega)
      have hp := q3 (x - 1) (by omega)
      rw [show d (o (x - 1)) = 0 by omega] at hp
      have : o (x - 1) = s0 := hp
      rw [this] at d1
      exact d1 hx0 a c)
    exact ⟨I', L', R', p', e, a1, f1.tr a2, (l1.sub (fG4_s _)).tr a3, a4, a5⟩
end GM
