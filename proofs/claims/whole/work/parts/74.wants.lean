section WB
variable {W H m s0 n k hd h0 N b q c h vv vo B fb : Nat} {K w : Nat → Nat} {l e : Nat → Int} {fs fa M : Int} {f : Nat → Int} {I I' J : MI} {L L' L0 L1 : ML} {R : MR} {p : Bool} {fe : Nat}
def fM4 : FT := [(103, none), (104, none), (107, none), (108, none)]
theorem wback_c {g : Nat} (hg : 1500 ≤ g) (hR : RG p fe R) (hH : MH W H K w hd I) (hF : FM fb f I) (hE : EB M e (f 3) (f 4)) (hM : M ≤ 20000) (hpb : pB M (k + 1) ≤ 900000000000000000) (hk : k < 8)
    (hL : ∀ s v, s < 4 * (W * H) → v < 10 → L 103 (10 * s + v) = iL (V W H K w hd e (f 3) (f 4) k s v).2.1 ∧ L 107 (10 * s + v) = iL (V W H K w hd e (f 3) (f 4) k s v).1) :
    ∃ L', f_Mod_wantsBack g S1 R I L 90 fb (iL (100 ^ (k + 1))) = some L' ∧ FrL fM4 L L' ∧ ∀ s v, s < 4 * (W * H) → v < 10 → L' 103 (10 * s + v) = iL (V W H K w hd e (f 3) (f 4) (k + 1) s v).2.1 ∧ L' 107 (10 * s + v) = iL (V W H K w hd e (f 3) (f 4) (k + 1) s v).1 := by
  have hN := hH.1.N36
  have keep : ∀ L1 T, Iw L (fun i => V W H K w hd e (f 3) (f 4) (k + 1) (i / 10) (i % 10)) T L1 → ∀ s v, s < 4 * (W * H) → v < 10 → L1 103 (10 * s + v) = iL (V W H K w hd e (f 3) (f 4) k s v).2.1 ∧ L1 107 (10 * s + v) = iL (V W H K w hd e (f 3) (f 4) k s v).1 := fun L1 T h s v a b => by
    rw [h.1 103 _ rfl, h.1 107 _ rfl]
    exact hL s v a b
  have inn : ∀ F s v L1, s < 4 * (W * H) → v ≤ 10 → 10 < v + F → Iw L (fun i => V W H K w hd e (f 3) (f 4) (k + 1) (i / 10) (i % 10)) (10 * s + v) L1 → ∃ L2, l_Mod_wantsBack_24 g S1 R I 90 fb (iL (100 ^ (k + 1))) (nI (s / 4)) (nI (s % 4)) F L1 (nI v) = some L2 ∧ Iw L (fun i => V W H K w hd e (f 3) (f 4) (k + 1) (i / 10) (i % 10)) (10 * s + 10) L2 := by
    intro F
    induction F with
    | zero => intro s v L1 h1 h2; omega
    | succ F ih =>
      intro s v L1 h1 h2 h3 h4
      rw [l_Mod_wantsBack_24]
      by_cases hv : v = 10
      · subst hv
        exact ⟨L1, by rw [ifb_pos (by decide)], h4⟩
      obtain ⟨L2, e2, k2, a2, b2⟩ := wantsAt_c hg hR hH hF hE hM hpb hk h1 (show v < 10 by omega) (keep L1 _ h4)
      have h5 := h4.wr k2 (by
        show L2 104 (10 * s + v) = iL (V W H K w hd e (f 3) (f 4) (k + 1) ((10 * s + v) / 10) ((10 * s + v) % 10)).2.1
        rw [show (10 * s + v) / 10 = s by omega, show (10 * s + v) % 10 = v by omega]; exact a2) (by
        show L2 108 (10 * s + v) = iL (V W H K w hd e (f 3) (f 4) (k + 1) ((10 * s + v) / 10) ((10 * s + v) % 10)).1
        rw [show (10 * s + v) / 10 = s by omega, show (10 * s + v) % 10 = v by omega]; exact b2)
      rw [ifb_neg (by rw [show (10 : Int32) = nI 10 from rfl, le32 (by omega) (by omega)]; omega), e2, bnd1_c, nI_1]
      exact ih s (v + 1) L2 h1 (by omega) (by omega) h5
  have mid : ∀ F c h L1, c < W * H → h ≤ 4 → 4 < h + F → Iw L (fun i => V W H K w hd e (f 3) (f 4) (k + 1) (i / 10) (i % 10)) (10 * (4 * c + h)) L1 → ∃ L2, l_Mod_wantsBack_15 g S1 R I 90 fb (iL (100 ^ (k + 1))) (nI c) F L1 (nI h) = some L2 ∧ Iw L (fun i => V W H K w hd e (f 3) (f 4) (k + 1) (i / 10) (i % 10)) (10 * (4 * c + 4)) L2 := by
    intro F
    induction F with
    | zero => intro c h L1 h1 h2; omega
    | succ F ih =>
      intro c h L1 h1 h2 h3 h4
      rw [l_Mod_wantsBack_15]
      by_cases hv : h = 4
      · subst hv
        exact ⟨L1, by rw [ifb_pos (by decide)], h4⟩
      obtain ⟨L2, e2, i2⟩ := inn g (4 * c + h) 0 L1 (by omega) (by omega) (by omega) h4
      rw [show (4 * c + h) / 4 = c by omega, show (4 * c + h) % 4 = h by omega] at e2
      rw [ifb_neg (by rw [show (4 : Int32) = nI 4 from rfl, le32 (by omega) (by omega)]; omega), show l_Mod_wantsBack_24 g S1 R I 90 fb (iL (100 ^ (k + 1))) (nI c) (nI h) g L1 0 = some L2 from e2, bnd1_c, nI_1]
      exact ih c (h + 1) L2 h1 (by omega) (by omega) i2
  have out : ∀ F c L1, c ≤ W * H → W * H < c + F → Iw L (fun i => V W H K w hd e (f 3) (f 4) (k + 1) (i / 10) (i % 10)) (10 * (4 * c)) L1 → ∃ L2, l_Mod_wantsBack_3 g S1 R I 90 fb (iL (100 ^ (k + 1))) F L1 (nI c) = some L2 ∧ Iw L (fun i => V W H K w hd e (f 3) (f 4) (k + 1) (i / 10) (i % 10)) (10 * (4 * (W * H))) L2 := by
    intro F
    induction F with
    | zero => intro c L1 h1 h2; omega
    | succ F ih =>
      intro c L1 h1 h3 h4
      rw [l_Mod_wantsBack_3, cells_c hH.1, bnd1_c]
      by_cases hv : c = W * H
      · subst hv
        exact ⟨L1, by rw [ifb_pos (by rw [le32 (by omega) (by omega)]; omega)], h4⟩
      obtain ⟨L2, e2, i2⟩ := mid g c 0 L1 (by omega) (by omega) (by omega) h4
      rw [ifb_neg (by rw [le32 (by omega) (by omega)]; omega), show l_Mod_wantsBack_15 g S1 R I 90 fb (iL (100 ^ (k + 1))) (nI c) g L1 0 = some L2 from e2, bnd1_c, nI_1]
      exact ih (c + 1) L2 (by omega) (by omega) i2
  obtain ⟨L2, e2, i2⟩ := out g 0 L (by omega) (by omega) ⟨FrL.rf, fun i hi => by omega⟩
  have cpy : ∀ F i L1, i ≤ 1440 → 1440 < i + F → FrL [(103, none), (107, none)] L2 L1 → (∀ j, j < i → L1 103 j = L2 104 j ∧ L1 107 j = L2 108 j) → ∃ L3, l_Mod_wantsBack_64 S1 R 90 F L1 (nI i) = some L3 ∧ FrL [(103, none), (107, none)] L2 L3 ∧ ∀ j, j < 1440 → L3 103 j = L2 104 j ∧ L3 107 j = L2 108 j := by
    intro F
    induction F with
    | zero => intro i L1 h1 h2; omega
    | succ F ih =>
      intro i L1 h1 h2 h3 h4
      rw [l_Mod_wantsBack_64]
      by_cases hv : i = 1440
      · subst hv
        exact ⟨L1, by rw [ifb_pos (by decide)], h3, h4⟩
      have e104 : L1 104 i = L2 104 i := h3 104 i rfl
      have e108 : L1 108 i = L2 108 i := h3 108 i rfl
      rw [ifb_neg (by rw [show (1440 : Int32) = nI 1440 from rfl, le32 (by omega) (by omega)]; omega), r_90_28 hR, bnd1_c, r_90_29 hR, bnd1_c, t_104, asrt_pos rfl, asrt_pos (vir (by omega) (by omega)), cl32 (by omega), lt_c, t_103, asrt_pos rfl, asrt_pos (vir (by omega) (by omega)), lt_c, r_90_32 hR, bnd1_c, r_90_33 hR, bnd1_c, t_108, asrt_pos rfl, asrt_pos (vir (by omega) (by omega)), lt_c, t_107, asrt_pos rfl, asrt_pos (vir (by omega) (by omega)), lt_c, nI_1]
      refine ih (i + 1) _ (by omega) (by omega) (FrL.w (FrL.w h3 rfl) rfl) (fun j hj => ?_)
      by_cases ej : j = i
      · subst ej
        rw [wL_n (by omega), wL_s, wL_s, wL_n (by omega), e104, e108]
        exact ⟨rfl, rfl⟩
      · rw [wL_n (by omega), wL_n (by omega), wL_n (by omega), wL_n (by omega)]; exact h4 j (by omega)
  obtain ⟨L3, e3, f3, c3⟩ := cpy g 0 L2 (by omega) (by omega) FrL.rf (fun j hj => by omega)
  refine ⟨L3, ?_, (i2.1.sub rfl).tr (f3.sub rfl), fun s v a b => ?_⟩
  · unfold f_Mod_wantsBack
    rw [show l_Mod_wantsBack_3 g S1 R I 90 fb (iL (100 ^ (k + 1))) g L 0 = some L2 from e2, bnd1_c, show l_Mod_wantsBack_64 S1 R 90 g L2 0 = some L3 from e3, bnd1_c]
  · have := i2.2 (10 * s + v) (by omega)
    rw [(c3 _ (by omega)).1, (c3 _ (by omega)).2, this.1, this.2]
    show iL (V W H K w hd e (f 3) (f 4) (k + 1) ((10 * s + v) / 10) ((10 * s + v) % 10)).2.1 = _ ∧ iL (V W H K w hd e (f 3) (f 4) (k + 1) ((10 * s + v) / 10) ((10 * s + v) % 10)).1 = _
    rw [show (10 * s + v) / 10 = s by omega, show (10 * s + v) % 10 = v by omega]
    exact ⟨rfl, rfl⟩
def eW (f : Nat → Int) (K : Nat → Nat) (c : Nat) : Int := (if K c = 3 then f 1 else 0) + (if K c = 1 then f 2 else 0)
theorem iI_mul (a b : Int) : iI a * iI b = iI (a * b) := (Int32.ofInt_mul a b).symm
theorem gain0_c {g : Nat} (hg : 1000 ≤ g) (hR : RG p fe R) (hL : LM W H K I) (hF : FM fb f I) (hf : fok f) (v2 : Int32) : ∃ L', l_Mod_wants_7 g S1 R I 90 fb v2 g L 0 = some L' ∧ Iv 107 L (fun i => eW f K (i / 10 / 4)) (10 * (4 * (W * H))) L' := by
  have hN := hL.N36
  have h1f := hf 1 (by omega)
  have h2f := hf 2 (by omega)
  have inn : ∀ F s v L1, s < 4 * (W * H) → v ≤ 10 → 10 < v + F → Iv 107 L (fun i => eW f K (i / 10 / 4)) (10 * s + v) L1 → ∃ L2, l_Mod_wants_27 S1 R I 90 fb v2 (nI (s / 4)) (nI (s % 4)) F L1 (nI v) = some L2 ∧ Iv 107 L (fun i => eW f K (i / 10 / 4)) (10 * s + 10) L2 := by
    intro F
    induction F with
    | zero => intro s v L1 h1 h2; omega
    | succ F ih =>
      intro s v L1 h1 h2 h3 h4
      rw [l_Mod_wants_27]
      by_cases hv : v = 10
      · subst hv
        exact ⟨L1, by rw [ifb_pos (by decide)], h4⟩
      have hK := hL.2.2.1 (s / 4)
      have h92 := hL.2.2.2.2.2 (s / 4) (by omega)
      have kk : ∀ (a : Nat) (X : Int32 → Option ML), a < 4 → bnd1 (ifb (nI (K (s / 4)) = nI a) (some 1) (some 0)) X = X (iI (if K (s / 4) = a then 1 else 0)) := by
        intro a X ha
        by_cases q : K (s / 4) = a
        · rw [ifb_pos (by rw [q]), bnd1_c, if_pos q]; rfl
        · rw [ifb_neg (by rw [eq32 (by omega) (by omega)]; exact q), bnd1_c, if_neg q]; rfl
      have fl : ∀ P : Prop, ∀ hP : Decidable P, f_Mod_flag (iI (if P then 1 else 0)) = some (iI (if P then 1 else 0)) := by
        intro P hP
        split
        · exact flag_1
        · exact flag_0
      have hval : eW f K ((10 * s + v) / 10 / 4) = eW f K (s / 4) := by rw [show (10 * s + v) / 10 = s by omega]
      have ee : f 1 * (if K (s / 4) = 3 then 1 else 0) + f 2 * (if K (s / 4) = 1 then 1 else 0) = eW f K (s / 4) := by
        unfold eW
        split <;> split <;> omega
      have eb : -6000 ≤ eW f K (s / 4) ∧ eW f K (s / 4) ≤ 6000 := by
        unfold eW
        split <;> split <;> omega
      have h5 := h4.wr
      simp only [hval] at h5
      obtain ⟨L2, e2, i2⟩ := ih s (v + 1) _ h1 (by omega) (by omega) h5
      refine ⟨L2, ?_, i2⟩
      rw [ifb_neg (by rw [show (10 : Int32) = nI 10 from rfl, le32 (by omega) (by omega)]; omega), r_90_32 hR, bnd1_c, stateOf_c (by omega) (by omega), bnd1_c, hF.1, asrt_pos rfl, asrt_pos (pk_in 1 5 (by omega)), r_90_5 hR, bnd1_c, t_92, asrt_pos rfl, asrt_pos (vir (by omega) (by omega)), cl32 (by omega), h92, show (3 : Int32) = nI 3 from rfl, kk 3 _ (by omega), fl, bnd1_c, asrt_pos (pk_in 2 5 (by omega)), asrt_pos (vir (by omega) (by omega)), show ifb (nI (K (s / 4)) = 1) (some (1 : Int32)) (some 0) = ifb (nI (K (s / 4)) = nI 1) (some 1) (some 0) from rfl, kk 1 _ (by omega), fl, bnd1_c, show Int32.toNatClampNeg 1 = 1 by decide, show Int32.toNatClampNeg 2 = 2 by decide, hF.2 1 (by omega), hF.2 2 (by omega), iI_mul, iI_mul, iI_add, ee, iI_l (by omega), lt_c, t_107, asrt_pos rfl, asrt_pos (vir (by omega) (by omega)), cl32 (by omega), lt_c, nI_1]
      exact e2
  have mid : ∀ F c h L1, c < W * H → h ≤ 4 → 4 < h + F → Iv 107 L (fun i => eW f K (i / 10 / 4)) (10 * (4 * c + h)) L1 → ∃ L2, l_Mod_wants_18 g S1 R I 90 fb v2 (nI c) F L1 (nI h) = some L2 ∧ Iv 107 L (fun i => eW f K (i / 10 / 4)) (10 * (4 * c + 4)) L2 := by
    intro F
    induction F with
    | zero => intro c h L1 h1 h2; omega
    | succ F ih =>
      intro c h L1 h1 h2 h3 h4
      rw [l_Mod_wants_18]
      by_cases hv : h = 4
      · subst hv
        exact ⟨L1, by rw [ifb_pos (by decide)], h4⟩
      obtain ⟨L2, e2, i2⟩ := inn g (4 * c + h) 0 L1 (by omega) (by omega) (by omega) h4
      rw [show (4 * c + h) / 4 = c by omega, show (4 * c + h) % 4 = h by omega] at e2
      rw [ifb_neg (by rw [show (4 : Int32) = nI 4 from rfl, le32 (by omega) (by omega)]; omega), show l_Mod_wants_27 S1 R I 90 fb v2 (nI c) (nI h) g L1 0 = some L2 from e2, bnd1_c, nI_1]
      exact ih c (h + 1) L2 h1 (by omega) (by omega) i2
  have out : ∀ F c L1, c ≤ W * H → W * H < c + F → Iv 107 L (fun i => eW f K (i / 10 / 4)) (10 * (4 * c)) L1 → ∃ L2, l_Mod_wants_7 g S1 R I 90 fb v2 F L1 (nI c) = some L2 ∧ Iv 107 L (fun i => eW f K (i / 10 / 4)) (10 * (4 * (W * H))) L2 := by
    intro F
    induction F with
    | zero => intro c L1 h1 h2; omega
    | succ F ih =>
      intro c L1 h1 h3 h4
      rw [l_Mod_wants_7, cells_c hL, bnd1_c]
      by_cases hv : c = W * H
      · subst hv
        exact ⟨L1, by rw [ifb_pos (by rw [le32 (by omega) (by omega)]; omega)], h4⟩
      obtain ⟨L2, e2, i2⟩ := mid g c 0 L1 (by omega) (by omega) (by omega) h4
      rw [ifb_neg (by rw [le32 (by omega) (by omega)]; omega), show l_Mod_wants_18 g S1 R I 90 fb v2 (nI c) g L1 0 = some L2 from e2, bnd1_c, nI_1]
      exact ih (c + 1) L2 (by omega) (by omega) i2
  exact out g 0 L (by omega) (by omega) ⟨FrL.rf, fun i hi => by omega⟩
theorem EB_W (hf : fok f) : EB 20000 (eW f K) (f 3) (f 4) := by
  have h1 := hf 1 (by omega)
  have h2 := hf 2 (by omega)
  have h3 := hf 3 (by omega)
  have h4 := hf 4 (by omega)
  refine ⟨by omega, fun c => ?_, by omega, by omega⟩
  unfold eW
  split <;> split <;> omega
theorem wants_c {g : Nat} (hg : 1500 ≤ g) (hR : RG p fe R) (hH : MH W H K w hd I) (hF : FM fb f I) (hf : fok f) (hn : n ≤ 5) :
    ∃ L', f_Mod_wants g S1 R I L 90 fb (nI n) = some L' ∧ FrL fM4 L L' ∧ ∀ s v, s < 4 * (W * H) → v < 10 → L' 103 (10 * s + v) = iL (V W H K w hd (eW f K) (f 3) (f 4) n s v).2.1 ∧ L' 107 (10 * s + v) = iL (V W H K w hd (eW f K) (f 3) (f 4) n s v).1 := by
  have hN := hH.1.N36
  obtain ⟨L1, e1, i1⟩ := lays_c (L := L) (g := g) (q := 0) (by omega) hR hH.1 (by omega)
  obtain ⟨L2, e2, i2⟩ := gain0_c (L := L1) (g := g) (by omega) hR hH.1 hF hf (nI n)
  have loop : ∀ F k L1, k ≤ n → n < k + F → (∀ s v, s < 4 * (W * H) → v < 10 → L1 103 (10 * s + v) = iL (V W H K w hd (eW f K) (f 3) (f 4) k s v).2.1 ∧ L1 107 (10 * s + v) = iL (V W H K w hd (eW f K) (f 3) (f 4) k s v).1) → ∃ L2, l_Mod_wants_114 g S1 R I 90 fb (nI n) F L1 (nI k) = some L2 ∧ FrL fM4 L1 L2 ∧ ∀ s v, s < 4 * (W * H) → v < 10 → L2 103 (10 * s + v) = iL (V W H K w hd (eW f K) (f 3) (f 4) n s v).2.1 ∧ L2 107 (10 * s + v) = iL (V W H K w hd (eW f K) (f 3) (f 4) n s v).1 := by
    intro F
    induction F with
    | zero => intro k L1 h1 h2; omega
    | succ F ih =>
      intro k L1 h1 h2 h3
      rw [l_Mod_wants_114]
      by_cases hk : k = n
      · subst hk
        exact ⟨L1, by rw [ifb_pos (by rw [le32 (by omega) (by omega)]; omega)], FrL.rf, h3⟩
      obtain ⟨L2, e2, f2, c2⟩ := wback_c hg hR hH hF (EB_W hf) (by omega) (pB3 (k + 1) (by omega)) (by omega) h3
      obtain ⟨L3, e3, f3, c3⟩ := ih (k + 1) L2 (by omega) (by omega) c2
      refine ⟨L3, ?_, f2.tr f3, c3⟩
      rw [ifb_neg (by rw [le32 (by omega) (by omega)]; omega), nI_1, whole_c (by omega) (by omega), bnd1_c, e2, bnd1_c]
      exact e3
  obtain ⟨L3, e3, f3, c3⟩ := loop g 0 L2 (by omega) (by omega) (fun s v a b => by
    have h1 := i1.2 (10 * s + v) (by omega)
    have h2 := i2.2 (10 * s + v) (by omega)
    rw [i2.1 103 _ rfl, h1, h2]
    show iL (lay K 0 ((10 * s + v) / 10 / 4)) = _ ∧ iL (eW f K ((10 * s + v) / 10 / 4)) = _
    rw [show (10 * s + v) / 10 = s by omega]
    unfold V lay
    simp)
  refine ⟨L3, ?_, ((i1.1.sub rfl).tr (i2.1.sub rfl)).tr f3, c3⟩
  unfold f_Mod_wants
  rw [show f_Mod_laysOut g S1 R I L 90 0 = some L1 from e1, bnd1_c, e2, bnd1_c, show l_Mod_wants_114 g S1 R I 90 fb (nI n) g L2 0 = some L3 from e3, bnd1_c]
/-- a fee that is due anyhow shifts what all is worth -/
theorem V_shift (hw : w 0 + w 1 + w 2 = 10) {e e' : Nat → Int} {z : Int} (he : ∀ c, e' c = e c + z) : ∀ k s v, V W H K w hd e' fs fa k s v = ((V W H K w hd e fs fa k s v).1 + z * 100 ^ k, (V W H K w hd e fs fa k s v).2) := by
  intro k
  induction k with
  | zero => intro s v; unfold V; simp [he]
  | succ k ih =>
    intro s v
    have hbw : ∀ u, bw W H K w (fun r => (V W H K w hd e' fs fa k r u).1) s = bw W H K w (fun r => (V W H K w hd e fs fa k r u).1) s + 10 * (z * 100 ^ k) := by
      intro u
      have hs : (10 : Int) * (z * 100 ^ k) = (w 0 : Nat) * (z * 100 ^ k) + (w 1 : Nat) * (z * 100 ^ k) + (w 2 : Nat) * (z * 100 ^ k) := by
        rw [← Int.add_mul, ← Int.add_mul]
        congr 1
        omega
      unfold bw
      simp only [ih, Int.mul_add]
      omega
    have hbl : ∀ u, bw W H K w (fun r => (V W H K w hd e' fs fa k r u).2.1) s = bw W H K w (fun r => (V W H K w hd e fs fa k r u).2.1) s := fun u => bw_eq (fun r => by rw [ih]) s
    have hp : z * 100 ^ (k + 1) = 100 * (z * 100 ^ k) := by rw [Int.pow_succ, ← Int.mul_assoc, Int.mul_comm]
    have hb : base W H K w fs (V W H K w hd e' fs fa k) k s v = ((base W H K w fs (V W H K w hd e fs fa k) k s v).1 + z * 100 ^ (k + 1), (base W H K w fs (V W H K w hd e fs fa k) k s v).2) := by
      unfold base
      simp only [hbw, hbl, hp]
      congr 1
      omega
    have hc : ∀ t, cand W H K w hd fs fa (V W H K w hd e' fs fa k) k s v t = ((cand W H K w hd fs fa (V W H K w hd e fs fa k) k s v t).1 + z * 100 ^ (k + 1), (cand W H K w hd fs fa (V W H K w hd e fs fa k) k s v t).2) := by
      intro t
      unfold cand
      simp only [hbw, hbl, hp]
      rw [ih]
      simp only [Int.mul_add]
      congr 1
      have q1 : (10 - (hd : Int)) * (10 * (z * 100 ^ k)) + 10 * (hd : Int) * (z * 100 ^ k) = 100 * (z * 100 ^ k) := by
        rw [← Int.mul_assoc, ← Int.add_mul]
        congr 1
        omega
      omega
    have hpk : ∀ a b : Int × Int × Nat, ∀ y : Int, pick (a.1 + y, a.2) (b.1 + y, b.2) = ((pick a b).1 + y, (pick a b).2) := by
      intro a b y
      unfold pick
      simp only
      by_cases h1 : a.1 < b.1
      · rw [if_pos (by omega), if_pos h1]
      · rw [if_neg (by omega), if_neg h1]
        by_cases h2 : a.1 = b.1
        · rw [if_pos (by omega), if_pos h2]
          split <;> rfl
        · rw [if_neg (by omega), if_neg h2]
    rw [V, V]
    by_cases hE : isE (K (s / 4)) = true
    · rw [if_pos hE, if_pos hE, he, Int.add_mul]
    · rw [if_neg hE, if_neg hE]
      by_cases hv : v = 0
      · rw [if_pos hv, if_pos hv, hb]
      · rw [if_neg hv, if_neg hv, hb, hc, hc, hc, hpk, hpk, hpk]
end WB
