section WA
variable {W H m s0 n k hd h0 N b q c h vv vo B fb : Nat} {K w : Nat → Nat} {l e : Nat → Int} {fs fa M : Int} {f : Nat → Int} {I I' J : MI} {L L' L0 L1 : ML} {R : MR} {p : Bool} {fe : Nat}
def FM (fb : Nat) (f : Nat → Int) (I : MI) : Prop := S1 fb = (20, 5) ∧ ∀ i, i < 5 → I fb i = iI (f i)
/-- both rows written as far as place T, nothing else touched -/
def Iw (L0 : ML) (val : Nat → Int × Int × Nat) (T : Nat) (L : ML) : Prop := FrL [(104, none), (108, none)] L0 L ∧ ∀ i, i < T → L 104 i = iL (val i).2.1 ∧ L 108 i = iL (val i).1
theorem Iw.wr {val : Nat → Int × Int × Nat} {T : Nat} (h : Iw L0 val T L) {L1 : ML} (hf : ∀ a i, ¬ ((a = 104 ∨ a = 108) ∧ i = T) → L1 a i = L a i) (h1 : L1 104 T = iL (val T).2.1) (h2 : L1 108 T = iL (val T).1) : Iw L0 val (T + 1) L1 := by
  refine ⟨fun a i q => ?_, fun i hi => ?_⟩
  · rw [hf a i (fun z => by rcases z.1 with rfl | rfl <;> simp [inF] at q)]
    exact h.1 a i q
  · by_cases e : i = T
    · subst e; exact ⟨h1, h2⟩
    · rw [hf _ _ (fun z => e z.2), hf _ _ (fun z => e z.2)]; exact h.2 i (by omega)
theorem w112_c {g : Nat} (hg : 4 ≤ g) (hR : RG p fe R) (hH : MH W H K w hd I) (hF : FM fb f I) (hE : EB M e (f 3) (f 4)) (hM : M ≤ 20000) (hpb : pB M (k + 1) ≤ 900000000000000000) (hk : k < 8) {s v : Nat} (hs : s < 4 * (W * H)) (hv0 : 0 < v) (hv : v < 10) {t : Nat} (ht : t < 3)
    (hL : ∀ s v, s < 4 * (W * H) → v < 10 → L 103 (10 * s + v) = iL (V W H K w hd e (f 3) (f 4) k s v).2.1 ∧ L 107 (10 * s + v) = iL (V W H K w hd e (f 3) (f 4) k s v).1) {a : Int × Int × Nat} (ha : inP M (k + 1) a) (h104 : L 104 (10 * s + v) = iL a.2.1) (h108 : L 108 (10 * s + v) = iL a.1) (F : Nat) :
    ∃ L', l_Mod_wantsAt_112 g S1 R I 90 fb (iL (100 ^ (k + 1))) (nI (s / 4)) (nI (s % 4)) (nI v) (nI (10 * s + v)) (F + 1) L (nI t) = l_Mod_wantsAt_112 g S1 R I 90 fb (iL (100 ^ (k + 1))) (nI (s / 4)) (nI (s % 4)) (nI v) (nI (10 * s + v)) F L' (nI (t + 1)) ∧
      (∀ a i, ¬ ((a = 104 ∨ a = 108) ∧ i = 10 * s + v) → L' a i = L a i) ∧ L' 104 (10 * s + v) = iL (pick a (cand W H K w hd (f 3) (f 4) (V W H K w hd e (f 3) (f 4) k) k s v t)).2.1 ∧ L' 108 (10 * s + v) = iL (pick a (cand W H K w hd (f 3) (f 4) (V W H K w hd e (f 3) (f 4) k) k s v t)).1 := by
  have hN := hH.1.N36
  have hW := hH.1.1
  have hin := V_in (W := W) (H := H) (K := K) (w := w) (hd := hd) hE hH.2.1.1 hH.2.2.1 k
  have hc := cand_in (W := W) (H := H) (K := K) (w := w) (hd := hd) (k := k) hE hH.2.1.1 hH.2.2.1 hin s v ht
  have e7 := comesOf_c (g := g) (b := 107) (u := t) (v := v) (A := fun r => (V W H K w hd e (f 3) (f 4) k r (v - 1)).1) (L := L) hg hR hH rfl hs (by omega) hv (fun _ => hv0) (fun t' ht' => by
    rw [if_neg (by omega)]
    exact (hL _ _ (aft_lt hW hs) (by omega)).2)
  have e3 := comesOf_c (g := g) (b := 103) (u := t) (v := v) (A := fun r => (V W H K w hd e (f 3) (f 4) k r (v - 1)).2.1) (L := L) hg hR hH rfl hs (by omega) hv (fun _ => hv0) (fun t' ht' => by
    rw [if_neg (by omega)]
    exact (hL _ _ (aft_lt hW hs) (by omega)).1)
  rw [wmt hH.2.2.1 s ht] at e7 e3
  have hfe : (-20000 ≤ f 3 ∧ f 3 ≤ 20000) ∧ -20000 ≤ f 4 ∧ f 4 ≤ 20000 := by
    have := hE.2.2
    omega
  have b2 := h16 (k + 1) (by omega)
  have ha1 : B63 a.1 := ⟨by have := ha.1.1; omega, by have := ha.1.2; omega⟩
  have ha2 : B63 a.2.1 := ⟨by have := ha.2.1.1; omega, by have := ha.2.1.2; omega⟩
  have hc1 : B63 (cand W H K w hd (f 3) (f 4) (V W H K w hd e (f 3) (f 4) k) k s v t).1 := ⟨by have := hc.1.1; omega, by have := hc.1.2; omega⟩
  have hc2 : B63 (cand W H K w hd (f 3) (f 4) (V W H K w hd e (f 3) (f 4) k) k s v t).2.1 := ⟨by have := hc.2.1.1; omega, by have := hc.2.1.2; omega⟩
  rw [l_Mod_wantsAt_112, ifb_neg (by rw [show (3 : Int32) = nI 3 from rfl, le32 (by omega) (by omega)]; omega), ifb_neg (by rw [nI0, le32 (by omega) (by omega)]; omega), hF.1, asrt_pos rfl, asrt_pos (pk_in 3 5 (by omega)), asrt_pos (pk_in 4 5 (by omega)), r_90_32 hR, bnd1_c, e7, bnd1_c, show Int32.toNatClampNeg 3 = 3 by decide, show Int32.toNatClampNeg 4 = 4 by decide, hF.2 3 (by omega), hF.2 4 (by omega), iI_add, iI_l (by omega), iL_mul, iL_add, lt_c, r_90_28 hR, bnd1_c, e3, bnd1_c, r_90_33 hR, bnd1_c, t_108, asrt_pos rfl, asrt_pos (vir (by omega) (by omega)), cl32 (by omega), h108]
  rw [show (f 3 + f 4) * 100 ^ (k + 1) + ((10 - (hd : Int)) * bw W H K w (fun r => (V W H K w hd e (f 3) (f 4) k r (v - 1)).1) s + 10 * (hd : Int) * (V W H K w hd e (f 3) (f 4) k (aft W H K s t) (v - 1)).1) = (cand W H K w hd (f 3) (f 4) (V W H K w hd e (f 3) (f 4) k) k s v t).1 by unfold cand; simp only; omega, show (10 - (hd : Int)) * bw W H K w (fun r => (V W H K w hd e (f 3) (f 4) k r (v - 1)).2.1) s + 10 * (hd : Int) * (V W H K w hd e (f 3) (f 4) k (aft W H K s t) (v - 1)).2.1 = (cand W H K w hd (f 3) (f 4) (V W H K w hd e (f 3) (f 4) k) k s v t).2.1 from rfl]
  generalize cand W H K w hd (f 3) (f 4) (V W H K w hd e (f 3) (f 4) k) k s v t = z at *
  have two : ∀ x y : Int64, (∀ a i, ¬ ((a = 104 ∨ a = 108) ∧ i = 10 * s + v) → wL (wL L 108 (10 * s + v) x) 104 (10 * s + v) y a i = L a i) := by
    intro x y a i h
    rw [wL_n (fun z => h ⟨Or.inl z.1, z.2⟩), wL_n (fun z => h ⟨Or.inr z.1, z.2⟩)]
  by_cases q1 : a.1 < z.1
  · rw [show pick a z = z by unfold pick; rw [if_pos q1], ifb_pos (by rw [lg_cmp_gt, iL_lt ha1 hc1]; exact q1), asrt_pos (vir (by omega) (by omega)), lt_c, r_90_29 hR, bnd1_c, t_104, asrt_pos rfl, asrt_pos (vir (by omega) (by omega)), lt_c, bnd1_c, nI_1]
    exact ⟨_, rfl, two _ _, wL_s, by rw [wL_n (by omega), wL_s]⟩
  rw [ifb_neg (by rw [lg_cmp_gt, iL_lt ha1 hc1]; exact q1), asrt_pos (vir (by omega) (by omega))]
  by_cases q2 : a.1 = z.1
  · rw [ifb_pos (by rw [lg_cmp_eq, iL_eq hc1 ha1]; exact q2.symm), r_90_29 hR, bnd1_c, t_104, asrt_pos rfl, asrt_pos (vir (by omega) (by omega)), h104]
    by_cases q3 : a.2.1 < z.2.1
    · rw [show pick a z = z by unfold pick; rw [if_neg q1, if_pos q2, if_pos q3], ifb_neg (by rw [lg_cmp_le, iL_le hc2 ha2]; omega), asrt_pos (vir (by omega) (by omega)), lt_c, asrt_pos (vir (by omega) (by omega)), lt_c, bnd1_c, nI_1]
      exact ⟨_, rfl, two _ _, wL_s, by rw [wL_n (by omega), wL_s]⟩
    · rw [show pick a z = a by unfold pick; rw [if_neg q1, if_pos q2, if_neg q3], ifb_pos (by rw [lg_cmp_le, iL_le hc2 ha2]; omega), bnd1_c, nI_1]
      exact ⟨L, rfl, fun _ _ _ => rfl, h104, h108⟩
  · rw [show pick a z = a by unfold pick; rw [if_neg q1, if_neg q2], ifb_neg (by rw [lg_cmp_eq, iL_eq hc1 ha1]; exact fun z => q2 z.symm), bnd1_c, nI_1]
    exact ⟨L, rfl, fun _ _ _ => rfl, h104, h108⟩
theorem wantsAt_c {g : Nat} (hg : 1500 ≤ g) (hR : RG p fe R) (hH : MH W H K w hd I) (hF : FM fb f I) (hE : EB M e (f 3) (f 4)) (hM : M ≤ 20000) (hpb : pB M (k + 1) ≤ 900000000000000000) (hk : k < 8) {s v : Nat} (hs : s < 4 * (W * H)) (hv : v < 10)
    (hL : ∀ s v, s < 4 * (W * H) → v < 10 → L 103 (10 * s + v) = iL (V W H K w hd e (f 3) (f 4) k s v).2.1 ∧ L 107 (10 * s + v) = iL (V W H K w hd e (f 3) (f 4) k s v).1) :
    ∃ L', f_Mod_wantsAt g S1 R I L 90 fb (iL (100 ^ (k + 1))) (nI (s / 4)) (nI (s % 4)) (nI v) = some L' ∧ (∀ a i, ¬ ((a = 104 ∨ a = 108) ∧ i = 10 * s + v) → L' a i = L a i) ∧ L' 104 (10 * s + v) = iL (V W H K w hd e (f 3) (f 4) (k + 1) s v).2.1 ∧ L' 108 (10 * s + v) = iL (V W H K w hd e (f 3) (f 4) (k + 1) s v).1 := by
  have hN := hH.1.N36
  have hW := hH.1.1
  have two : ∀ x y : Int64, (∀ a i, ¬ ((a = 104 ∨ a = 108) ∧ i = 10 * s + v) → wL (wL L 104 (10 * s + v) x) 108 (10 * s + v) y a i = L a i) := by
    intro x y a i h
    rw [wL_n (fun z => h ⟨Or.inr z.1, z.2⟩), wL_n (fun z => h ⟨Or.inl z.1, z.2⟩)]
  have e100 : (100 : Int64) = iL 100 := rfl
  unfold f_Mod_wantsAt
  rw [stateOf_c (by omega) hv, bnd1_c, isEnd_in hH.1 hR (by omega), bnd1_c]
  cases c2 : isE (K (s / 4))
  · have hin := V_in (W := W) (H := H) (K := K) (w := w) (hd := hd) hE hH.2.1.1 hH.2.2.1 k
    have hb := base_in (W := W) (H := H) (K := K) (w := w) (k := k) hE hH.2.1.1 hin s v
    have hfe : -20000 ≤ f 3 ∧ f 3 ≤ 20000 := by
      have := hE.2.2
      omega
    have e3 := comesOf_c (g := g) (b := 103) (u := 3) (v := v) (A := fun r => (V W H K w hd e (f 3) (f 4) k r v).2.1) (L := L) (by omega) hR hH rfl hs (by omega) hv (by omega) (fun t' ht' => by
      rw [if_pos rfl]
      exact (hL _ _ (aft_lt hW hs) (by omega)).1)
    rw [wm3, show 10 * bw W H K w (fun r => (V W H K w hd e (f 3) (f 4) k r v).2.1) s = (base W H K w (f 3) (V W H K w hd e (f 3) (f 4) k) k s v).2.1 by
      unfold base
      simp only
      rw [bw_eq (fun r => by rw [V_min k r v])]] at e3
    have e7 : ∀ x, f_Mod_comesOf g S1 R I (wL L 104 (10 * s + v) x) 90 (nI (s / 4)) (nI (s % 4)) (nI v) 3 107 = some (iL (10 * bw W H K w (fun r => (V W H K w hd e (f 3) (f 4) k r (min v k)).1) s)) := by
      intro x
      have e7 := comesOf_c (g := g) (b := 107) (u := 3) (v := v) (A := fun r => (V W H K w hd e (f 3) (f 4) k r v).1) (L := wL L 104 (10 * s + v) x) (by omega) hR hH rfl hs (by omega) hv (by omega) (fun t' ht' => by
        rw [if_pos rfl, wL_n (by omega)]
        exact (hL _ _ (aft_lt hW hs) (by omega)).2)
      rw [wm3, bw_eq (fun r => by rw [V_min k r v])] at e7
      exact e7
    rw [show eb (K (s / 4)) = 0 by unfold eb; rw [c2]; rfl, ifb_pos rfl, r_90_29 hR, bnd1_c, r_90_28 hR, bnd1_c, show f_Mod_comesOf g S1 R I L 90 (nI (s / 4)) (nI (s % 4)) (nI v) 3 103 = _ from e3, bnd1_c, t_104, asrt_pos rfl, asrt_pos (vir (by omega) (by omega)), cl32 (by omega), lt_c, r_90_33 hR, bnd1_c, hF.1, asrt_pos rfl, asrt_pos (pk_in 3 5 (by omega)), r_90_32 hR, bnd1_c, e7, bnd1_c, show Int32.toNatClampNeg 3 = 3 by decide, hF.2 3 (by omega), iI_l (by omega), iL_mul, iL_add, lt_c, t_108, asrt_pos rfl, asrt_pos (vir (by omega) (by omega)), lt_c]
    rw [show f 3 * 100 ^ (k + 1) + 10 * bw W H K w (fun r => (V W H K w hd e (f 3) (f 4) k r (min v k)).1) s = (base W H K w (f 3) (V W H K w hd e (f 3) (f 4) k) k s v).1 by unfold base; simp only; omega]
    have hVs : V W H K w hd e (f 3) (f 4) (k + 1) s v = if v = 0 then base W H K w (f 3) (V W H K w hd e (f 3) (f 4) k) k s v else
      pick (pick (pick (base W H K w (f 3) (V W H K w hd e (f 3) (f 4) k) k s v) (cand W H K w hd (f 3) (f 4) (V W H K w hd e (f 3) (f 4) k) k s v 0)) (cand W H K w hd (f 3) (f 4) (V W H K w hd e (f 3) (f 4) k) k s v 1)) (cand W H K w hd (f 3) (f 4) (V W H K w hd e (f 3) (f 4) k) k s v 2) := by
      rw [V, c2, if_neg (by simp)]
    obtain ⟨g, rfl⟩ : ∃ g', g = g' + 4 := ⟨g - 4, by omega⟩
    by_cases hv0 : v = 0
    · rw [l_Mod_wantsAt_112, ifb_neg (by decide), ifb_pos (by rw [hv0]; decide), bnd1_c, hVs, if_pos hv0]
      exact ⟨_, rfl, two _ _, by rw [wL_n (by omega), wL_s], wL_s⟩
    rw [hVs, if_neg hv0]
    have hc := fun t (ht : t < 3) => cand_in (W := W) (H := H) (K := K) (w := w) (hd := hd) (k := k) hE hH.2.1.1 hH.2.2.1 hin s v ht
    generalize hL0 : wL (wL L 104 (10 * s + v) (iL (base W H K w (f 3) (V W H K w hd e (f 3) (f 4) k) k s v).2.1)) 108 (10 * s + v) (iL (base W H K w (f 3) (V W H K w hd e (f 3) (f 4) k) k s v).1) = L0
    have k0 : ∀ a i, ¬ ((a = 104 ∨ a = 108) ∧ i = 10 * s + v) → L0 a i = L a i := by rw [← hL0]; exact two _ _
    have a0 : L0 104 (10 * s + v) = iL (base W H K w (f 3) (V W H K w hd e (f 3) (f 4) k) k s v).2.1 := by rw [← hL0, wL_n (by omega), wL_s]
    have b0 : L0 108 (10 * s + v) = iL (base W H K w (f 3) (V W H K w hd e (f 3) (f 4) k) k s v).1 := by rw [← hL0, wL_s]
    have tr : ∀ Lx : ML, (∀ a i, ¬ ((a = 104 ∨ a = 108) ∧ i = 10 * s + v) → Lx a i = L a i) → ∀ s v, s < 4 * (W * H) → v < 10 → Lx 103 (10 * s + v) = iL (V W H K w hd e (f 3) (f 4) k s v).2.1 ∧ Lx 107 (10 * s + v) = iL (V W H K w hd e (f 3) (f 4) k s v).1 := fun Lx h s v x y => by
      rw [h _ _ (by omega), h _ _ (by omega)]
      exact hL s v x y
    obtain ⟨La, ea, ka, aa, ba⟩ := w112_c (g := g + 4) (t := 0) (by omega) hR hH hF hE hM hpb hk hs (by omega) hv (by omega) (tr L0 k0) hb a0 b0 (g + 3)
    have ka' : ∀ a i, ¬ ((a = 104 ∨ a = 108) ∧ i = 10 * s + v) → La a i = L a i := fun a i h => (ka a i h).trans (k0 a i h)
    have pa := pick_in hb (hc 0 (by omega))
    obtain ⟨Lb, eb', kb, ab, bb⟩ := w112_c (g := g + 4) (t := 1) (by omega) hR hH hF hE hM hpb hk hs (by omega) hv (by omega) (tr La ka') pa aa ba (g + 2)
    have kb' : ∀ a i, ¬ ((a = 104 ∨ a = 108) ∧ i = 10 * s + v) → Lb a i = L a i := fun a i h => (kb a i h).trans (ka' a i h)
    have pb := pick_in pa (hc 1 (by omega))
    obtain ⟨Lc, ec, kc, ac, bc⟩ := w112_c (g := g + 4) (t := 2) (by omega) hR hH hF hE hM hpb hk hs (by omega) hv (by omega) (tr Lb kb') pb ab bb (g + 1)
    refine ⟨Lc, ?_, fun a i h => (kc a i h).trans (kb' a i h), ac, bc⟩
    rw [show l_Mod_wantsAt_112 (g + 4) S1 R I 90 fb (iL (100 ^ (k + 1))) (nI (s / 4)) (nI (s % 4)) (nI v) (nI (10 * s + v)) (g + 4) L0 0 = some Lc from ea.trans (eb'.trans (ec.trans (by rw [l_Mod_wantsAt_112, ifb_pos (by decide)]))), bnd1_c]
  · have h1 := hL s v hs hv
    have hV : (V W H K w hd e (f 3) (f 4) (k + 1) s v).1 = 100 * (V W H K w hd e (f 3) (f 4) k s v).1 ∧ (V W H K w hd e (f 3) (f 4) (k + 1) s v).2.1 = 100 * (V W H K w hd e (f 3) (f 4) k s v).2.1 := by
      constructor
      · rw [(V_e c2 v).1, (V_e c2 v).1, Int.pow_succ, ← Int.mul_assoc, Int.mul_comm]
      · rw [(V_e c2 v).2, (V_e c2 v).2, Int.pow_succ, ← Int.mul_assoc, Int.mul_comm]
    rw [show eb (K (s / 4)) = 1 by unfold eb; rw [c2]; rfl, ifb_neg (by decide), r_90_29 hR, bnd1_c, r_90_28 hR, bnd1_c, t_103, asrt_pos rfl, asrt_pos (vir (by omega) (by omega)), cl32 (by omega), h1.1, e100, iL_mul, lt_c, t_104, asrt_pos rfl, asrt_pos (vir (by omega) (by omega)), lt_c, r_90_33 hR, bnd1_c, r_90_32 hR, bnd1_c, t_107, asrt_pos rfl, asrt_pos (vir (by omega) (by omega)), wL_n (by omega), h1.2, iL_mul, lt_c, t_108, asrt_pos rfl, asrt_pos (vir (by omega) (by omega)), lt_c, hV.1, hV.2]
    exact ⟨_, rfl, two _ _, by rw [wL_n (by omega), wL_s], wL_s⟩
end WA
