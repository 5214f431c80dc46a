section TL
variable {W H B n : Nat} {K τ : Nat → Nat} {I I' : MI} {L : ML} {R : MR} {p : Bool} {fe : Nat} {q : Nat → Int32}
/-- how many of the first n are not -/
def cnf (f : Nat → Bool) : Nat → Nat
  | 0 => 0
  | k + 1 => cnf f k + (if f k then 0 else 1)
theorem cnf_le (f : Nat → Bool) : ∀ n, cnf f n ≤ n
  | 0 => Nat.le_refl 0
  | k + 1 => by
    have := cnf_le f k
    unfold cnf
    split <;> omega
theorem cnf_eq {f g : Nat → Bool} : ∀ n, (∀ k, k < n → f k = g k) → cnf f n = cnf g n
  | 0, _ => rfl
  | n + 1, h => by
    unfold cnf
    rw [cnf_eq n (fun k hk => h k (by omega)), h n (by omega)]
theorem cnf_upd {f g : Nat → Bool} {d : Nat} (hf : f d = false) (hg : g d = true) (he : ∀ k, k ≠ d → g k = f k) : ∀ n, d < n → cnf f n = cnf g n + 1
  | 0, h => by omega
  | n + 1, h => by
    unfold cnf
    by_cases e : d = n
    · subst e
      rw [hf, hg, cnf_eq d (fun k hk => he k (by omega))]
      simp
    · rw [cnf_upd hf hg he n (by omega), he n (fun z => e z.symm)]
      omega
theorem trackFrom_c (hR : RG p fe R) {c : Nat} (hc : c < 36) : f_Party_trackFrom S1 R I 64 (nI c) = some (I 65 c) := by
  unfold f_Party_trackFrom
  rw [ifb_neg (zn (by omega)), show (36 : Int32) = nI 36 from rfl, ifb_neg (by rw [le32 (by omega) (by omega)]; omega), r_64_6 hR, bnd1_c, t_65, asrt_pos rfl, asrt_pos (vir (by omega) (by omega)), cl32 (by omega)]
  rfl
theorem trail_sim (hR : RG p fe R) (hN : W * H ≤ 36) (hq : ∀ k, k < 36 → q (7 + k) = -1 ∨ ∃ j, j < W * H ∧ q (7 + k) = nI j) : ∀ (f u f1 f2 i m c : Nat) (x : Int64) (I J : MI), u < f → cnf (b64 x) 36 = u → (∀ k, k < 36 → I 65 k = q (7 + k)) → (∀ k, k < 36 → J 94 k = q (7 + k)) →
    I 76 2 = nI c → I 76 3 = nI m → I 76 4 = 0 → J 90 38 = 0 → c < W * H → i + u ≤ 36 → m + u ≤ 1000 → u + 2 < f1 → u + 2 < f2 →
    ∃ m' c' rd I' J', l_Trail_runFrom_22 S1 R 76 f1 I x (nI i) = some I' ∧ l_Mod_followed_14 S1 R 90 f2 J (nI m) x (nI c) = some (nI m', nI c', J') ∧ Fr [(76, some 2), (76, some 3), (76, some 4)] I I' ∧ Fr [(90, some 38)] J J' ∧
      I' 76 2 = nI c' ∧ I' 76 3 = nI m' ∧ I' 76 4 = nI rd ∧ J' 90 38 = nI rd ∧ rd ≤ 1 ∧ c' < W * H ∧ m' ≤ 1001 := by
  intro f
  induction f with
  | zero => intro u f1 f2 i m c x I J hf; omega
  | succ f ih =>
    intro u f1 f2 i m c x I J hf hu hI hJ h2 h3 h4 h38 hc hi hm hf1 hf2
    obtain ⟨g1, rfl⟩ : ∃ g1, f1 = g1 + 1 := ⟨f1 - 1, by omega⟩
    obtain ⟨g2, rfl⟩ : ∃ g2, f2 = g2 + 1 := ⟨f2 - 1, by omega⟩
    have hle : ¬ (36 : Int32) < nI i := by rw [show (36 : Int32) = nI 36 from rfl, lt32 (by omega) (by omega)]; omega
    rcases hq c (by omega) with e | ⟨d, hd, e⟩
    · refine ⟨m, c, 0, I, J, ?_, ?_, Fr.rf, Fr.rf, h2, h3, h4, h38, by omega, hc, by omega⟩
      · rw [l_Trail_runFrom_22, ifb_neg hle, ifb_pos h4, r_76_1 hR, bnd1_c, t_64, asrt_pos rfl, h2, trackFrom_c hR (by omega), hI c (by omega), e, bnd1_c, ifb_pos rfl]
      · rw [l_Mod_followed_14, r_90_15 hR, bnd1_c, t_94, asrt_pos rfl, asrt_pos (vir (by omega) (by omega)), cl32 (by omega), hJ c (by omega), e, ifb_pos (by decide)]
    · -- one step on, to d
      have hne : ¬ nI d = -1 := nIm1 (by omega)
      have s1 : l_Trail_runFrom_22 S1 R 76 (g1 + 1) I x (nI i) = l_Trail_runFrom_22 S1 R 76 g1 (wI (wI (wI I 76 2 (nI d)) 76 3 (nI (m + 1))) 76 4 (if b64 x d then 1 else 0)) (x ||| lsl 1 (nI d)) (nI (i + 1)) := by
        rw [l_Trail_runFrom_22, ifb_neg hle, ifb_pos h4, r_76_1 hR, bnd1_c, t_64, asrt_pos rfl, h2, trackFrom_c hR (by omega), hI c (by omega), e, bnd1_c, ifb_neg hne, bnd1_c, lt_c, wI_n (by omega), h3, nI_1, lt_c, lt_c, wI_n (by omega), wI_s, lus_1 x (by omega)]
        cases hb : b64 x d
        · rw [if_neg (by simp), ifb_pos (by decide), bnd1_c, asrt_pos (Or.inl rfl), lt_c, wI_n (by omega), wI_n (by omega), wI_s, lt_c, nI_1]; rfl
        · rw [if_pos rfl, ifb_neg (by decide), bnd1_c, asrt_pos (Or.inr rfl), lt_c, wI_n (by omega), wI_n (by omega), wI_s, lt_c, nI_1]; rfl
      have s2 : l_Mod_followed_14 S1 R 90 (g2 + 1) J (nI m) x (nI c) = l_Mod_followed_14 S1 R 90 g2 (wI J 90 38 (if b64 x d then 1 else 0)) (nI (m + 1)) (x ||| lsl 1 (nI d)) (nI d) := by
        rw [l_Mod_followed_14, r_90_15 hR, bnd1_c, t_94, asrt_pos rfl, asrt_pos (vir (by omega) (by omega)), cl32 (by omega), hJ c (by omega), e, ifb_neg (zn (by omega)), ifb_pos h38, asrt_pos (vir (by omega) (by omega)), lt_c, lsr_1 x (by omega)]
        cases hb : b64 x d
        · rw [if_neg (by simp), ifb_neg (by decide), bnd1_c, asrt_pos (Or.inl rfl), lt_c, lt_c, nI_1]; rfl
        · rw [if_pos rfl, ifb_pos (by decide), bnd1_c, asrt_pos (Or.inr rfl), lt_c, lt_c, nI_1]; rfl
      rw [s1, s2]
      have fA : Fr [(76, some 2), (76, some 3), (76, some 4)] I (wI (wI (wI I 76 2 (nI d)) 76 3 (nI (m + 1))) 76 4 (if b64 x d then 1 else 0)) := Fr.w (Fr.w (Fr.w Fr.rf rfl) rfl) rfl
      have fB : Fr [(90, some 38)] J (wI J 90 38 (if b64 x d then 1 else 0)) := Fr.w Fr.rf rfl
      have a2 : wI (wI (wI I 76 2 (nI d)) 76 3 (nI (m + 1))) 76 4 (if b64 x d then 1 else 0) 76 2 = nI d := by rw [wI_n (by omega), wI_n (by omega), wI_s]
      have a3 : wI (wI (wI I 76 2 (nI d)) 76 3 (nI (m + 1))) 76 4 (if b64 x d then 1 else 0) 76 3 = nI (m + 1) := by rw [wI_n (by omega), wI_s]
      cases hb : b64 x d
      · -- not yet seen
        rw [hb] at fA fB a2 a3
        have hu' : cnf (b64 x) 36 = cnf (b64 (x ||| lsl 1 (nI d))) 36 + 1 := by
          refine cnf_upd hb ?_ (fun k hk => ?_) 36 (by omega)
          · rw [b64_or, b64_1 (by omega)]; simp
          · rw [b64_or, b64_1 (by omega)]; simp [hk]
        obtain ⟨m', c', rd, I', J', y1, y2, y3, y4, y5, y6, y7, y8, y9, y10, y11⟩ := ih (cnf (b64 (x ||| lsl 1 (nI d))) 36) g1 g2 (i + 1) (m + 1) d (x ||| lsl 1 (nI d)) _ _ (by omega) rfl (fun k hk => (fA 65 k rfl).trans (hI k hk)) (fun k hk => (fB 94 k rfl).trans (hJ k hk)) a2 a3 wI_s wI_s hd (by omega) (by omega) (by omega) (by omega)
        exact ⟨m', c', rd, I', J', y1, y2, fA.tr y3, fB.tr y4, y5, y6, y7, y8, y9, y10, y11⟩
      · rw [hb] at fA fB a2 a3
        obtain ⟨h1, rfl⟩ : ∃ h1, g1 = h1 + 1 := ⟨g1 - 1, by omega⟩
        obtain ⟨h2', rfl⟩ : ∃ h2, g2 = h2 + 1 := ⟨g2 - 1, by omega⟩
        refine ⟨m + 1, d, 1, wI (wI (wI I 76 2 (nI d)) 76 3 (nI (m + 1))) 76 4 (if true = true then 1 else 0), wI J 90 38 (if true = true then 1 else 0), ?_, ?_, fA, fB, a2, a3, wI_s, wI_s, by omega, hd, by omega⟩
        · rw [l_Trail_runFrom_22]
          by_cases h36 : (36 : Int32) < nI (i + 1)
          · rw [ifb_pos h36]
          · rw [ifb_neg h36, ifb_neg (by rw [wI_s]; decide)]
        · rw [l_Mod_followed_14, r_90_15 hR, bnd1_c, t_94, asrt_pos rfl, asrt_pos (vir (by omega) (by omega)), cl32 (by omega)]
          by_cases hz : wI J 90 38 (if true = true then 1 else 0) 94 d < 0
          · rw [ifb_pos hz]
          · rw [ifb_neg hz, ifb_neg (by rw [wI_s]; decide)]
theorem un0 : ∀ c, c < 36 → cnf (b64 (lsl 1 (nI c))) 36 = 35 := by
  intro c hc
  have h0 : cnf (fun _ => false) 36 = 36 := rfl
  have := cnf_upd (f := fun _ => false) (g := b64 (lsl 1 (nI c))) (d := c) rfl (by rw [b64_1 (by omega)]; simp) (fun k hk => by rw [b64_1 (by omega)]; simp [hk]) 36 hc
  omega
/-- both followers, from cell c on -/
theorem follow_c {g : Nat} (hg : 1000 ≤ g) (hR : RG p fe R) (hN : W * H ≤ 36) (hq : ∀ k, k < 36 → q (7 + k) = -1 ∨ ∃ j, j < W * H ∧ q (7 + k) = nI j) {c : Nat} (hc : c < W * H) : ∃ m' c' rd, m' ≤ 1001 ∧ c' < W * H ∧ rd ≤ 1 ∧
    (∀ I : MI, (∀ k, k < 36 → I 65 k = q (7 + k)) → ∃ I', f_Trail_runFrom g S1 R I 76 (nI c) = some I' ∧ Fr [(76, some 2), (76, some 3), (76, some 4)] I I' ∧ I' 76 2 = nI c' ∧ I' 76 3 = nI m' ∧ I' 76 4 = nI rd) ∧
    ∀ J : MI, (∀ k, k < 36 → J 94 k = q (7 + k)) → ∃ J', f_Mod_followed g S1 R J 90 (nI c) = some (nI c', J') ∧ Fr [(90, some 37), (90, some 38)] J J' ∧ J' 90 37 = nI m' ∧ J' 90 38 = nI rd := by
  have run : ∀ (I J : MI), (∀ k, k < 36 → I 65 k = q (7 + k)) → (∀ k, k < 36 → J 94 k = q (7 + k)) → ∃ m' c' rd I' J', f_Trail_runFrom g S1 R I 76 (nI c) = some I' ∧ f_Mod_followed g S1 R J 90 (nI c) = some (nI c', J') ∧ Fr [(76, some 2), (76, some 3), (76, some 4)] I I' ∧ Fr [(90, some 37), (90, some 38)] J J' ∧
      I' 76 2 = nI c' ∧ I' 76 3 = nI m' ∧ I' 76 4 = nI rd ∧ J' 90 38 = nI rd ∧ J' 90 37 = nI m' ∧ rd ≤ 1 ∧ c' < W * H ∧ m' ≤ 1001 := by
    intro I J hI hJ
    have fA : Fr [(76, some 2), (76, some 3), (76, some 4)] I (wI (wI (wI I 76 2 (nI c)) 76 3 0) 76 4 0) := Fr.w (Fr.w (Fr.w Fr.rf rfl) rfl) rfl
    have fB : Fr [(90, some 38)] J (wI J 90 38 0) := Fr.w Fr.rf rfl
    obtain ⟨m', c', rd, I', J', y1, y2, y3, y4, y5, y6, y7, y8, y9, y10, y11⟩ := trail_sim hR hN hq 36 35 g g 0 0 c (lsl 1 (nI c)) (wI (wI (wI I 76 2 (nI c)) 76 3 0) 76 4 0) (wI J 90 38 0) (by omega) (un0 c (by omega)) (fun k hk => (fA 65 k rfl).trans (hI k hk)) (fun k hk => (fB 94 k rfl).trans (hJ k hk))
      (by rw [wI_n (by omega), wI_n (by omega), wI_s]) (by rw [wI_n (by omega), wI_s]; rfl) wI_s wI_s hc (by omega) (by omega) (by omega) (by omega)
    refine ⟨m', c', rd, I', wI J' 90 37 (nI m'), ?_, ?_, fA.tr y3, ((fB.sub rfl).tr (y4.sub rfl)).w rfl, y5, y6, y7, by rw [wI_n (by omega)]; exact y8, wI_s, y9, y10, y11⟩
    · unfold f_Trail_runFrom
      rw [lt_c, lt_c, lt_c, lt_c, show l_Trail_runFrom_22 S1 R 76 g (wI (wI (wI I 76 2 (nI c)) 76 3 0) 76 4 0) (lsl 1 (nI c)) 0 = some I' from y1]
      rfl
    · unfold f_Mod_followed
      rw [lt_c, lt_c, show l_Mod_followed_14 S1 R 90 g (wI J 90 38 0) 0 (lsl 1 (nI c)) (nI c) = some (nI m', nI c', J') from y2, bnd3_c, lt_c]
  -- the answers are the same whatever else the memories hold
  obtain ⟨m', c', rd, I0', J0', z1, z2, z3, z4, z5, z6, z7, z8, z9, z10, z11, z12⟩ := run (fun a k => q (7 + k)) (fun a k => q (7 + k)) (fun _ _ => rfl) (fun _ _ => rfl)
  refine ⟨m', c', rd, z12, z11, z10, fun I hI => ?_, fun J hJ => ?_⟩
  · obtain ⟨m1, c1, rd1, I1, J1, y1, y2, y3, y4, y5, y6, y7, y8, y9, y10, y11, y12⟩ := run I (fun a k => q (7 + k)) hI (fun _ _ => rfl)
    rw [z2] at y2
    have e := Option.some.inj y2
    have e1 : c' = c1 := (eq32 (by omega) (by omega)).mp (congrArg Prod.fst e)
    have e2 : J0' = J1 := congrArg Prod.snd e
    subst e2
    have e3 : m' = m1 := (eq32 (by omega) (by omega)).mp (z9.symm.trans y9)
    have e4 : rd = rd1 := (eq32 (by omega) (by omega)).mp (z8.symm.trans y8)
    subst e1 e3 e4
    exact ⟨I1, y1, y3, y5, y6, y7⟩
  · obtain ⟨m1, c1, rd1, I1, J1, y1, y2, y3, y4, y5, y6, y7, y8, y9, y10, y11, y12⟩ := run (fun a k => q (7 + k)) J (fun _ _ => rfl) hJ
    rw [z1] at y1
    have e2 : I0' = I1 := Option.some.inj y1
    subst e2
    have e1 : c' = c1 := (eq32 (by omega) (by omega)).mp (z5.symm.trans y5)
    have e3 : m' = m1 := (eq32 (by omega) (by omega)).mp (z6.symm.trans y6)
    have e4 : rd = rd1 := (eq32 (by omega) (by omega)).mp (z7.symm.trans y7)
    subst e1 e3 e4
    exact ⟨J1, y2, y4, y9, y8⟩
theorem op_follow {g : Nat} (hg : 1000 ≤ g) (hC : Cp B I L R) (x : Int32) : ∃ v I1 L1 I2 L2, f_GWL_follow g S1 R I L 0 x = some (v, I1, L1) ∧ f_Mod_follow g S1 R I1 L1 90 x = some (v, I2, L2) ∧ Cp (B + 1) I2 L2 R := by
  obtain ⟨⟨p, fe, hR⟩, hTx, hRw, hWg, hFe, hSh, hMk, W, H, K, hLn, hPt, hPs, hPr, hKp⟩ := hC
  have f0 : Fr [(90, some 0)] I (wI I 90 0 0) := Fr.w Fr.rf rfl
  have fin : Cp (B + 1) (wI I 90 0 0) L R := by
    refine ⟨⟨_, _, hR⟩, hTx.imp fun _ h => h.imp fun _ h => h.ag (f0.ag rfl), hRw.imp fun _ h => h.imp fun _ h => h.ag (f0.ag rfl) (fun _ _ _ => rfl), hWg.imp fun _ h => h.imp fun _ h => h.ag (f0.ag rfl), hFe.imp fun _ h => h.ag (f0.ag rfl), hSh.ag (f0.ag rfl), hMk.imp fun _ h => h.ag (f0.ag rfl), W, H, K, hLn.ag (f0.ag rfl), hPt.imp fun _ h => h.ag (f0.ag rfl), hPs.imp fun _ h => h.imp fun _ h => h.imp fun _ h => h.ag (f0.ag rfl), hPr.imp fun _ h => h.imp fun _ h => h.imp fun _ h => h.ag (f0.ag rfl), hKp.ag (f0.ag rfl)⟩
  have hN := hLn.1.N36
  rcases ix3 x (W * H) (by omega) with hx | ⟨c, hc, rfl⟩
  · refine ⟨-1, I, L, _, L, ?_, ?_, fin⟩
    · unfold f_GWL_follow
      rw [r_0_2 hR, bnd1_c, t_60, asrt_pos rfl, has_out hLn.1 hx, bnd1_c, ifb_pos rfl]
    · unfold f_Mod_follow
      rw [lt_c, isCell_out (hLn.2.1.ag (f0.ag rfl)) hx, bnd1_c, ifb_pos rfl]
  obtain ⟨q, hq⟩ := id hPt
  obtain ⟨ok, c0, c1, c2, c3, c4, c5, c6⟩ := hq.d
  obtain ⟨m', c', rd, hm, hc', hrd, hI, hJ⟩ := follow_c hg hR hN.2 ok.2.2.2 hc
  obtain ⟨I1, e1, a1, b1, b2, b3⟩ := hI I (fun k hk => (c6 k hk).1)
  have f1 : Fr [(76, none), (3, some 1)] I (wI (wI (wI I1 3 1 0) 3 1 (nI 1)) 3 1 (nI (1 + 1))) := (((a1.sub rfl).w rfl).w rfl).w rfl
  have f2 : Fr [(76, none), (3, some 1), (90, some 0)] I (wI (wI (wI (wI I1 3 1 0) 3 1 (nI 1)) 3 1 (nI (1 + 1))) 90 0 0) := (f1.sub rfl).w rfl
  obtain ⟨J1, e2, a2, d1, d2⟩ := hJ (wI (wI (wI (wI I1 3 1 0) 3 1 (nI 1)) 3 1 (nI (1 + 1))) 90 0 0) (fun k hk => by rw [f2 94 k rfl]; exact (c6 k hk).2)
  have f3 : Fr [(76, none), (3, some 1), (90, some 0), (90, some 37), (90, some 38), (90, some 1)] I (wI (wI (wI J1 90 1 0) 90 1 (nI 1)) 90 1 (nI (1 + 1))) := ((((f2.sub rfl).tr (a2.sub rfl)).w rfl).w rfl).w rfl
  have hM2 : LM W H K (wI (wI (wI (wI I1 3 1 0) 3 1 (nI 1)) 3 1 (nI (1 + 1))) 90 0 0) := hLn.2.1.ag (f2.ag rfl)
  have hM3 : LM W H K (wI (wI J1 90 1 0) 90 1 (nI 1)) := hM2.ag (Fr.ag (l := [(90, some 37), (90, some 38), (90, some 1)]) (((a2.sub rfl).w rfl).w rfl) rfl)
  have hK3 : LKc W H K (wI (wI I1 3 1 0) 3 1 (nI 1)) := hLn.1.ag (Fr.ag (l := [(76, none), (3, some 1)]) (((a1.sub rfl).w rfl).w rfl) rfl)
  have hk4 := hLn.1.2.2.1 c'
  refine ⟨nI c', wI (wI (wI I1 3 1 0) 3 1 (nI 1)) 3 1 (nI (1 + 1)), wL (wL L 4 0 (nI m').toInt64) 4 1 (if rd = 0 then Int32.toInt64 (if K c' = 1 then 1 else if K c' = 3 then 2 else 0) else 3), wI (wI (wI J1 90 1 0) 90 1 (nI 1)) 90 1 (nI (1 + 1)),
    wL (wL (wL (wL L 4 0 (nI m').toInt64) 4 1 (if rd = 0 then Int32.toInt64 (if K c' = 1 then 1 else if K c' = 3 then 2 else 0) else 3)) 91 0 (nI m').toInt64) 91 1 (if rd = 0 then Int32.toInt64 (if K c' = 1 then 1 else if K c' = 3 then 2 else 0) else 3), ?_, ?_, ?_⟩
  · unfold f_GWL_follow f_Numbers_begin
    have ef : ∀ {β : Type} (h : Int64 → Option β), bnd1 (ifb (nI rd = 0) (bnd1 (f_GWL_fate S1 R (wI (wI I1 3 1 0) 3 1 (nI 1)) 0 (nI c')) fun x21 => some (Int32.toInt64 x21)) (some 3)) h = h (if rd = 0 then Int32.toInt64 (if K c' = 1 then 1 else if K c' = 3 then 2 else 0) else 3) := fun h => by
      by_cases e : rd = 0
      · rw [ifb_pos (by rw [e]; rfl), fate_in hK3 hR hc', bnd1_c, bnd1_c, if_pos e]
      · rw [ifb_neg (by rw [nI0, eq32 (by omega) (by omega)]; exact e), bnd1_c, if_neg e]
    rw [r_0_2 hR, bnd1_c, t_60, asrt_pos rfl, has_in hLn.1 hc, bnd1_c, ifb_neg (by decide), r_0_16 hR, bnd1_c, t_76, asrt_pos rfl, e1, bnd1_c, r_0_1 hR, bnd1_c, t_3, asrt_pos rfl, lt_c, bnd1_c, wI_n (by omega), b2, add_0 hR, bnd2_c, wI_n (by omega), wI_n (by omega), b3, wI_n (by omega), wI_n (by omega), b1, ef, add_c hR (k := 1) wI_s (by omega), bnd2_c, wI_n (by omega), wI_n (by omega), wI_n (by omega), b1, lt_c]
  · unfold f_Mod_follow
    have ef : ∀ {β : Type} (h : Int64 → Option β), bnd1 (ifb (nI rd = 0) (bnd1 (R 90 5) fun b16 => asrt ((S1 b16).1 = 20) <| asrt (vp_in (nI c') (S1 b16).2) <| bnd1 (f_Mod_endOf ((wI (wI J1 90 1 0) 90 1 (nI 1)) b16 (Int32.toNatClampNeg (nI c')))) fun x19 => some (Int32.toInt64 x19)) (some 3)) h = h (if rd = 0 then Int32.toInt64 (if K c' = 1 then 1 else if K c' = 3 then 2 else 0) else 3) := fun h => by
      by_cases e : rd = 0
      · rw [ifb_pos (by rw [e]; rfl), r_90_5 hR, bnd1_c, t_92, asrt_pos rfl, asrt_pos (vir (by omega) (by omega)), cl32 (by omega), hM3.2.2.2.2.2 c' hc', endOf_c hk4, bnd1_c, bnd1_c, if_pos e]
      · rw [ifb_neg (by rw [nI0, eq32 (by omega) (by omega)]; exact e), bnd1_c, if_neg e]
    rw [lt_c, isCell_in hM2 hc, bnd1_c, ifb_neg (by decide), e2, bnd2_c, lt_c, wI_n (by omega), d1, enters_0 hR, bnd2_c, wI_n (by omega), wI_n (by omega), d2, ef, enters_c hR (k := 1) wI_s (by omega), bnd2_c]
  · refine ⟨⟨_, _, hR⟩, hTx.imp fun _ h => h.imp fun _ h => h.ag (f3.ag rfl), ?_, hWg.imp fun _ h => h.imp fun _ h => h.ag (f3.ag rfl), hFe.imp fun _ h => h.ag (f3.ag rfl), hSh.ag (f3.ag rfl), hMk.imp fun _ h => h.ag (f3.ag rfl), W, H, K, hLn.ag (f3.ag rfl), hPt.imp fun _ h => h.ag (f3.ag rfl), hPs.imp fun _ h => h.imp fun _ h => h.imp fun _ h => h.ag (f3.ag rfl), hPr.imp fun _ h => h.imp fun _ h => h.imp fun _ h => h.ag (f3.ag rfl), hKp.ag (f3.ag rfl)⟩
    refine ⟨2, fun k => if k = 0 then (nI m').toInt64 else (if rd = 0 then Int32.toInt64 (if K c' = 1 then 1 else if K c' = 3 then 2 else 0) else 3), by omega, ?_, wI_s, fun k hk => ?_⟩
    · rw [wI_n (by omega), wI_n (by omega), wI_n (by omega), a2 3 1 rfl, wI_n (by omega), wI_s]
    · have : k = 0 ∨ k = 1 := by omega
      rcases this with rfl | rfl
      · exact ⟨by simp (disch := omega) only [wL_s, wL_n]; rfl, by simp (disch := omega) only [wL_s, wL_n]; rfl⟩
      · exact ⟨by simp (disch := omega) only [wL_s, wL_n]; rfl, by simp (disch := omega) only [wL_s, wL_n]; rfl⟩
end TL
