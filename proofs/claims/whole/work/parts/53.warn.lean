section WN
variable {W H B n : Nat} {K τ : Nat → Nat} {I I' : MI} {L : ML} {R : MR} {p : Bool} {fe : Nat} {q : Nat → Int32}
/-- how many of the first c there are with P, and the first of them (else -2) -/
noncomputable def cntP (P : Nat → Prop) : Nat → Nat
  | 0 => 0
  | c + 1 => @ite _ (P c) (Classical.propDecidable _) (cntP P c + 1) (cntP P c)
noncomputable def wnF (P : Nat → Prop) : Nat → Int32
  | 0 => -2
  | c + 1 => @ite _ (P c) (Classical.propDecidable _) (if cntP P c = 0 then nI c else wnF P c) (wnF P c)
theorem cntP_le (P : Nat → Prop) : ∀ c, cntP P c ≤ c
  | 0 => Nat.le_refl 0
  | c + 1 => by
    have := cntP_le P c
    unfold cntP
    split <;> omega
theorem cntP_t {P : Nat → Prop} {c : Nat} (h : P c) : cntP P (c + 1) = cntP P c + 1 ∧ wnF P (c + 1) = if cntP P c = 0 then nI c else wnF P c := by
  constructor
  · rw [cntP, if_pos h]
  · rw [wnF, if_pos h]
theorem cntP_f {P : Nat → Prop} {c : Nat} (h : ¬ P c) : cntP P (c + 1) = cntP P c ∧ wnF P (c + 1) = wnF P c := by
  constructor
  · rw [cntP, if_neg h]
  · rw [wnF, if_neg h]
theorem wnF_0 {P : Nat → Prop} : ∀ c, cntP P c = 0 → wnF P c = -2
  | 0, _ => rfl
  | c + 1, h => by
    by_cases hp : P c
    · have := (cntP_t hp).1; omega
    · rw [(cntP_f hp).2]
      exact wnF_0 c (by have := (cntP_f hp).1; omega)
/-- from cell c there is a way home, by some heading -/
def hasW (W H : Nat) (K : Nat → Nat) (c : Nat) : Prop := ∃ h, h < 4 ∧ ∃ d, rch W H K d (4 * c + h)
theorem hasW_c {g : Nat} (hg : 1000 ≤ g) (hN : W * H ≤ 36) (hR : RG p fe R) (hH : ∀ x, x < 144 → HW W H K x (I 63 x)) {c : Nat} (hc : c < W * H) : (hasW W H K c ∧ f_Land_hasWayFrom g S1 R I 60 (nI c) = some 1) ∨ (¬ hasW W H K c ∧ f_Land_hasWayFrom g S1 R I 60 (nI c) = some 0) := by
  have lp : ∀ (f h : Nat), h ≤ 4 → 4 < h + f → ((∃ h', h ≤ h' ∧ h' < 4 ∧ ∃ d, rch W H K d (4 * c + h')) ∧ l_Land_hasWayFrom_2 S1 R I 60 (nI c) f (nI h) = some 1) ∨ ((¬ ∃ h', h ≤ h' ∧ h' < 4 ∧ ∃ d, rch W H K d (4 * c + h')) ∧ l_Land_hasWayFrom_2 S1 R I 60 (nI c) f (nI h) = some 0) := by
    intro f
    induction f with
    | zero => intro h h1 h2; omega
    | succ f ih =>
      intro h h1 h2
      rw [l_Land_hasWayFrom_2, show (4 : Int32) = nI 4 from rfl]
      by_cases e : h = 4
      · subst e
        exact Or.inr ⟨fun ⟨h', a, b, _⟩ => by omega, by rw [ifb_pos (by decide)]⟩
      · rw [ifb_neg (by rw [le32 (by omega) (by omega)]; omega), pk_mul, nI_add, Nat.mul_comm c 4, stepsHome_c hR (by omega), bnd1_c, nI_1]
        have hm := HW_m1 (hH (4 * c + h) (by omega))
        by_cases e2 : I 63 (4 * c + h) = -1
        · rw [ifb_pos e2]
          have hno := hm.mp e2
          rcases ih (h + 1) (by omega) (by omega) with ⟨⟨h', a, b, d⟩, z⟩ | ⟨a, z⟩
          · exact Or.inl ⟨⟨h', by omega, b, d⟩, z⟩
          · refine Or.inr ⟨fun ⟨h', a1, b1, d1⟩ => ?_, z⟩
            by_cases e3 : h' = h
            · subst e3
              obtain ⟨d, hd⟩ := d1
              exact hno d hd
            · exact a ⟨h', by omega, b1, d1⟩
        · rw [ifb_neg e2]
          refine Or.inl ⟨⟨h, Nat.le_refl _, by omega, ?_⟩, rfl⟩
          exact Classical.byContradiction fun hn => e2 (hm.mpr fun d hd => hn ⟨d, hd⟩)
  unfold f_Land_hasWayFrom
  rcases lp g 0 (by omega) (by omega) with ⟨⟨h', -, b, d⟩, z⟩ | ⟨a, z⟩
  · exact Or.inl ⟨⟨h', b, d⟩, z⟩
  · exact Or.inr ⟨fun ⟨h', b, d⟩ => a ⟨h', by omega, b, d⟩, z⟩
theorem hasWm_c {g : Nat} (hg : 1000 ≤ g) (hN : W * H ≤ 36) (hR : RG p fe R) (hF : ∀ x, x < 4 * (W * H) → FWy W H K x (I 100 x)) {c : Nat} (hc : c < W * H) (a1 a2 a4 : Int32) : (hasW W H K c ∧ l_Mod_warned_70 S1 R I 90 a1 a2 (nI c) a4 g 0 0 = some 1) ∨ (¬ hasW W H K c ∧ l_Mod_warned_70 S1 R I 90 a1 a2 (nI c) a4 g 0 0 = some 0) := by
  have one : ∀ (f h : Nat), h ≤ 4 → 4 < h + f → l_Mod_warned_70 S1 R I 90 a1 a2 (nI c) a4 f 1 (nI h) = some 1 := by
    intro f
    induction f with
    | zero => intro h h1 h2; omega
    | succ f ih =>
      intro h h1 h2
      rw [l_Mod_warned_70, show (4 : Int32) = nI 4 from rfl]
      by_cases e : h = 4
      · subst e
        rw [ifb_pos (by decide)]
      · rw [ifb_neg (by rw [le32 (by omega) (by omega)]; omega), ifb_neg (show ¬ (1 : Int32) = 0 by decide), bnd1_c, nI_1]
        exact ih (h + 1) (by omega) (by omega)
  have lp : ∀ (f h : Nat), h ≤ 4 → 4 < h + f → ((∃ h', h ≤ h' ∧ h' < 4 ∧ ∃ d, rch W H K d (4 * c + h')) ∧ l_Mod_warned_70 S1 R I 90 a1 a2 (nI c) a4 f 0 (nI h) = some 1) ∨ ((¬ ∃ h', h ≤ h' ∧ h' < 4 ∧ ∃ d, rch W H K d (4 * c + h')) ∧ l_Mod_warned_70 S1 R I 90 a1 a2 (nI c) a4 f 0 (nI h) = some 0) := by
    intro f
    induction f with
    | zero => intro h h1 h2; omega
    | succ f ih =>
      intro h h1 h2
      rw [l_Mod_warned_70, show (4 : Int32) = nI 4 from rfl]
      by_cases e : h = 4
      · subst e
        exact Or.inr ⟨fun ⟨h', a, b, _⟩ => by omega, by rw [ifb_pos (by decide)]⟩
      · rw [ifb_neg (by rw [le32 (by omega) (by omega)]; omega), ifb_pos rfl, r_90_25 hR, bnd1_c, pk_mul, nI_add, lt_c, t_100, asrt_pos rfl, asrt_pos (vir (by omega) (by omega)), cl32 (by omega), nI_1, show (1000000 : Int32) = nI 1000000 from rfl]
        rcases hF (4 * c + h) (by omega) with ⟨d, hd, hD, ev⟩ | ⟨hno, ev⟩
        · rw [ev, ifb_neg (by rw [le32 (by omega) (by omega)]; omega), bnd1_c]
          exact Or.inl ⟨⟨h, Nat.le_refl _, by omega, d, hD.1⟩, one f (h + 1) (by omega) (by omega)⟩
        · rw [ev, ifb_pos (by rw [le32 (by omega) (by omega)]; omega), bnd1_c]
          rcases ih (h + 1) (by omega) (by omega) with ⟨⟨h', a, b, d⟩, z⟩ | ⟨a, z⟩
          · exact Or.inl ⟨⟨h', by omega, b, d⟩, z⟩
          · refine Or.inr ⟨fun ⟨h', a1, b1, d1⟩ => ?_, z⟩
            by_cases e3 : h' = h
            · subst e3
              obtain ⟨d, hd⟩ := d1
              exact hno d hd
            · exact a ⟨h', by omega, b1, d1⟩
  rcases lp g 0 (by omega) (by omega) with ⟨⟨h', -, b, d⟩, z⟩ | ⟨a, z⟩
  · exact Or.inl ⟨⟨h', b, d⟩, z⟩
  · exact Or.inr ⟨fun ⟨h', b, d⟩ => a ⟨h', by omega, b, d⟩, z⟩
/-- where a follower from c ends, and whether it comes round: what both are said to do -/
def FlS (g W H : Nat) (R : MR) (q : Nat → Int32) (c c' rd : Nat) : Prop := c' < W * H ∧ rd ≤ 1 ∧
    (∀ I : MI, (∀ k, k < 36 → I 65 k = q (7 + k)) → ∃ I', f_Trail_runFrom g S1 R I 76 (nI c) = some I' ∧ Fr [(76, some 2), (76, some 3), (76, some 4)] I I' ∧ I' 76 2 = nI c' ∧ I' 76 4 = nI rd) ∧
    ∀ J : MI, (∀ k, k < 36 → J 94 k = q (7 + k)) → ∃ J', f_Mod_followed g S1 R J 90 (nI c) = some (nI c', J') ∧ Fr [(90, some 37), (90, some 38)] J J' ∧ J' 90 38 = nI rd
def bad (W H : Nat) (K : Nat → Nat) (q : Nat → Int32) (ce rd : Nat → Nat) (c : Nat) : Prop := q (7 + c) ≠ -1 ∧ (rd c = 1 ∨ K (ce c) = 1) ∧ hasW W H K c
theorem warned_l {g : Nat} (hg : 1000 ≤ g) (hR : RG p fe R) {ce rd : Nat → Nat} (hfl : ∀ c, c < W * H → FlS g W H R q c (ce c) (rd c)) : ∀ (f c : Nat) (I : MI), LKc W H K I → (∀ k, k < 36 → I 65 k = q (7 + k)) → (∀ x, x < 144 → HW W H K x (I 63 x)) → c ≤ W * H → W * H < c + f →
    wpo (l_GWL_warned_14 g S1 R 0 f I (wnF (bad W H K q ce rd) c) (nI (cntP (bad W H K q ce rd) c)) (nI c)) (fun r => r.1 = wnF (bad W H K q ce rd) (W * H) ∧ r.2.1 = nI (cntP (bad W H K q ce rd) (W * H)) ∧ Fr [(76, none)] I r.2.2) := by
  intro f
  induction f with
  | zero => intro c I _ _ _ h1 h2; omega
  | succ f ih =>
    intro c I hL hT hH h1 h2
    have hN := hL.N36
    have hle := cntP_le (bad W H K q ce rd) c
    rw [l_GWL_warned_14]
    unfold f_Land_size
    rw [r_0_2 hR, bnd1_c, t_60, asrt_pos rfl, hL.2.2.2.1, hL.2.2.2.2.1, pk_mul, lt_c, bnd1_c]
    by_cases e : c = W * H
    · rw [ifb_pos (by rw [le32 (by omega) (by omega)]; omega), e]
      exact ⟨_, rfl, rfl, rfl, Fr.rf⟩
    · have hc : c < W * H := by omega
      rw [ifb_neg (by rw [le32 (by omega) (by omega)]; omega), r_0_3 hR, bnd1_c, t_64, asrt_pos rfl, trackFrom_c hR (by omega), hT c (by omega), bnd1_c, nI_1, nI_1]
      have go : ∀ (J : MI), Fr [(76, none)] I J → wpo (l_GWL_warned_14 g S1 R 0 f J (wnF (bad W H K q ce rd) (c + 1)) (nI (cntP (bad W H K q ce rd) (c + 1))) (nI (c + 1))) (fun r => r.1 = wnF (bad W H K q ce rd) (W * H) ∧ r.2.1 = nI (cntP (bad W H K q ce rd) (W * H)) ∧ Fr [(76, none)] I r.2.2) := fun J fJ => by
        refine wpo_mono (ih (c + 1) J (hL.ag (fJ.ag rfl)) (fun k hk => (fJ 65 k rfl).trans (hT k hk)) (fun x hx => by rw [fJ 63 x rfl]; exact hH x hx) (by omega) (by omega)) ?_
        rintro r ⟨a, b, d⟩
        exact ⟨a, b, fJ.tr d⟩
      by_cases et : q (7 + c) = -1
      · have hb : ¬ bad W H K q ce rd c := fun z => z.1 et
        rw [ifb_pos et, bnd3_c]
        have := go I Fr.rf
        rw [(cntP_f hb).1, (cntP_f hb).2] at this
        exact this
      · rw [ifb_neg et, r_0_16 hR, bnd1_c, t_76, asrt_pos rfl]
        obtain ⟨fc, frd, fI, -⟩ := hfl c hc
        obtain ⟨J, eJ, fJ, j2, j4⟩ := fI I hT
        have fJ' : Fr [(76, none)] I J := fJ.sub rfl
        have hLJ := hL.ag (fJ'.ag rfl)
        have hk4 := hL.2.2.1 (ce c)
        have emis : f_Trail_misleads g S1 R I 76 (nI c) = some (if rd c = 1 ∨ K (ce c) = 1 then 1 else 0, J) := by
          unfold f_Trail_misleads
          rw [eJ, bnd1_c, j4, j2, r_76_0 hR, bnd1_c, t_60, asrt_pos rfl, kindOf_in hLJ hR fc, bnd1_c]
          have h01 : rd c = 0 ∨ rd c = 1 := by omega
          rcases h01 with h0 | h1
          · rw [h0, ifb_pos (by decide)]
            by_cases hk : K (ce c) = 1
            · rw [ifb_pos (by rw [hk]; rfl), bnd1_c, asrt_pos (Or.inr rfl), if_pos (Or.inr hk)]
            · rw [ifb_neg (by rw [show (1 : Int32) = nI 1 from rfl, eq32 (by omega) (by omega)]; exact hk), bnd1_c, asrt_pos (Or.inl rfl), if_neg (by omega)]
          · rw [h1, ifb_neg (by decide), bnd1_c, asrt_pos (Or.inr rfl), if_pos (Or.inl rfl)]
        rw [emis, bnd2_c]
        by_cases hm : rd c = 1 ∨ K (ce c) = 1
        · rw [if_pos hm, ifb_neg (show ¬ (1 : Int32) = 0 by decide)]
          rcases hasW_c hg hN.2 hR (I := J) (fun x hx => by rw [fJ' 63 x rfl]; exact hH x hx) hc with ⟨hw, ew⟩ | ⟨hw, ew⟩
          · have hb : bad W H K q ce rd c := ⟨et, hm, hw⟩
            rw [ew, bnd1_c, ifb_neg (show ¬ (1 : Int32) = 0 by decide)]
            have e3 : ∀ {β : Type} (gg : Int32 → Option β), bnd1 (ifb (nI (cntP (bad W H K q ce rd) c) = 0) (some (nI c)) (some (wnF (bad W H K q ce rd) c))) gg = gg (wnF (bad W H K q ce rd) (c + 1)) := fun gg => by
              rw [(cntP_t hb).2]
              by_cases h0 : cntP (bad W H K q ce rd) c = 0
              · rw [ifb_pos (by rw [h0]; rfl), if_pos h0]; rfl
              · rw [ifb_neg (by rw [nI0, eq32 (by omega) (by omega)]; exact h0), if_neg h0]; rfl
            rw [e3, bnd3_c]
            have := go J fJ'
            rw [(cntP_t hb).1] at this
            exact this
          · have hb : ¬ bad W H K q ce rd c := fun z => hw z.2.2
            rw [ew, bnd1_c, ifb_pos rfl, bnd3_c]
            have := go J fJ'
            rw [(cntP_f hb).1, (cntP_f hb).2] at this
            exact this
        · have hb : ¬ bad W H K q ce rd c := fun z => hm z.2.1
          rw [if_neg hm, ifb_pos rfl, bnd3_c]
          have := go J fJ'
          rw [(cntP_f hb).1, (cntP_f hb).2] at this
          exact this
theorem warnedm_l {g : Nat} (hg : 1000 ≤ g) (hR : RG p fe R) (hq : ∀ k, k < 36 → q (7 + k) = -1 ∨ ∃ j, j < W * H ∧ q (7 + k) = nI j) {ce rd : Nat → Nat} (hfl : ∀ c, c < W * H → FlS g W H R q c (ce c) (rd c)) : ∀ (f c : Nat) (I : MI), LM W H K I → (∀ k, k < 36 → I 94 k = q (7 + k)) → (∀ x, x < 4 * (W * H) → FWy W H K x (I 100 x)) → c ≤ W * H → W * H < c + f →
    wpo (l_Mod_warned_16 g S1 R 90 f I (wnF (bad W H K q ce rd) c) (nI (cntP (bad W H K q ce rd) c)) (nI c)) (fun r => r.1 = wnF (bad W H K q ce rd) (W * H) ∧ r.2.1 = nI (cntP (bad W H K q ce rd) (W * H)) ∧ Fr [(90, some 37), (90, some 38)] I r.2.2) := by
  intro f
  induction f with
  | zero => intro c I _ _ _ h1 h2; omega
  | succ f ih =>
    intro c I hM hT hF h1 h2
    have hN := hM.N36
    have hle := cntP_le (bad W H K q ce rd) c
    rw [l_Mod_warned_16]
    unfold f_Mod_cells
    rw [hM.2.2.2.1, hM.2.2.2.2.1, pk_mul, lt_c, bnd1_c]
    by_cases e : c = W * H
    · rw [ifb_pos (by rw [le32 (by omega) (by omega)]; omega), e]
      exact ⟨_, rfl, rfl, rfl, Fr.rf⟩
    · have hc : c < W * H := by omega
      rw [ifb_neg (by rw [le32 (by omega) (by omega)]; omega), r_90_15 hR, bnd1_c, t_94, asrt_pos rfl, asrt_pos (vir (by omega) (by omega)), cl32 (by omega), hT c (by omega), nI_1, nI_1]
      have go : ∀ (J : MI), Fr [(90, some 37), (90, some 38)] I J → wpo (l_Mod_warned_16 g S1 R 90 f J (wnF (bad W H K q ce rd) (c + 1)) (nI (cntP (bad W H K q ce rd) (c + 1))) (nI (c + 1))) (fun r => r.1 = wnF (bad W H K q ce rd) (W * H) ∧ r.2.1 = nI (cntP (bad W H K q ce rd) (W * H)) ∧ Fr [(90, some 37), (90, some 38)] I r.2.2) := fun J fJ => by
        refine wpo_mono (ih (c + 1) J (hM.ag (fJ.ag rfl)) (fun k hk => (fJ 94 k rfl).trans (hT k hk)) (fun x hx => by rw [fJ 100 x rfl]; exact hF x hx) (by omega) (by omega)) ?_
        rintro r ⟨a, b, d⟩
        exact ⟨a, b, fJ.tr d⟩
      rcases hq c (by omega) with et | ⟨j, hj, et⟩
      · have hb : ¬ bad W H K q ce rd c := fun z => z.1 et
        rw [et, ifb_neg (by decide), bnd3_c]
        have := go I Fr.rf
        rw [(cntP_f hb).1, (cntP_f hb).2] at this
        exact this
      · rw [et, ifb_pos (by rw [nI0, le32 (by omega) (by omega)]; omega), r_90_5 hR, bnd1_c]
        have et' : q (7 + c) ≠ -1 := by rw [et]; exact nIm1 (by omega)
        obtain ⟨fc, frd, -, fJ⟩ := hfl c hc
        obtain ⟨J, eJ, fJ, j4⟩ := fJ I hT
        have hMJ := hM.ag (fJ.ag rfl)
        have hk4 := hM.2.2.1 (ce c)
        rw [eJ, bnd2_c, t_92, asrt_pos rfl, asrt_pos (vir (by omega) (by omega)), cl32 (by omega), hMJ.2.2.2.2.2 _ fc, j4]
        have emis : ∀ {β : Type} (gg : Int32 → Option β), bnd1 (ifb (nI (K (ce c)) = 1) (some (1 : Int32)) (ifb (nI (rd c) = 0) (some 0) (some 1))) gg = gg (if rd c = 1 ∨ K (ce c) = 1 then 1 else 0) := fun gg => by
          by_cases hk : K (ce c) = 1
          · rw [ifb_pos (by rw [hk]; rfl), if_pos (Or.inr hk)]; rfl
          · rw [ifb_neg (by rw [show (1 : Int32) = nI 1 from rfl, eq32 (by omega) (by omega)]; exact hk)]
            by_cases h0 : rd c = 0
            · rw [ifb_pos (by rw [h0]; rfl), if_neg (by omega)]; rfl
            · rw [ifb_neg (by rw [nI0, eq32 (by omega) (by omega)]; exact h0), if_pos (by omega)]; rfl
        rw [emis]
        by_cases hm : rd c = 1 ∨ K (ce c) = 1
        · rw [if_pos hm]
          rcases hasWm_c hg hN.2 hR (I := J) (fun x hx => by rw [fJ 100 x rfl]; exact hF x hx) hc (wnF (bad W H K q ce rd) c) (nI (cntP (bad W H K q ce rd) c)) 1 with ⟨hw, ew⟩ | ⟨hw, ew⟩
          · have hb : bad W H K q ce rd c := ⟨et', hm, hw⟩
            rw [ew, bnd1_c, ifb_neg (show ¬ (1 : Int32) = 0 by decide), ifb_neg (show ¬ (1 : Int32) = 0 by decide)]
            have e3 : ∀ {β : Type} (gg : Int32 → Option β), bnd1 (ifb (nI (cntP (bad W H K q ce rd) c) = 0) (some (nI c)) (some (wnF (bad W H K q ce rd) c))) gg = gg (wnF (bad W H K q ce rd) (c + 1)) := fun gg => by
              rw [(cntP_t hb).2]
              by_cases h0 : cntP (bad W H K q ce rd) c = 0
              · rw [ifb_pos (by rw [h0]; rfl), if_pos h0]; rfl
              · rw [ifb_neg (by rw [nI0, eq32 (by omega) (by omega)]; exact h0), if_neg h0]; rfl
            rw [e3, bnd3_c]
            have := go J fJ
            rw [(cntP_t hb).1] at this
            exact this
          · have hb : ¬ bad W H K q ce rd c := fun z => hw z.2.2
            rw [ew, bnd1_c, ifb_neg (show ¬ (1 : Int32) = 0 by decide), ifb_pos rfl, bnd3_c]
            have := go J fJ
            rw [(cntP_f hb).1, (cntP_f hb).2] at this
            exact this
        · have hb : ¬ bad W H K q ce rd c := fun z => hm z.2.1
          rw [if_neg hm]
          rcases hasWm_c hg hN.2 hR (I := J) (fun x hx => by rw [fJ 100 x rfl]; exact hF x hx) hc (wnF (bad W H K q ce rd) c) (nI (cntP (bad W H K q ce rd) c)) 0 with ⟨-, ew⟩ | ⟨-, ew⟩
          all_goals
            rw [ew, bnd1_c, ifb_pos rfl, bnd3_c]
            have := go J fJ
            rw [(cntP_f hb).1, (cntP_f hb).2] at this
            exact this
theorem op_warned {g : Nat} (hg : 1000000000 ≤ g) (hC : Cp B I L R) : ∃ v I1 L1 I2 L2, f_GWL_warned g S1 R I L 0 = some (v, I1, L1) ∧ f_Mod_warned g S1 R I1 L1 90 = some (v, I2, L2) ∧ Cp (B + 1) I2 L2 R := by
  obtain ⟨⟨p, fe, hR⟩, hTx, hRw, hWg, hFe, hSh, hMk, W, H, K, hLn, hPt, hPs, hPr, hKp⟩ := hC
  obtain ⟨q, hq⟩ := id hPt
  obtain ⟨ok, -, -, -, -, -, -, c6⟩ := hq.d
  have hN := hLn.1.N36
  have hg' : 1000 ≤ g := by omega
  obtain ⟨ce, hce⟩ : ∃ ce : Nat → Nat × Nat, ∀ c, c < W * H → FlS g W H R q c (ce c).1 (ce c).2 := by
    have hx : ∀ c, ∃ y : Nat × Nat, c < W * H → FlS g W H R q c y.1 y.2 := fun c => by
      by_cases hc : c < W * H
      · obtain ⟨m', c', rd, -, a, b, x, y⟩ := follow_c hg' hR hN.2 ok.2.2.2 hc
        refine ⟨(c', rd), fun _ => ⟨a, b, fun I hI => ?_, fun J hJ => ?_⟩⟩
        · obtain ⟨I', z1, z2, z3, -, z5⟩ := x I hI
          exact ⟨I', z1, z2, z3, z5⟩
        · obtain ⟨J', z1, z2, -, z4⟩ := y J hJ
          exact ⟨J', z1, z2, z4⟩
      · exact ⟨(0, 0), fun z => absurd z hc⟩
    exact Classical.skolem.mp hx
  obtain ⟨I1, e1, a1, m1, d1⟩ := measure_c hg' hR hLn.1 hLn.2.2.1 hLn.2.2.2
  have hL1 : Lnd W H K I1 := ⟨hLn.1.ag (a1.ag rfl), hLn.2.1.ag (a1.ag rfl), hLn.2.2.1.ag (a1.ag rfl), Or.inr ⟨m1, d1⟩⟩
  have hb : ∀ s, s < 4 * (W * H) → (∃ d, d ≤ 144 ∧ DH W H K s d) ∨ ∀ d, ¬ rch W H K d s := fun s hs => HW_b (d1 s (by omega))
  obtain ⟨⟨v1, v2, I2⟩, e2, a2, a3, a4⟩ := warned_l (q := q) (K := K) (ce := fun c => (ce c).1) (rd := fun c => (ce c).2) hg' hR hce g 0 I1 hL1.1 (fun k hk => (a1 65 k rfl).trans (c6 k hk).1) d1 (by omega) (by omega)
  simp only at a2 a3 a4
  have e2' : l_GWL_warned_14 g S1 R 0 g I1 (-2) 0 0 = some (v1, v2, I2) := e2
  have hle := cntP_le (bad W H K q (fun c => (ce c).1) (fun c => (ce c).2)) (W * H)
  generalize hP : bad W H K q (fun c => (ce c).1) (fun c => (ce c).2) = P at *
  by_cases h0 : cntP P (W * H) = 0
  · have hv1 : v1 = -2 := by rw [a2]; exact wnF_0 _ h0
    have f2 : Fr [(63, none), (60, some 5), (76, none), (90, some 0)] I (wI I2 90 0 0) := ((a1.sub rfl).tr (a4.sub rfl)).w rfl
    obtain ⟨I3, e3, a5, d3⟩ := measures_c hg hR (I := wI I2 90 0 0) (hLn.2.1.ag (f2.ag rfl)) hb
    have f3 : Fr [(63, none), (60, some 5), (76, none), (90, some 0), (100, none)] I I3 := (f2.sub rfl).tr (a5.sub rfl)
    obtain ⟨⟨w1, w2, I4⟩, e4, b2, b3, b4⟩ := warnedm_l (q := q) (K := K) (ce := fun c => (ce c).1) (rd := fun c => (ce c).2) hg' hR ok.2.2.2 hce g 0 I3 (hLn.2.1.ag (f3.ag rfl)) (fun k hk => (f3 94 k rfl).trans (c6 k hk).2) d3 (by omega) (by omega)
    simp only at b2 b3 b4
    rw [hP] at b2 b3
    have e4' : l_Mod_warned_16 g S1 R 90 g I3 (-2) 0 0 = some (w1, w2, I4) := e4
    have f4 : Fr [(63, none), (60, some 5), (76, none), (90, some 0), (100, none), (90, some 37), (90, some 38)] I I4 := (f3.sub rfl).tr (b4.sub rfl)
    have f14 : Fr [(76, none), (90, some 0), (100, none), (90, some 37), (90, some 38)] I1 I4 := ((((a4.sub rfl).w rfl).tr (a5.sub rfl))).tr (b4.sub rfl)
    refine ⟨-2, I2, L, I4, L, ?_, ?_, ?_⟩
    · unfold f_GWL_warned
      rw [r_0_2 hR, bnd1_c, t_60, asrt_pos rfl, e1, bnd1_c, e2', bnd3_c, a3, h0, ifb_pos (by decide), bnd2_c, hv1]
    · unfold f_Mod_warned
      rw [lt_c, e3, bnd1_c, e4', bnd3_c, b3, h0, ifb_pos (by decide)]
    · refine ⟨⟨_, _, hR⟩, hTx.imp fun _ h => h.imp fun _ h => h.ag (f4.ag rfl), hRw.imp fun _ h => h.imp fun _ h => h.ag (f4.ag rfl) (fun _ _ _ => rfl), hWg.imp fun _ h => h.imp fun _ h => h.ag (f4.ag rfl), hFe.imp fun _ h => h.ag (f4.ag rfl), hSh.ag (f4.ag rfl), hMk.imp fun _ h => h.ag (f4.ag rfl), W, H, K, ?_, hPt.imp fun _ h => h.ag (f4.ag rfl), hPs.imp fun _ h => h.imp fun _ h => h.imp fun _ h => h.ag (f4.ag rfl), hPr.imp fun _ h => h.imp fun _ h => h.imp fun _ h => h.ag (f4.ag rfl), hKp.ag (f4.ag rfl)⟩
      exact hL1.ag (f14.ag rfl)
  · have f2 : Fr [(63, none), (60, some 5), (76, none), (3, some 1), (90, some 0)] I (wI (wI (wI I2 3 1 0) 3 1 (nI 1)) 90 0 0) := ((((a1.sub rfl).tr (a4.sub rfl)).w rfl).w rfl).w rfl
    obtain ⟨I3, e3, a5, d3⟩ := measures_c hg hR (I := wI (wI (wI I2 3 1 0) 3 1 (nI 1)) 90 0 0) (hLn.2.1.ag (f2.ag rfl)) hb
    have f3 : Fr [(63, none), (60, some 5), (76, none), (3, some 1), (90, some 0), (100, none)] I I3 := (f2.sub rfl).tr (a5.sub rfl)
    obtain ⟨⟨w1, w2, I4⟩, e4, b2, b3, b4⟩ := warnedm_l (q := q) (K := K) (ce := fun c => (ce c).1) (rd := fun c => (ce c).2) hg' hR ok.2.2.2 hce g 0 I3 (hLn.2.1.ag (f3.ag rfl)) (fun k hk => (f3 94 k rfl).trans (c6 k hk).2) d3 (by omega) (by omega)
    simp only at b2 b3 b4
    rw [hP] at b2 b3
    have e4' : l_Mod_warned_16 g S1 R 90 g I3 (-2) 0 0 = some (w1, w2, I4) := e4
    have f4 : Fr [(63, none), (60, some 5), (76, none), (3, some 1), (90, some 0), (100, none), (90, some 37), (90, some 38), (90, some 1)] I (wI (wI I4 90 1 0) 90 1 (nI 1)) := (((f3.sub rfl).tr (b4.sub rfl)).w rfl).w rfl
    have f14 : Fr [(76, none), (3, some 1), (90, some 0), (100, none), (90, some 37), (90, some 38), (90, some 1)] I1 (wI (wI I4 90 1 0) 90 1 (nI 1)) := (((((((a4.sub rfl).w rfl).w rfl).w rfl).tr (a5.sub rfl))).tr (b4.sub rfl)).w rfl |>.w rfl
    have f34 : Fr [(90, none), (100, none)] (wI (wI I2 3 1 0) 3 1 (nI 1)) (wI (wI I4 90 1 0) 90 1 (nI 1)) := ((((Fr.w Fr.rf rfl).tr (a5.sub rfl)).tr (b4.sub rfl)).w rfl).w rfl
    refine ⟨v1, wI (wI I2 3 1 0) 3 1 (nI 1), wL L 4 0 (nI (cntP P (W * H))).toInt64, wI (wI I4 90 1 0) 90 1 (nI 1), wL (wL L 4 0 (nI (cntP P (W * H))).toInt64) 91 0 (nI (cntP P (W * H))).toInt64, ?_, ?_, ?_⟩
    · unfold f_GWL_warned f_Numbers_begin
      rw [r_0_2 hR, bnd1_c, t_60, asrt_pos rfl, e1, bnd1_c, e2', bnd3_c, a3, ifb_neg (by rw [nI0, le32 (by omega) (by omega)]; omega), r_0_1 hR, bnd1_c, t_3, asrt_pos rfl, lt_c, bnd1_c, add_0 hR, bnd2_c, bnd2_c]
    · unfold f_Mod_warned
      rw [lt_c, e3, bnd1_c, e4', bnd3_c, b3, ifb_neg (by rw [nI0, eq32 (by omega) (by omega)]; exact h0), lt_c, enters_0 hR, bnd2_c, a2, b2]
    · refine ⟨⟨_, _, hR⟩, hTx.imp fun _ h => h.imp fun _ h => h.ag (f4.ag rfl), ?_, hWg.imp fun _ h => h.imp fun _ h => h.ag (f4.ag rfl), hFe.imp fun _ h => h.ag (f4.ag rfl), hSh.ag (f4.ag rfl), hMk.imp fun _ h => h.ag (f4.ag rfl), W, H, K, ?_, hPt.imp fun _ h => h.ag (f4.ag rfl), hPs.imp fun _ h => h.imp fun _ h => h.imp fun _ h => h.ag (f4.ag rfl), hPr.imp fun _ h => h.imp fun _ h => h.imp fun _ h => h.ag (f4.ag rfl), hKp.ag (f4.ag rfl)⟩
      · refine ⟨1, fun _ => (nI (cntP P (W * H))).toInt64, by omega, ?_, wI_s, fun k hk => ?_⟩
        · rw [f34 3 1 rfl, wI_s]
        · have : k = 0 := by omega
          subst this
          exact ⟨by rw [wL_n (by omega), wL_s], wL_s⟩
      · exact hL1.ag (f14.ag rfl)
end WN
