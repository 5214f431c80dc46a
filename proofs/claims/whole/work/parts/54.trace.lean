section TC
variable {W H B n : Nat} {K τ z w : Nat → Nat} {I I' : MI} {L : ML} {R : MR} {p : Bool} {fe : Nat} {q : Nat → Int32}
def tq (h t : Nat) : Nat := (h + t + 3) % 4
theorem tq_lt (h t : Nat) : tq h t < 4 := Nat.mod_lt _ (by decide)
theorem hd3_tq {c h t : Nat} (hh : h < 4) : hd3 (4 * c + h) t = tq h t := by
  unfold hd3 tq
  omega
/-- print k can lead on to print k + 1 by a turn, from a heading -/
def ldp (W H : Nat) (K z : Nat → Nat) (k h t : Nat) : Prop := isE (K (z k)) = false ∧ nxt W H K (z k) (tq h t) = z (k + 1)
/-- whether the turn is then a false call -/
noncomputable def lie (W H : Nat) (K w z : Nat → Nat) (k h t : Nat) : Nat := @ite _ (w t = 0 ∧ ¬ ∃ d, DH W H K (4 * z k + h) (d + 1) ∧ DH W H K (aft W H K (4 * z k + h) t) d) (Classical.propDecidable _) 1 0
theorem lie_le {k h t : Nat} : lie W H K w z k h t ≤ 1 := by
  unfold lie
  split <;> omega
def minN (f : Nat → Nat) : Nat → Nat
  | 0 => 1000000
  | t + 1 => min (minN f t) (f t)
theorem minN_le (f : Nat → Nat) : ∀ t, minN f t ≤ 1000000
  | 0 => Nat.le_refl _
  | t + 1 => by
    have := minN_le f t
    unfold minN
    omega
/-- in how many rows it can go on over r more prints; with how few false calls (lm: what counts as one) -/
noncomputable def WY (W H : Nat) (K z : Nat → Nat) (n : Nat) : Nat → Nat → Nat
  | 0, _ => 1
  | r + 1, h => sumN (fun t => @ite _ (ldp W H K z (n - 2 - r) h t) (Classical.propDecidable _) (WY W H K z n r (tq h t)) 0) 3
noncomputable def LY (W H : Nat) (K z : Nat → Nat) (lm : Nat → Nat → Nat → Nat) (n : Nat) : Nat → Nat → Nat
  | 0, _ => 0
  | r + 1, h => minN (fun t => @ite _ (ldp W H K z (n - 2 - r) h t) (Classical.propDecidable _) (lm (n - 2 - r) h t + LY W H K z lm n r (tq h t)) 1000000) 3
theorem WY_le {r h : Nat} : WY W H K z n r h ≤ 3 ^ r := by
  induction r generalizing h with
  | zero => exact Nat.le_refl _
  | succ r ih =>
    rw [WY, Nat.pow_succ]
    have := sumN_le (F := fun t => @ite _ (ldp W H K z (n - 2 - r) h t) (Classical.propDecidable _) (WY W H K z n r (tq h t)) 0) (c := 3 ^ r) 3 (fun t _ => by
      show @ite Nat (ldp W H K z (n - 2 - r) h t) (Classical.propDecidable _) (WY W H K z n r (tq h t)) 0 ≤ _
      by_cases hl : ldp W H K z (n - 2 - r) h t
      · rw [if_pos hl]; exact ih
      · rw [if_neg hl]; exact Nat.zero_le _)
    omega
theorem WY_lt {r h : Nat} (hr : r ≤ 11) : WY W H K z n r h < 200000 := by
  have h1 := @WY_le W H n K z r h
  have h2 : 3 ^ r ≤ 3 ^ 11 := Nat.pow_le_pow_right (by decide) hr
  have : (3 : Nat) ^ 11 = 177147 := by decide
  omega
theorem LY_le {lm : Nat → Nat → Nat → Nat} {r h : Nat} : LY W H K z lm n r h ≤ 1000000 := by
  cases r with
  | zero => rw [LY]; omega
  | succ r => rw [LY]; exact minN_le _ _
/-- how the class writes it -/
def enc (m : Nat) : Int32 := if m < 1000000 then nI m else -1
theorem enc_m1 {m : Nat} : enc m = -1 ↔ 1000000 ≤ m := by
  unfold enc
  by_cases h : m < 1000000
  · rw [if_pos h]; exact ⟨fun e => absurd e (nIm1 (by omega)), fun z => by omega⟩
  · rw [if_neg h]; exact ⟨fun _ => by omega, fun _ => rfl⟩
/-- what both need of the prints -/
def PrC (W H n : Nat) (z : Nat → Nat) (I : MI) : Prop := n ≤ 12 ∧ I 77 6 = nI n ∧ ∀ k, k < n → z k < W * H ∧ I 78 k = nI (z k)
def PrM (W H n : Nat) (z : Nat → Nat) (I : MI) : Prop := n ≤ 12 ∧ I 90 42 = nI n ∧ ∀ k, k < n → z k < W * H ∧ I 114 k = nI (z k)
def fPrC : FT := [(77, some 6), (78, none)]
def fPrM : FT := [(90, some 42), (114, none)]
theorem PrC.ag (h : PrC W H n z I) (hA : Ag fPrC I I') : PrC W H n z I' := ⟨h.1, (hA 77 6 rfl).trans h.2.1, fun k hk => ⟨(h.2.2 k hk).1, (hA 78 k rfl).trans (h.2.2 k hk).2⟩⟩
theorem PrM.ag (h : PrM W H n z I) (hA : Ag fPrM I I') : PrM W H n z I' := ⟨h.1, (hA 90 42 rfl).trans h.2.1, fun k hk => ⟨(h.2.2 k hk).1, (hA 114 k rfl).trans (h.2.2 k hk).2⟩⟩
theorem aft_tq {c h t : Nat} (hh : h < 4) : aft W H K (4 * c + h) t = 4 * nxt W H K c (tq h t) + tq h t := by
  unfold aft
  rw [hd3_tq hh, show (4 * c + h) / 4 = c by omega]
theorem place_c (hL : LKc W H K I) (hA : LA W H K I) (hR : RG p fe R) (hP : PrC W H n z I) {i h t : Nat} (hi : i + 1 < n) (hh : h < 4) (ht : t < 3) :
    f_Prints_placeBehind S1 R I 77 (nI i) (nI h) (nI t) = some (@ite _ (ldp W H K z i h t) (Classical.propDecidable _) (nI (4 * (i + 1) + tq h t)) (-1)) := by
  have hN := hL.N36
  obtain ⟨p1, p2, p3⟩ := hP
  have hz := p3 i (by omega)
  have hz2 := p3 (i + 1) hi
  have h4 := tq_lt h t
  have hnx := @nxt_lt W H K hL.1 (z i) (tq h t) hz.1
  unfold f_Prints_placeBehind
  rw [cellAt_c hR (k := i) p2 p1 (by omega) hz.2, bnd1_c, r_77_0 hR, bnd1_c, t_60, asrt_pos rfl, show (4 : Int32) = nI 4 from rfl, pk_mul, nI_add, Nat.mul_comm (z i) 4, after_c hN.2 hA hR (by omega) ht, bnd1_c, endsAt_in hL hR hz.1, bnd1_c, aft_tq hh]
  by_cases he : isE (K (z i)) = true
  · have heb : eb (K (z i)) = 1 := by unfold eb; rw [he]; rfl
    rw [heb, ifb_neg (show ¬ (1 : Int32) = 0 by decide), bnd1_c, ifb_pos rfl, bnd1_c, if_neg (fun q => by have := q.1; rw [he] at this; cases this)]
  · have heb : eb (K (z i)) = 0 := by unfold eb; rw [if_neg he]
    have he' : isE (K (z i)) = false := by cases hh' : isE (K (z i)) with | false => rfl | true => exact absurd hh' he
    rw [heb, ifb_pos rfl, cellOf_c (by omega), bnd1_c, nI_1, cellAt_c hR (k := i + 1) p2 p1 hi hz2.2, bnd1_c, show (4 * nxt W H K (z i) (tq h t) + tq h t) / 4 = nxt W H K (z i) (tq h t) by omega]
    by_cases hl : nxt W H K (z i) (tq h t) = z (i + 1)
    · rw [ifb_pos (by rw [hl]), bnd1_c, ifb_neg (show ¬ (1 : Int32) = 0 by decide), bnd1_c, and3 (by omega), pk_mul, nI_add, if_pos ⟨he', hl⟩, show (4 * nxt W H K (z i) (tq h t) + tq h t) % 4 = tq h t by omega, Nat.mul_comm (i + 1) 4]
    · rw [ifb_neg (by rw [eq32 (by omega) (by omega)]; exact hl), bnd1_c, ifb_pos rfl, bnd1_c, if_neg (fun q => hl q.2)]
theorem isFalse_c {hd : Nat} (hL : LKc W H K I) (hA : LA W H K I) (hR : RG p fe R) (hw : Wgt w hd I) (hH : ∀ x, x < 144 → HW W H K x (I 63 x)) {c h t : Nat} (hc : c < W * H) (hh : h < 4) (ht : t < 3) (he : isE (K c) = false) (hz : z 0 = c) :
    f_Prints_isFalse S1 R I 77 (nI (4 * c + h)) (nI t) = some (nI (lie W H K w (fun _ => c) 0 h t)) := by
  have hN := hL.N36
  have hlt := @aft_lt W H K hL.1 (4 * c + h) t (by omega)
  have hw10 : w t ≤ 10 := by
    have := hw.1
    have : t = 0 ∨ t = 1 ∨ t = 2 := by omega
    rcases this with rfl | rfl | rfl <;> omega
  unfold f_Prints_isFalse
  rw [r_77_0 hR, bnd1_c, t_60, asrt_pos rfl, stepsHome_c hR (by omega), bnd1_c, r_77_1 hR, bnd1_c, tenthsOf_c ht (hw.2.1 t ht).1, bnd1_c]
  unfold lie
  by_cases h0 : w t = 0
  · rw [ifb_pos (by rw [h0]; rfl), bnd1_c, ifb_neg (show ¬ (1 : Int32) = 0 by decide)]
    rcases hH (4 * c + h) (by omega) with ⟨d, hd1, hD, ev⟩ | ⟨hno, ev⟩
    · have hd0 : d ≠ 0 := fun e => by
        rw [e] at hD
        have := hD.1.2
        rw [show (4 * c + h) / 4 = c by omega] at this
        unfold isE at he
        rw [this] at he
        cases he
      rw [ev, ifb_neg (nIm1 (by omega)), after_c hN.2 hA hR (by omega) ht, bnd1_c, stepsHome_c hR (by omega), bnd1_c, sub1 (by omega)]
      have hiff := HW_eq (hH _ (by omega : aft W H K (4 * c + h) t < 144)) (d := d - 1) (by omega)
      by_cases hdd : DH W H K (aft W H K (4 * c + h) t) (d - 1)
      · rw [ifb_pos (hiff.mpr hdd), bnd1_c, asrt_pos (Or.inl rfl), if_neg (fun q => q.2 ⟨d - 1, by rw [Nat.sub_add_cancel (by omega)]; exact hD, hdd⟩)]; rfl
      · rw [ifb_neg (fun q => hdd (hiff.mp q)), bnd1_c, asrt_pos (Or.inr rfl), if_pos ⟨h0, fun ⟨e, x1, x2⟩ => hdd (by have := DH_un hD x1; rw [show d - 1 = e by omega]; exact x2)⟩]; rfl
    · rw [ev, ifb_pos rfl, bnd1_c, asrt_pos (Or.inr rfl), if_pos ⟨h0, fun ⟨e, x1, x2⟩ => hno _ x1.1⟩]; rfl
  · rw [ifb_neg (by rw [nI0, eq32 (by omega) (by omega)]; exact h0), bnd1_c, ifb_pos rfl, bnd1_c, asrt_pos (Or.inl rfl), if_neg (fun q => h0 q.1)]; rfl
theorem isLie_c {hd : Nat} (hM : LM W H K I) (hR : RG p fe R) (hw : Wgt w hd I) (hF : ∀ x, x < 4 * (W * H) → FWy W H K x (I 100 x)) (hP : PrM W H n z I) {k h t : Nat} (hk : k < n) (hh : h < 4) (ht : t < 3) (he : isE (K (z k)) = false) :
    f_Mod_isLie S1 R I 90 (nI k) (nI h) (nI t) = some (nI (lie W H K w z k h t)) := by
  have hN := hM.N36
  obtain ⟨p1, p2, p3⟩ := hP
  have hz := p3 k hk
  have hlt := @aft_lt W H K hM.1 (4 * z k + h) t (by omega)
  have hw10 : w t ≤ 10 := by
    have := hw.1
    have : t = 0 ∨ t = 1 ∨ t = 2 := by omega
    rcases this with rfl | rfl | rfl <;> omega
  unfold f_Mod_isLie
  rw [r_90_9 hR, bnd1_c, t_93, asrt_pos rfl, asrt_pos (vir (by omega) (by omega)), cl32 (by omega), (hw.2.1 t ht).2]
  unfold lie
  by_cases h0 : w t = 0
  · rw [ifb_pos (by rw [h0]; decide), r_90_25 hR, bnd1_c, r_90_44 hR, bnd1_c, t_114, asrt_pos rfl, asrt_pos (vir (by omega) (by omega)), cl32 (by omega), hz.2, show (4 : Int32) = nI 4 from rfl, pk_mul, nI_add, lt_c, t_100, asrt_pos rfl, asrt_pos (vir (by omega) (by omega)), lt_c, cl32 (by omega)]
    rcases hF (4 * z k + h) (by omega) with ⟨d, hd1, hD, ev⟩ | ⟨hno, ev⟩
    · have hd0 : d ≠ 0 := fun e => by
        rw [e] at hD
        have := hD.1.2
        rw [show (4 * z k + h) / 4 = z k by omega] at this
        unfold isE at he
        rw [this] at he
        cases he
      rw [ev, ifb_neg (by rw [show (1000000 : Int32) = nI 1000000 from rfl, le32 (by omega) (by omega)]; omega), asrt_pos (vir (by omega) (by omega)), farB_c hM hR hz.1 hh ht, bnd1_c, sub1 (by omega)]
      have hiff := FW_eq (hF _ hlt) (d := d - 1) (by omega)
      by_cases hdd : DH W H K (aft W H K (4 * z k + h) t) (d - 1)
      · rw [ifb_pos (hiff.mpr hdd), bnd1_c, asrt_pos (Or.inl rfl), if_neg (fun q => q.2 ⟨d - 1, by rw [Nat.sub_add_cancel (by omega)]; exact hD, hdd⟩)]; rfl
      · rw [ifb_neg (fun q => hdd (hiff.mp q)), bnd1_c, asrt_pos (Or.inr rfl), if_pos ⟨h0, fun ⟨e, x1, x2⟩ => hdd (by have := DH_un hD x1; rw [show d - 1 = e by omega]; exact x2)⟩]; rfl
    · rw [ev, ifb_pos (by decide), bnd1_c, asrt_pos (Or.inr rfl), if_pos ⟨h0, fun ⟨e, x1, x2⟩ => hno _ x1.1⟩]; rfl
  · rw [ifb_neg (by rw [nI0, le32 (by omega) (by omega)]; omega), if_neg (fun q => h0 q.1)]; rfl
theorem leads_c (hM : LM W H K I) (hR : RG p fe R) (hP : PrM W H n z I) {k h t : Nat} (hk : k + 1 < n) (hh : h < 4) (ht : t < 3) :
    f_Mod_leads S1 R I 90 (nI k) (nI h) (nI t) = some (@ite _ (ldp W H K z k h t) (Classical.propDecidable _) 1 0) := by
  have hN := hM.N36
  obtain ⟨p1, p2, p3⟩ := hP
  have hz := p3 k (by omega)
  have hz2 := p3 (k + 1) hk
  have h4 := tq_lt h t
  have hnx := @nxt_lt W H K hM.1 (z k) (tq h t) hz.1
  unfold f_Mod_leads
  rw [r_90_44 hR, bnd1_c, t_114, asrt_pos rfl, asrt_pos (vir (by omega) (by omega)), cl32 (by omega), hz.2, isEnd_in hM hR hz.1, bnd1_c]
  by_cases he : isE (K (z k)) = true
  · have heb : eb (K (z k)) = 1 := by unfold eb; rw [he]; rfl
    rw [heb, ifb_neg (show ¬ (1 : Int32) = 0 by decide), bnd1_c, asrt_pos (Or.inl rfl), if_neg (fun q => by have := q.1; rw [he] at this; cases this)]
  · have heb : eb (K (z k)) = 0 := by unfold eb; rw [if_neg he]
    have he' : isE (K (z k)) = false := by cases hh' : isE (K (z k)) with | false => rfl | true => exact absurd hh' he
    rw [heb, ifb_pos rfl, asrt_pos (vir (by omega) (by omega)), turned_c hh ht, bnd1_c, show (h + t + 3) % 4 = tq h t from rfl, cellBy_c hM hR hz.1 h4, bnd1_c, nI_1, lt_c, asrt_pos (vir (by omega) (by omega)), cl32 (by omega), hz2.2]
    by_cases hl : nxt W H K (z k) (tq h t) = z (k + 1)
    · rw [ifb_pos (by rw [hl]), bnd1_c, asrt_pos (Or.inr rfl), if_pos ⟨he', hl⟩]
    · rw [ifb_neg (by rw [eq32 (by omega) (by omega)]; exact hl), bnd1_c, asrt_pos (Or.inl rfl), if_neg (fun q => hl q.2)]
end TC
