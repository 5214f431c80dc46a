section FF
variable {W H m n k q G st num a b B : Nat} {τ : Nat → Nat} {I I' J J' : MI} {L L' : ML} {R : MR} {p : Bool} {fe : Nat} {f f' : Nat → Int} {sg : Int} {i : Nat}
/-! the model's reading of a fee, thing by thing -/
def MX (n : Nat) (τ : Nat → Nat) (m q : Nat) (f : Nat → Int) (J : MI) : Prop := m ≤ 30 ∧ m ≤ n ∧ q ≤ m ∧ J 90 19 = nI m ∧ J 90 18 = nI q ∧ (∀ k, k < n → τ k < 256 ∧ J 95 k = nI (τ k)) ∧ ∀ i, i < 5 → J 98 i = iI (f i)
theorem MX.at {q' : Nat} (h : MX n τ m q f J) (hq : q' ≤ m) : MX n τ m q' f (wI J 90 18 (nI q')) := ⟨h.1, h.2.1, hq, (wI_n (by omega)).trans h.2.2.2.1, wI_s, fun k hk => ⟨(h.2.2.2.2.2.1 k hk).1, (wI_n (by omega)).trans (h.2.2.2.2.2.1 k hk).2⟩, fun i hi => (wI_n (by omega)).trans (h.2.2.2.2.2.2 i hi)⟩
def ad (f : Nat → Int) (k : Nat) (d : Int) : Nat → Int := fun i => if i = k then f i + d else f i
theorem MX.add {d : Int} {v : Int32} (h : MX n τ m q f J) (hv : v = J 98 k + iI d) : MX n τ m q (ad f k d) (wI J 98 k v) := ⟨h.1, h.2.1, h.2.2.1, (wI_n (by omega)).trans h.2.2.2.1, (wI_n (by omega)).trans h.2.2.2.2.1, fun k hk => ⟨(h.2.2.2.2.2.1 k hk).1, (wI_n (by omega)).trans (h.2.2.2.2.2.1 k hk).2⟩, fun i hi => by
  unfold ad
  by_cases e : i = k
  · subst e; rw [if_pos rfl, wI_s, hv, h.2.2.2.2.2.2 i hi, iI_add]
  · rw [if_neg e, wI_n (by omega)]; exact h.2.2.2.2.2.2 i hi⟩
def fMX : FT := [(90, some 18), (98, none)]
theorem isDig_c (hR : RG p fe R) (h : MX n τ m q f J) : (q < m ∧ dig (τ q) ∧ f_Mod_isDigit S1 R J 90 = some 1) ∨ (¬ (q < m ∧ dig (τ q)) ∧ f_Mod_isDigit S1 R J 90 = some 0) := by
  obtain ⟨h1, h2, h3, h4, h5, h6, h7⟩ := h
  unfold f_Mod_isDigit
  rw [h4, h5]
  by_cases hq : q < m
  · obtain ⟨ht, h95⟩ := h6 q (by omega)
    have ein : f_Mod_in (nI (τ q)).toInt64 48 57 = some (if 48 ≤ τ q ∧ τ q ≤ 57 then 1 else 0) := by
      rw [in_g, show (48 : Int64) = (48 : Int32).toInt64 from rfl, show (57 : Int64) = (57 : Int32).toInt64 from rfl]
      simp only [Int32.toInt64_le]
      rw [show (48 : Int32) = nI 48 from rfl, show (57 : Int32) = nI 57 from rfl]
      by_cases hd : 48 ≤ τ q ∧ τ q ≤ 57
      · rw [if_pos hd, if_pos ⟨(le32 (by omega) (by omega)).mpr hd.1, (le32 (by omega) (by omega)).mpr hd.2⟩]
      · rw [if_neg hd, if_neg (fun z => hd ⟨(le32 (by omega) (by omega)).mp z.1, (le32 (by omega) (by omega)).mp z.2⟩)]
    rw [ifb_neg (by rw [le32 (by omega) (by omega)]; omega), r_90_16 hR, bnd1_c, lt_c, t_95, asrt_pos rfl, asrt_pos (vir (by omega) (by omega)), cl32 (by omega), h95, ein, bnd1_c]
    by_cases hd : dig (τ q)
    · exact Or.inl ⟨hq, hd, by rw [if_pos (show 48 ≤ τ q ∧ τ q ≤ 57 from hd), ifb_neg (by decide), bnd1_c, asrt_pos (Or.inr rfl)]⟩
    · exact Or.inr ⟨fun z => hd z.2, by rw [if_neg (show ¬ (48 ≤ τ q ∧ τ q ≤ 57) from hd), ifb_pos rfl, bnd1_c, asrt_pos (Or.inl rfl)]⟩
  · exact Or.inr ⟨fun z => hq z.1, by rw [ifb_pos (by rw [le32 (by omega) (by omega)]; omega), bnd1_c, asrt_pos (Or.inl rfl)]⟩
theorem takes_c (hR : RG p fe R) (h : MX n τ m q f J) (hk : k < 256) : (q < m ∧ τ q = k ∧ f_Mod_takes S1 R J 90 (nI k) = some (1, wI J 90 18 (nI (q + 1)))) ∨ (¬ (q < m ∧ τ q = k) ∧ f_Mod_takes S1 R J 90 (nI k) = some (0, wI J 90 18 (nI q))) := by
  obtain ⟨h1, h2, h3, h4, h5, h6, h7⟩ := h
  have fin0 : ∀ X : Int32 → MI → Option (Int32 × MI), (bnd1 (f_Mod_flag 0) fun x10 => lt (nI q + x10) fun (x12 : Int32) => lt (wI J 90 18 x12) fun (I13 : MI) => X x12 I13) = X (nI q) (wI J 90 18 (nI q)) := by
    intro X; rw [flag_0, bnd1_c, a0', lt_c, lt_c]
  have fin1 : ∀ X : Int32 → MI → Option (Int32 × MI), (bnd1 (f_Mod_flag 1) fun x10 => lt (nI q + x10) fun (x12 : Int32) => lt (wI J 90 18 x12) fun (I13 : MI) => X x12 I13) = X (nI (q + 1)) (wI J 90 18 (nI (q + 1))) := by
    intro X; rw [flag_1, bnd1_c, nI_1, lt_c, lt_c]
  unfold f_Mod_takes
  rw [h4, h5]
  by_cases hq : q < m
  · obtain ⟨ht, h95⟩ := h6 q (by omega)
    rw [ifb_neg (by rw [le32 (by omega) (by omega)]; omega), r_90_16 hR, bnd1_c, lt_c, t_95, asrt_pos rfl, asrt_pos (vir (by omega) (by omega)), cl32 (by omega), h95]
    by_cases hd : τ q = k
    · refine Or.inl ⟨hq, hd, ?_⟩
      rw [ifb_pos (by rw [hd]), bnd1_c, flag_1, bnd1_c, nI_1, lt_c, lt_c, asrt_pos (Or.inr rfl)]
    · refine Or.inr ⟨fun z => hd z.2, ?_⟩
      rw [ifb_neg (nq ht hk hd), bnd1_c, flag_0, bnd1_c, a0', lt_c, lt_c, asrt_pos (Or.inl rfl)]
  · refine Or.inr ⟨fun z => hq z.1, ?_⟩
    rw [ifb_pos (by rw [le32 (by omega) (by omega)]; omega), bnd1_c, flag_0, bnd1_c, a0', lt_c, lt_c, asrt_pos (Or.inl rfl)]
/-- the class's draft beside the model's: a number that is not yet added -/
def FcI (f : Nat → Int) (sg : Int) (num : Nat) (I : MI) : Prop := I 48 0 + iI sg * nI num = iI (f 0) ∧ ∀ i, 1 ≤ i → i < 5 → I 48 i = iI (f i)
def bdF (f : Nat → Int) (q : Nat) : Prop := ∀ i, i < 5 → -(99 * (q : Int)) ≤ f i ∧ f i ≤ 99 * (q : Int)
theorem bdF.add {d : Int} (h : bdF f q) (hd : -99 ≤ d ∧ d ≤ 99) {q' : Nat} (hq : q < q') : bdF (ad f k d) q' := by
  intro i hi
  have := h i hi
  unfold ad
  split <;> omega
/-- how both go on behind a thing: T the model's reading, C the class's -/
def RES (n : Nat) (τ : Nat → Nat) (m G : Nat) (R : MR) (sg : Int) (q : Nat) (J I : MI) (T C : Option (Int32 × MI)) : Prop :=
  (∃ (J' I' : MI) (f' : Nat → Int) (q' st' num' : Nat), T = some (1, J') ∧ C = cl G R I' st' sg num' q' ∧ q < q' ∧ MX n τ m q' f' J' ∧ Fr fMX J J' ∧ Fr f48 I I' ∧ FcI f' sg num' I' ∧ bdF f' q' ∧ (st' = 1 ∨ st' = 2 ∨ st' = 4) ∧ (q' < m → st' = 1 → ¬ dig (τ q')) ∧ (q' < m → st' ≠ 4 → τ q' ≠ 42)) ∨
  (∃ (J' I' : MI) (q' : Nat), T = some (0, J') ∧ C = some (nI q', I') ∧ q' ≤ m ∧ J' 90 18 = nI q' ∧ Fr fMX J J' ∧ Fr f48 I I')
theorem mulI1 (x : Int32) : x * 1 = x := Int32.mul_one x
theorem mulI0 (x : Int32) : x * nI 0 = 0 := m0' x
/-- the end of what can be read: at m the class can't go on -/
theorem cl_end (hR : RG p fe R) (hG : 1000 ≤ G) (hX : CX n τ I) (hm : m = min n 30) (hst : st = 0 ∨ st = 3) : cl G R I st sg num m = some (nI m, I) := by
  by_cases h : n ≤ 30
  · rw [show m = n by omega]; exact clXb hG hX h hst
  · rw [show m = 30 by omega]; exact clXa hR hG hX (by omega)
theorem rnum {g : Nat} (hg : 1000 ≤ g) (hR : RG p fe R) (hG : 1000 ≤ G) (hm : m = min n 30) {q0 : Nat} (hq0 : q0 < q) (hX : CX n τ I) (hM : MX n τ m q f J) (hF : FcI f sg 0 I) (hb : bdF f q0) (hs : sg = 1 ∨ sg = -1) (hst : st = 1 ∨ st = 2) (hz : num ≤ 99) (hd : q < m → st = 1 → ¬ dig (τ q)) :
    RES n τ m G R sg q0 J I (bnd2 (f_Mod_takes S1 R J 90 42) fun x34 I35 =>
      ifb (x34 = 0)
        (bnd1 (R 90 22) fun b38 =>
        asrt ((S1 b38).1 = 20) <|
        asrt (vp_in 0 (S1 b38).2) <|
        lt ((I35 b38 (Int32.toNatClampNeg 0)) + (iI sg * nI num)) fun (x41 : Int32) =>
        asrt (vp_in 0 (S1 b38).2) <|
        lt (wI I35 b38 (Int32.toNatClampNeg 0) x41) fun (I43 : MI) =>
        some (1, I43))
        (bnd1 (ifb ((I35 90 19) ≤ (I35 90 18))
            (some 0)
            (lt (I35 90 18) fun (x48 : Int32) =>
            asrt (vp_in x48 (S1 95).2) <|
            bnd1 (f_Mod_among g 7 (I35 95 (Int32.toNatClampNeg x48))) fun x50 =>
            some (1 + x50))) fun (y45 : Int32) =>
        ifb (y45 = 0)
          (some (0, I35))
          (lt ((I35 90 18) + 1) fun (x53 : Int32) =>
          lt (wI I35 90 18 x53) fun (I54 : MI) =>
          bnd1 (R 90 22) fun b55 =>
          asrt ((S1 b55).1 = 20) <|
          asrt (vp_in y45 (S1 b55).2) <|
          lt ((I54 b55 (Int32.toNatClampNeg y45)) + (iI sg * nI num)) fun (x58 : Int32) =>
          asrt (vp_in y45 (S1 b55).2) <|
          lt (wI I54 b55 (Int32.toNatClampNeg y45) x58) fun (I60 : MI) =>
          some (1, I60)))) (cl G R I st sg num q) := by
  have hm30 := hM.1
  have hq := hM.2.2.1
  have hsz : iI sg * nI num = iI (sg * num) := by rw [iI_N, iI_mul]
  have hsb : -99 ≤ sg * num ∧ sg * num ≤ 99 := by rcases hs with rfl | rfl <;> omega
  have cl0 : Int32.toNatClampNeg 0 = 0 := by decide
  have t98' : (S1 98) = (20, 5) := t_98
  rcases takes_c hR hM (show 42 < 256 by omega) with ⟨hqm, h42, e⟩ | ⟨hno, e⟩
  · have hM1 := hM.at (show q + 1 ≤ m by omega)
    rw [show f_Mod_takes S1 R J 90 42 = some (1, wI J 90 18 (nI (q + 1))) from e, bnd2_c, ifb_neg (by decide), hM1.2.2.2.1, hM1.2.2.2.2.1, clS hR hG hX (by omega) (by omega) h42 hst]
    by_cases hq1 : q + 1 < m
    · obtain ⟨ht, h95⟩ := hM1.2.2.2.2.2.1 (q + 1) (by omega)
      rw [ifb_neg (by rw [le32 (by omega) (by omega)]; omega), lt_c, t_95, asrt_pos (vir (by omega) (by omega)), cl32 (by omega), h95, among7 (by omega) ht, bnd1_c, bnd1_c]
      have hl4 := lti_le (τ (q + 1))
      by_cases hl : lti (τ (q + 1)) = 0
      · refine Or.inr ⟨wI J 90 18 (nI (q + 1)), I, q + 1, ?_, ?_, by omega, wI_s, Fr.w Fr.rf rfl, Fr.rf⟩
        · rw [if_pos hl, ifb_pos (by decide)]
        · refine clXc hR hG hX (by omega) (by omega) (by omega) (fun z => ?_)
          unfold okS at z
          omega
      · have hM2 := hM1.at (show q + 1 + 1 ≤ m by omega)
        have hk : 1 + nI (lti (τ (q + 1)) - 1) = nI (lti (τ (q + 1))) := by rw [show (1 : Int32) = nI 1 from rfl, nI_add, show 1 + (lti (τ (q + 1)) - 1) = lti (τ (q + 1)) by omega]
        obtain ⟨I2, e2, f2, c20, c2i⟩ := clL (sg := sg) (num := num) hR hG hX (show q + 1 < 30 by omega) (by omega) hl (Or.inr rfl)
        rw [if_neg hl, hk, ifb_neg (by rw [nI0, eq32 (by omega) (by omega)]; exact hl), nI_1, lt_c, lt_c, r_90_22 hR, bnd1_c, t98', asrt_pos rfl, asrt_pos (vir (by omega) (by omega)), cl32 (by omega), lt_c, asrt_pos (vir (by omega) (by omega)), lt_c, e2]
        refine Or.inl ⟨_, I2, ad f (lti (τ (q + 1))) (sg * num), q + 1 + 1, 4, 0, rfl, rfl, by omega, hM2.add (by rw [hsz]), ((Fr.w (Fr.w Fr.rf rfl) rfl).w rfl), f2, ⟨?_, fun i h1 h5 => ?_⟩, hb.add hsb (by omega), Or.inr (Or.inr rfl), fun _ z => by omega, fun _ z => absurd rfl z⟩
        · unfold ad
          rw [c20, if_neg (by omega)]
          exact hF.1
        · unfold ad
          rw [c2i i h1 h5, hF.2 i h1 h5]
          by_cases e : i = lti (τ (q + 1))
          · rw [if_pos e, if_pos e, if_neg (by omega), hsz, iI_add]
          · rw [if_neg e, if_neg e]
    · rw [ifb_pos (by rw [le32 (by omega) (by omega)]; omega), bnd1_c, ifb_pos rfl]
      refine Or.inr ⟨wI J 90 18 (nI (q + 1)), I, q + 1, rfl, ?_, by omega, wI_s, Fr.w Fr.rf rfl, Fr.rf⟩
      rw [show q + 1 = m by omega]
      exact cl_end hR hG hX hm (Or.inr rfl)
  · have hM1 := hM.at hq
    rw [show f_Mod_takes S1 R J 90 42 = some (0, wI J 90 18 (nI q)) from e, bnd2_c, ifb_pos rfl, r_90_22 hR, bnd1_c, t98', asrt_pos rfl, asrt_pos (pk_in 0 5 (by omega)), cl0, lt_c, asrt_pos (pk_in 0 5 (by omega)), lt_c]
    refine Or.inl ⟨_, I, ad f 0 (sg * num), q, st, num, rfl, rfl, hq0, hM1.add (by rw [hsz]), ((Fr.w Fr.rf rfl).w rfl), Fr.rf, ⟨?_, fun i h1 h5 => ?_⟩, hb.add hsb hq0, by omega, hd, fun a _ z => hno ⟨a, z⟩⟩
    · have h0 := hF.1
      rw [mulI0, a0'] at h0
      unfold ad
      rw [if_pos rfl, h0, hsz, iI_add]
    · unfold ad
      rw [if_neg (by omega)]
      exact hF.2 i h1 h5
theorem rthing {g : Nat} (hg : 1000 ≤ g) (hR : RG p fe R) (hG : 1000 ≤ G) (hm : m = min n 30) (hX : CX n τ I) (hM : MX n τ m q f J) (hF : FcI f sg 0 I) (hb : bdF f q) (hs : sg = 1 ∨ sg = -1) : RES n τ m G R sg q J I (f_Mod_readsThing g S1 R J 90 (iI sg)) (cl G R I 0 sg 0 q) := by
  have hm30 := hM.1
  have hq := hM.2.2.1
  obtain ⟨-, -, -, h19, h18, h95, h98⟩ := id hM
  have t98' : (S1 98) = (20, 5) := t_98
  unfold f_Mod_readsThing
  rw [h19, h18]
  by_cases hqm : q < m
  rotate_left
  · have hqe : q = m := by omega
    rcases isDig_c hR hM with ⟨z, -, -⟩ | ⟨-, e⟩
    · omega
    · rw [ifb_pos (by rw [le32 (by omega) (by omega)]; omega), bnd1_c, ifb_pos (by decide), e, bnd1_c, ifb_pos rfl]
      exact Or.inr ⟨J, I, q, rfl, by rw [hqe]; exact cl_end hR hG hX hm (Or.inl rfl), hq, h18, Fr.rf, Fr.rf⟩
  obtain ⟨ht, h95q⟩ := h95 q (by omega)
  have hl4 := lti_le (τ q)
  rw [ifb_neg (by rw [le32 (by omega) (by omega)]; omega), r_90_16 hR, bnd1_c, lt_c, t_95, asrt_pos rfl, asrt_pos (vir (by omega) (by omega)), cl32 (by omega), h95q, among7 (by omega) ht, bnd1_c, bnd1_c]
  by_cases hl : lti (τ q) = 0
  rotate_left
  · have hM2 := hM.at (show q + 1 ≤ m by omega)
    have hk : 1 + nI (lti (τ q) - 1) = nI (lti (τ q)) := by rw [show (1 : Int32) = nI 1 from rfl, nI_add, show 1 + (lti (τ q) - 1) = lti (τ q) by omega]
    obtain ⟨I2, e2, f2, c20, c2i⟩ := clL (sg := sg) (st := 0) (num := 0) hR hG hX (show q < 30 by omega) (by omega) hl (Or.inl ⟨rfl, rfl⟩)
    rw [if_neg hl, ifb_neg (zn (by omega)), nI_1, lt_c, lt_c, r_90_22 hR, bnd1_c, hk, lt_c, t98', asrt_pos rfl, asrt_pos (vir (by omega) (by omega)), cl32 (by omega), lt_c, asrt_pos (vir (by omega) (by omega)), lt_c, e2]
    refine Or.inl ⟨_, I2, ad f (lti (τ q)) sg, q + 1, 4, 0, rfl, rfl, by omega, hM2.add rfl, ((Fr.w Fr.rf rfl).w rfl), f2, ⟨?_, fun i h1 h5 => ?_⟩, hb.add (by rcases hs with rfl | rfl <;> omega) (by omega), Or.inr (Or.inr rfl), fun _ z => by omega, fun _ z => absurd rfl z⟩
    · unfold ad
      rw [c20, if_neg (by omega)]
      exact hF.1
    · unfold ad
      rw [c2i i h1 h5, hF.2 i h1 h5]
      by_cases e : i = lti (τ q)
      · rw [if_pos e, if_pos e, if_pos rfl, mulI1, iI_add]
      · rw [if_neg e, if_neg e]
  rw [if_pos hl, ifb_pos (by decide)]
  rcases isDig_c hR hM with ⟨-, hd, e⟩ | ⟨hnd, e⟩
  rotate_left
  · rw [e, bnd1_c, ifb_pos rfl]
    refine Or.inr ⟨J, I, q, rfl, clXc hR hG hX (by omega) (by omega) (by omega) (fun z => ?_), hq, h18, Fr.rf, Fr.rf⟩
    unfold okS at z
    have : ¬ dig (τ q) := fun z => hnd ⟨hqm, z⟩
    rcases z with z | z | z | z
    · exact this z.1
    · omega
    · exact z.1 hl
    · omega
  have hd' := hd
  unfold dig at hd'
  have hM1 := hM.at (show q + 1 ≤ m by omega)
  have hsub : nI (τ q) - 48 = nI (τ q - 48) := pk_sub (b := 48) hd'.1
  rw [e, bnd1_c, ifb_neg (by decide), bnd1_c, lt_c, t_95, asrt_pos rfl, asrt_pos (vir (by omega) (by omega)), cl32 (by omega), h95q, hsub, lt_c, nI_1, lt_c, lt_c, clD hR hG hX (by omega) (by omega) hd (by omega)]
  rw [show 0 * 10 + τ q - 48 = τ q - 48 by omega, show (0 : Nat) + 1 = 1 from rfl]
  rcases isDig_c hR hM1 with ⟨hq1, hd1, e1⟩ | ⟨hnd1, e1⟩
  · have hd1' := hd1
    unfold dig at hd1'
    have hM2 := hM1.at (show q + 1 + 1 ≤ m by omega)
    have h95b := (hM1.2.2.2.2.2.1 (q + 1) (by omega)).2
    rw [e1, bnd1_c, ifb_neg (by decide), hM1.2.2.2.2.1, lt_c, asrt_pos (vir (by omega) (by omega)), cl32 (by omega), h95b, show (10 : Int32) = nI 10 from rfl, pk_mul, nI_add, show (48 : Int32) = nI 48 from rfl, pk_sub (by omega), lt_c, nI_1, lt_c, lt_c, bnd2_c, clD hR hG hX (by omega) (by omega) hd1 (by omega)]
    have hn2 : (τ q - 48) * 10 + τ (q + 1) - 48 = 10 * (τ q - 48) + τ (q + 1) - 48 := by omega
    rw [hn2, show (1 : Nat) + 1 = 2 from rfl]
    have r := rnum (num := 10 * (τ q - 48) + τ (q + 1) - 48) hg hR hG hm (show q < q + 1 + 1 by omega) hX hM2 hF hb hs (Or.inr rfl) (by omega) (fun _ z => by omega)
    unfold RES at r ⊢
    refine r.imp (fun z => ?_) (fun z => ?_)
    · obtain ⟨J', I', f', q', st', num', z1, z2, z3, z4, z5, z6⟩ := z
      exact ⟨J', I', f', q', st', num', z1, z2, z3, z4, ((Fr.w (Fr.w Fr.rf rfl) rfl).tr z5), z6⟩
    · obtain ⟨J', I', q', z1, z2, z3, z4, z5, z6⟩ := z
      exact ⟨J', I', q', z1, z2, z3, z4, ((Fr.w (Fr.w Fr.rf rfl) rfl).tr z5), z6⟩
  · rw [e1, bnd1_c, ifb_pos rfl, bnd2_c]
    have r := rnum (num := τ q - 48) hg hR hG hm (show q < q + 1 by omega) hX hM1 hF hb hs (Or.inl rfl) (by omega) (fun a _ z => hnd1 ⟨a, z⟩)
    unfold RES at r ⊢
    refine r.imp (fun z => ?_) (fun z => ?_)
    · obtain ⟨J', I', f', q', st', num', z1, z2, z3, z4, z5, z6⟩ := z
      exact ⟨J', I', f', q', st', num', z1, z2, z3, z4, ((Fr.w Fr.rf rfl).tr z5), z6⟩
    · obtain ⟨J', I', q', z1, z2, z3, z4, z5, z6⟩ := z
      exact ⟨J', I', q', z1, z2, z3, z4, ((Fr.w Fr.rf rfl).tr z5), z6⟩
end FF
