section BI
/-! single bits of ints and longs -/
theorem sh32 : ∀ d, d < 32 → (((nI d &&& 31).toBitVec).smod 32).toNat = d := by decide +kernel
theorem shu32 : ∀ d, d < 32 → ((((nI d).toUInt32 &&& Int32.toUInt32 31).toBitVec) % 32).toNat = d := by decide +kernel
theorem sh64 : ∀ d, d < 64 → ((((nI d).toInt64 &&& 63).toBitVec).smod 64).toNat = d := by decide +kernel
theorem shu64 : ∀ d, d < 64 → ((((nI d).toInt64.toUInt64 &&& Int64.toUInt64 63).toBitVec) % 64).toNat = d := by decide +kernel
theorem isl_b (x : Int32) {d : Nat} (h : d < 32) : (isl x (nI d)).toBitVec = x.toBitVec <<< d := by
  show x.toBitVec <<< ((nI d &&& 31).toBitVec.smod 32).toNat = _
  rw [sh32 d h]
theorem isr_b (x : Int32) {d : Nat} (h : d < 32) : (isr x (nI d)).toBitVec = x.toBitVec.sshiftRight d := by
  show x.toBitVec.sshiftRight ((nI d &&& 31).toBitVec.smod 32).toNat = _
  rw [sh32 d h]
theorem ius_b (x : Int32) {d : Nat} (h : d < 32) : (ius x (nI d)).toBitVec = x.toBitVec >>> d := by
  have e : (ius x (nI d)).toBitVec = x.toBitVec >>> (((nI d).toUInt32 &&& Int32.toUInt32 31).toBitVec % 32).toNat := UInt32.toBitVec_shiftRight _ _
  rw [e, shu32 d h]
theorem lsl_b (x : Int64) {d : Nat} (h : d < 64) : (lsl x (nI d)).toBitVec = x.toBitVec <<< d := by
  show x.toBitVec <<< (((nI d).toInt64 &&& 63).toBitVec.smod 64).toNat = _
  rw [sh64 d h]
theorem lsr_b (x : Int64) {d : Nat} (h : d < 64) : (lsr x (nI d)).toBitVec = x.toBitVec.sshiftRight d := by
  show x.toBitVec.sshiftRight (((nI d).toInt64 &&& 63).toBitVec.smod 64).toNat = _
  rw [sh64 d h]
theorem lus_b (x : Int64) {d : Nat} (h : d < 64) : (lus x (nI d)).toBitVec = x.toBitVec >>> d := by
  have e : (lus x (nI d)).toBitVec = x.toBitVec >>> (((nI d).toInt64.toUInt64 &&& Int64.toUInt64 63).toBitVec % 64).toNat := UInt64.toBitVec_shiftRight _ _
  rw [e, shu64 d h]
/-- bit c of an int, of a long -/
def b32 (x : Int32) (c : Nat) : Bool := x.toBitVec.getLsbD c
def b64 (x : Int64) (c : Nat) : Bool := x.toBitVec.getLsbD c
theorem ext32 {x y : Int32} (h : ∀ c, c < 32 → b32 x c = b32 y c) : x = y := Int32.toBitVec_inj.mp (BitVec.eq_of_getLsbD_eq fun i hi => h i hi)
theorem ext64 {x y : Int64} (h : ∀ c, c < 64 → b64 x c = b64 y c) : x = y := Int64.toBitVec_inj.mp (BitVec.eq_of_getLsbD_eq fun i hi => h i hi)
theorem b32_or (x y : Int32) (c : Nat) : b32 (x ||| y) c = (b32 x c || b32 y c) := by unfold b32; rw [Int32.toBitVec_or, BitVec.getLsbD_or]
theorem b32_and (x y : Int32) (c : Nat) : b32 (x &&& y) c = (b32 x c && b32 y c) := by unfold b32; rw [Int32.toBitVec_and, BitVec.getLsbD_and]
theorem b64_or (x y : Int64) (c : Nat) : b64 (x ||| y) c = (b64 x c || b64 y c) := by unfold b64; rw [Int64.toBitVec_or, BitVec.getLsbD_or]
theorem b64_and (x y : Int64) (c : Nat) : b64 (x &&& y) c = (b64 x c && b64 y c) := by unfold b64; rw [Int64.toBitVec_and, BitVec.getLsbD_and]
theorem b32_0 (c : Nat) : b32 0 c = false := by unfold b32; show (0#32).getLsbD c = false; simp
theorem b64_0 (c : Nat) : b64 0 c = false := by unfold b64; show (0#64).getLsbD c = false; simp
theorem b32_1 {d c : Nat} (hd : d < 32) : b32 (isl 1 (nI d)) c = decide (c = d) := by
  unfold b32
  rw [isl_b _ hd]
  show (1#32 <<< d).getLsbD c = _
  rw [BitVec.getLsbD_shiftLeft, BitVec.getLsbD_one]
  by_cases h : c = d
  · subst h
    simp [hd]
  · by_cases h2 : c < d
    · simp [h2, h]
    · have : ¬ (c - d = 0) := by omega
      simp [h, this]
theorem b64_1 {d c : Nat} (hd : d < 64) : b64 (lsl 1 (nI d)) c = decide (c = d) := by
  unfold b64
  rw [lsl_b _ hd]
  show (1#64 <<< d).getLsbD c = _
  rw [BitVec.getLsbD_shiftLeft, BitVec.getLsbD_one]
  by_cases h : c = d
  · subst h
    simp [hd]
  · by_cases h2 : c < d
    · simp [h2, h]
    · have : ¬ (c - d = 0) := by omega
      simp [h, this]
theorem one32 {y : BitVec 32} : y &&& 1#32 = if y.getLsbD 0 then 1#32 else 0#32 := by
  apply BitVec.eq_of_getLsbD_eq
  intro i hi
  rw [BitVec.getLsbD_and, BitVec.getLsbD_one]
  by_cases h : i = 0
  · subst h
    cases y.getLsbD 0 <;> simp
  · cases y.getLsbD 0 <;> simp [h]
theorem one64 {y : BitVec 64} : y &&& 1#64 = if y.getLsbD 0 then 1#64 else 0#64 := by
  apply BitVec.eq_of_getLsbD_eq
  intro i hi
  rw [BitVec.getLsbD_and, BitVec.getLsbD_one]
  by_cases h : i = 0
  · subst h
    cases y.getLsbD 0 <;> simp
  · cases y.getLsbD 0 <;> simp [h]
theorem isr_1 (x : Int32) {d : Nat} (hd : d < 32) : (isr x (nI d)) &&& 1 = if b32 x d then 1 else 0 := by
  apply Int32.toBitVec_inj.mp
  rw [Int32.toBitVec_and, isr_b _ hd]
  show x.toBitVec.sshiftRight d &&& 1#32 = _
  rw [one32, BitVec.getLsbD_sshiftRight]
  unfold b32
  simp only [show decide (32 ≤ 0) = false by rfl, Bool.not_false, Bool.true_and, Nat.add_zero, hd, if_true]
  split <;> rfl
theorem ius_1 (x : Int32) {d : Nat} (hd : d < 32) : (ius x (nI d)) &&& 1 = if b32 x d then 1 else 0 := by
  apply Int32.toBitVec_inj.mp
  rw [Int32.toBitVec_and, ius_b _ hd]
  show x.toBitVec >>> d &&& 1#32 = _
  rw [one32, BitVec.getLsbD_ushiftRight, Nat.add_zero]
  unfold b32
  split <;> rfl
theorem lsr_1 (x : Int64) {d : Nat} (hd : d < 64) : (lsr x (nI d)) &&& 1 = if b64 x d then 1 else 0 := by
  apply Int64.toBitVec_inj.mp
  rw [Int64.toBitVec_and, lsr_b _ hd]
  show x.toBitVec.sshiftRight d &&& 1#64 = _
  rw [one64, BitVec.getLsbD_sshiftRight]
  unfold b64
  simp only [show decide (64 ≤ 0) = false by rfl, Bool.not_false, Bool.true_and, Nat.add_zero, hd, if_true]
  split <;> rfl
theorem lus_1 (x : Int64) {d : Nat} (hd : d < 64) : (lus x (nI d)) &&& 1 = if b64 x d then 1 else 0 := by
  apply Int64.toBitVec_inj.mp
  rw [Int64.toBitVec_and, lus_b _ hd]
  show x.toBitVec >>> d &&& 1#64 = _
  rw [one64, BitVec.getLsbD_ushiftRight, Nat.add_zero]
  unfold b64
  split <;> rfl
theorem has_c (x : Int32) {d : Nat} (hd : d < 32) : f_Mod_has x (nI d) = some (if b32 x d then 1 else 0) := by
  unfold f_Mod_has
  rw [isr_1 x hd]
  cases b32 x d
  · show (bnd1 (ifb ((0 : Int32) = 1) (some (1 : Int32)) (some 0)) fun y2 => asrt (y2 = 0 ∨ y2 = 1) (some y2)) = some 0
    rw [ifb_neg (by decide), bnd1_c, asrt_pos (Or.inl rfl)]
  · show (bnd1 (ifb ((1 : Int32) = 1) (some (1 : Int32)) (some 0)) fun y2 => asrt (y2 = 0 ∨ y2 = 1) (some y2)) = some 1
    rw [ifb_pos rfl, bnd1_c, asrt_pos (Or.inr rfl)]
theorem isl1_k : ∀ d, d < 6 → isl 1 (nI d) = nI (2 ^ d) := by decide +kernel
theorem lt0_1 {x : Int32} (h : x < 0) : x < 1 := by
  have h0 : (0 : Int32).toInt = 0 := by decide
  have h1 : (1 : Int32).toInt = 1 := by decide
  rw [Int32.lt_iff_toInt_lt] at *
  omega
/-! meant -/
variable {B : Nat} {I : MI} {L : ML} {R : MR}
theorem meant_l (w lo li : Int32) {N : Nat} (hN : N ≤ 32) : ∀ (f k : Nat) (a : Int32), k ≤ N → N < k + f →
    ∃ v, l_GWL_meant_70 w lo li (nI N) f a (nI k) = some v ∧ l_Mod_meant_85 w lo li (nI N) f (a &&& li) (nI k) = some (v &&& li) := by
  intro f
  induction f with
  | zero => intro k a h1 h2; omega
  | succ f ih =>
    intro k a h1 h2
    rw [l_GWL_meant_70, l_Mod_meant_85]
    by_cases hk : k = N
    · subst hk
      have hle : nI k ≤ nI k := by rw [le32 (by omega) (by omega)]; omega
      exact ⟨a, ifb_pos hle, ifb_pos hle⟩
    · have hle : ¬ nI N ≤ nI k := by rw [le32 (by omega) (by omega)]; omega
      have hk32 : k < 32 := by omega
      rw [ifb_neg hle, ifb_neg hle, has_c li hk32, bnd1_c, nI_1]
      by_cases hc : ((nI k ^^^ w) &&& (lo ^^^ (-1))) = 0
      · rw [ifb_pos hc, lt_c, bnd1_c]
        obtain ⟨v, e1, e2⟩ := ih (k + 1) (a ||| isl 1 (nI k)) (by omega) (by omega)
        refine ⟨v, e1, ?_⟩
        have hx : (a ||| isl 1 (nI k)) &&& li = (a &&& li) ||| (if b32 li k then isl 1 (nI k) else 0) := by
          apply ext32
          intro c hc
          rw [b32_and, b32_or, b32_or, b32_and, b32_1 hk32]
          by_cases h : c = k
          · subst h
            cases hb : b32 li c
            · simp [b32_0]
            · rw [if_pos rfl, b32_1 hk32]
              simp
          · cases hb : b32 li k
            · simp [h, b32_0]
            · rw [if_pos rfl, b32_1 hk32]
              simp [h]
        rw [hx] at e2
        cases hb : b32 li k
        · rw [hb, if_neg (by simp)] at e2
          rw [if_neg (by simp), ifb_pos rfl, bnd1_c, lt_c]
          exact e2
        · rw [hb, if_pos rfl] at e2
          rw [if_pos rfl, ifb_neg (by decide), ifb_pos hc, bnd1_c, lt_c]
          exact e2
      · rw [ifb_neg hc, bnd1_c]
        obtain ⟨v, e1, e2⟩ := ih (k + 1) a (by omega) (by omega)
        refine ⟨v, e1, ?_⟩
        have hz : (a &&& li) ||| 0 = a &&& li := by
          apply ext32
          intro c hc
          rw [b32_or, b32_0, Bool.or_false]
        cases hb : b32 li k
        · rw [if_neg (by simp), ifb_pos rfl, bnd1_c, lt_c, hz]
          exact e2
        · rw [if_pos rfl, ifb_neg (by decide), ifb_neg hc, bnd1_c, lt_c, hz]
          exact e2
theorem ne10 : ¬ (1 : Int32) = 0 := by decide
theorem op_meant {g : Nat} (hg : 1000 ≤ g) (hC : Cp B I L R) (x y z w : Int32) : ∃ v I2, f_GWL_meant g 0 x y z w = some v ∧ f_Mod_meant g S1 I 90 x y z w = some (v, I2) ∧ Cp (B + 1) I2 L R := by
  obtain ⟨⟨p, fe, hR⟩, hTx, hRw, hWg, hFe, hSh, hMk, W, H, K, hLn, hPt, hPs, hPr, hKp⟩ := hC
  have f0 : Fr [(90, some 0)] I (wI I 90 0 0) := Fr.w Fr.rf rfl
  have fin : Cp (B + 1) (wI I 90 0 0) L R := by
    refine ⟨⟨_, _, hR⟩, hTx.imp fun _ h => h.imp fun _ h => h.ag (f0.ag rfl), hRw.imp fun _ h => h.imp fun _ h => h.ag (f0.ag rfl) (fun _ _ _ => rfl), hWg.imp fun _ h => h.imp fun _ h => h.ag (f0.ag rfl), hFe.imp fun _ h => h.ag (f0.ag rfl), hSh.ag (f0.ag rfl), hMk.imp fun _ h => h.ag (f0.ag rfl), W, H, K, hLn.ag (f0.ag rfl), hPt.imp fun _ h => h.ag (f0.ag rfl), hPs.imp fun _ h => h.imp fun _ h => h.imp fun _ h => h.ag (f0.ag rfl), hPr.imp fun _ h => h.imp fun _ h => h.imp fun _ h => h.ag (f0.ag rfl), hKp.ag (f0.ag rfl)⟩
  unfold f_GWL_meant f_Mod_meant
  have hin : f_Mod_in x.toInt64 1 5 = some (if 1 ≤ x ∧ x ≤ 5 then 1 else 0) := by
    rw [in_g, show (1 : Int64) = (1 : Int32).toInt64 from rfl, show (5 : Int64) = (5 : Int32).toInt64 from rfl]
    simp only [Int32.toInt64_le]
  by_cases h1 : x < 1
  · exact ⟨-1, _, by rw [ifb_pos h1], by rw [lt_c, hin, if_neg (fun z => Int32.not_le.mpr h1 z.1), bnd1_c, ifb_pos rfl], fin⟩
  by_cases h5 : x ≤ 5
  rotate_left
  · exact ⟨-1, _, by rw [ifb_neg h1, ifb_neg h5], by rw [lt_c, hin, if_neg (fun z => h5 z.2), bnd1_c, ifb_pos rfl], fin⟩
  obtain ⟨n, hn1, hn5, rfl⟩ : ∃ n, 1 ≤ n ∧ n ≤ 5 ∧ x = nI n := by
    rcases ix4 x 5 (by omega) with h | ⟨n, hn, rfl⟩
    · rcases h with h | h
      · exact absurd (lt0_1 h) h1
      · exact absurd h (Int32.not_lt.mpr h5)
    · refine ⟨n, ?_, hn, rfl⟩
      rw [show (1 : Int32) = nI 1 from rfl, lt32 (by omega) (by omega)] at h1
      omega
  have hp : 2 ^ n ≤ 32 := by
    have : 2 ^ n ≤ 2 ^ 5 := Nat.pow_le_pow_right (by decide) hn5
    omega
  have hp1 : 1 ≤ 2 ^ n := Nat.one_le_two_pow
  rw [ifb_neg h1, ifb_pos h5, isl1_k n (by omega), lt_c, lt_c, hin, if_pos ⟨Int32.not_lt.mp h1, h5⟩, bnd1_c, ifb_neg (show ¬ (1 : Int32) = 0 by decide), lt_c]
  obtain ⟨b, hb, hb1, hb2⟩ : ∃ b : Bool, (∀ {β : Type} (g : Int32 → Option β), bnd1 (ifb (5 ≤ nI n) (some (0 : Int32)) (ifb (ius w (nI (2 ^ n)) = 0) (some 0) (some 1))) g = g (if b then 1 else 0)) ∧
      (∀ {β : Type} (g : Int32 → Option β), bnd1 (ifb (nI n = 5) (some (1 : Int32)) (ifb (ius w (nI (2 ^ n)) = 0) (some 1) (some 0))) g = g (if b then 0 else 1)) ∧ True := by
    by_cases e5 : n = 5
    · subst e5
      exact ⟨false, fun g => by rw [ifb_pos (by decide)]; rfl, fun g => by rw [ifb_pos (by decide)]; rfl, trivial⟩
    · have q1 : ¬ 5 ≤ nI n := by rw [show (5 : Int32) = nI 5 from rfl, le32 (by omega) (by omega)]; omega
      have q2 : ¬ nI n = 5 := by rw [show (5 : Int32) = nI 5 from rfl, eq32 (by omega) (by omega)]; omega
      by_cases e : ius w (nI (2 ^ n)) = 0
      · exact ⟨false, fun g => by rw [ifb_neg q1, ifb_pos e]; rfl, fun g => by rw [ifb_neg q2, ifb_pos e]; rfl, trivial⟩
      · exact ⟨true, fun g => by rw [ifb_neg q1, ifb_neg e]; rfl, fun g => by rw [ifb_neg q2, ifb_neg e]; rfl, trivial⟩
  rw [hb, hb1, sub1 hp1]
  rcases ix3 y (2 ^ n) (by omega) with hy | ⟨a, ha, rfl⟩
  · refine ⟨-1, _, ?_, ?_, fin⟩
    · by_cases h : y < 0
      · rw [ifb_pos h]
      · rw [ifb_neg h, ifb_pos (hy.resolve_left h)]
    · rw [in_f rfl (show y < 0 ∨ nI (2 ^ n - 1) < y from hy.imp id (fun h => (le_gt (n := 2 ^ n - 1) (by omega)).mp (by rw [Nat.sub_add_cancel hp1]; exact h))), bnd1_c, ifb_pos rfl]
  rw [ifb_neg (zn (by omega)), ifb_neg (by rw [le32 (by omega) (by omega)]; omega), in_t rfl (by omega) (by omega), bnd1_c, ifb_neg ne10]
  rcases ix3 z (2 ^ n) (by omega) with hz | ⟨c, hc, rfl⟩
  · refine ⟨-1, _, ?_, ?_, fin⟩
    · by_cases h : z < 0
      · rw [ifb_pos h]
      · rw [ifb_neg h, ifb_pos (hz.resolve_left h)]
    · rw [in_f rfl (show z < 0 ∨ nI (2 ^ n - 1) < z from hz.imp id (fun h => (le_gt (n := 2 ^ n - 1) (by omega)).mp (by rw [Nat.sub_add_cancel hp1]; exact h))), bnd1_c, ifb_pos rfl]
  rw [ifb_neg (zn (by omega)), ifb_neg (by rw [le32 (by omega) (by omega)]; omega), in_t rfl (by omega) (by omega), bnd1_c, ifb_neg ne10]
  cases b with
  | true => exact ⟨-1, _, by rw [if_pos rfl, ifb_neg ne10], by rw [if_pos rfl, ifb_pos rfl], fin⟩
  | false =>
    obtain ⟨v, e1, e2⟩ := meant_l (nI a) (nI c) w hp g 0 0 (by omega) (by omega)
    have hz0 : (0 : Int32) &&& w = 0 := by
      apply ext32
      intro c hc
      rw [b32_and, b32_0, Bool.false_and]
    rw [hz0] at e2
    refine ⟨v &&& w, _, ?_, ?_, fin⟩
    · rw [if_neg (by simp), ifb_pos rfl, show l_GWL_meant_70 (nI a) (nI c) w (nI (2 ^ n)) g 0 0 = some v from e1, bnd1_c, lt_c]
    · rw [if_neg (by simp), ifb_neg ne10, show l_Mod_meant_85 (nI a) (nI c) w (nI (2 ^ n)) g 0 0 = some (v &&& w) from e2, bnd1_c]
end BI
