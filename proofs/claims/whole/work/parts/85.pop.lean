section PC
variable {k n b : Nat}
/-! how many bits a long has -/
def mkB (r : Nat) : Nat → Nat
  | 0 => 0
  | k + 1 => r + 256 * mkB r k
theorem and_sp {r : Nat} (hr : r < 256) (q : Nat) : q &&& mkB r (k + 1) = (q % 256 &&& r) + 256 * (q / 256 &&& mkB r k) := by
  have h1 := Nat.div_add_mod (q &&& mkB r (k + 1)) 256
  have h2 : (q &&& mkB r (k + 1)) / 2 ^ 8 = q / 2 ^ 8 &&& mkB r (k + 1) / 2 ^ 8 := Nat.and_div_two_pow
  have h3 : (q &&& mkB r (k + 1)) % 2 ^ 8 = (q % 2 ^ 8) &&& (mkB r (k + 1) % 2 ^ 8) := Nat.and_mod_two_pow
  have e1 : mkB r (k + 1) / 256 = mkB r k := by rw [mkB]; omega
  have e2 : mkB r (k + 1) % 256 = r := by rw [mkB]; omega
  rw [show 2 ^ 8 = 256 from rfl, e1] at h2
  rw [show 2 ^ 8 = 256 from rfl, e2] at h3
  rw [h2, h3] at h1
  omega
def pA (k n : Nat) : Nat := n - ((n / 2) &&& mkB 85 k)
def pBb (k n : Nat) : Nat := (n &&& mkB 51 k) + ((n / 4) &&& mkB 51 k)
def pCc (k n : Nat) : Nat := (n + n / 16) &&& mkB 15 k
def sA (b : Nat) : Nat := b - ((b / 2) &&& 85)
def sBb (b : Nat) : Nat := (b &&& 51) + ((b / 4) &&& 51)
def pc8 (b : Nat) : Nat := b % 2 + b / 2 % 2 + b / 4 % 2 + b / 8 % 2 + b / 16 % 2 + b / 32 % 2 + b / 64 % 2 + b / 128 % 2
theorem ps1 : ∀ b, b < 256 → ∀ e, e < 2 → (b / 2 + 128 * e) &&& 85 = (b / 2) &&& 85 := by decide +kernel
theorem ps2 : ∀ b, b < 256 → ∀ e, e < 4 → (b / 4 + 64 * e) &&& 51 = (b / 4) &&& 51 := by decide +kernel
theorem ps3 : ∀ b, b < 256 → ∀ e, e < 5 → (sBb (sA b) + sBb (sA b) / 16 + 16 * e) &&& 15 = pc8 b := by decide +kernel
theorem ps4 : ∀ b, b < 256 → sBb (sA b) ≤ 68 ∧ sBb (sA b) % 16 ≤ 4 := by decide +kernel
theorem pA_s (n : Nat) : pA (k + 1) n = sA (n % 256) + 256 * pA k (n / 256) := by
  unfold pA sA
  have e1 : n / 2 % 256 = n % 256 / 2 + 128 * (n / 256 % 2) := by omega
  have e2 : n / 2 / 256 = n / 256 / 2 := by omega
  rw [and_sp (by omega) (n / 2), e1, e2, ps1 _ (by omega) _ (by omega)]
  have h1 : (n % 256 / 2) &&& 85 ≤ n % 256 / 2 := Nat.and_le_left
  have h2 : (n / 256 / 2) &&& mkB 85 k ≤ n / 256 / 2 := Nat.and_le_left
  omega
theorem pBb_s (n : Nat) : pBb (k + 1) n = sBb (n % 256) + 256 * pBb k (n / 256) := by
  unfold pBb sBb
  have e1 : n / 4 % 256 = n % 256 / 4 + 64 * (n / 256 % 4) := by omega
  have e2 : n / 4 / 256 = n / 256 / 4 := by omega
  rw [and_sp (by omega) (n / 4), and_sp (by omega) n, e1, e2, ps2 _ (by omega) _ (by omega)]
  omega
theorem U_s (n : Nat) : pBb (k + 1) (pA (k + 1) n) = sBb (sA (n % 256)) + 256 * pBb k (pA k (n / 256)) := by
  have h : sA (n % 256) ≤ n % 256 := Nat.sub_le _ _
  rw [pBb_s, pA_s, show (sA (n % 256) + 256 * pA k (n / 256)) % 256 = sA (n % 256) by omega, show (sA (n % 256) + 256 * pA k (n / 256)) / 256 = pA k (n / 256) by omega]
theorem U_16 : ∀ k n, pBb k (pA k n) % 16 ≤ 4 := by
  intro k n
  cases k with
  | zero => unfold pBb; rw [mkB, Nat.and_zero, Nat.and_zero]; omega
  | succ k =>
    rw [U_s]
    have := (ps4 (n % 256) (by omega)).2
    omega
def pT (k n : Nat) : Nat := pCc k (pBb k (pA k n))
theorem pT_s (n : Nat) : pT (k + 1) n = pc8 (n % 256) + 256 * pT k (n / 256) := by
  unfold pT pCc
  have h4 := ps4 (n % 256) (by omega)
  have h16 := U_16 k (n / 256)
  rw [U_s]
  obtain ⟨u, hu⟩ : ∃ u, u = pBb k (pA k (n / 256)) := ⟨_, rfl⟩
  have h3 := ps3 (n % 256) (by omega) (u % 16) (by omega)
  obtain ⟨s, hs⟩ : ∃ s, s = sBb (sA (n % 256)) := ⟨_, rfl⟩
  rw [← hu] at h16 ⊢
  rw [← hs] at h4 h3 ⊢
  have e1 : (s + 256 * u + (s + 256 * u) / 16) % 256 = s + s / 16 + 16 * (u % 16) := by omega
  have e2 : (s + 256 * u + (s + 256 * u) / 16) / 256 = u + u / 16 := by omega
  rw [and_sp (by omega), e1, e2, h3]
theorem pc8_le (b : Nat) : pc8 b ≤ 8 := by unfold pc8; omega
/-- how many of the first n are so -/
def cnt (f : Nat → Bool) : Nat → Nat
  | 0 => 0
  | n + 1 => cnt f n + (if f n = true then 1 else 0)
theorem cnt_eq {f f' : Nat → Bool} : ∀ n, (∀ i, i < n → f i = f' i) → cnt f n = cnt f' n := by
  intro n
  induction n with
  | zero => intro _; rfl
  | succ n ih => intro h; rw [cnt, cnt, ih (fun i hi => h i (by omega)), h n (by omega)]
theorem cnt_le {f : Nat → Bool} : ∀ n, cnt f n ≤ n := by
  intro n
  induction n with
  | zero => exact Nat.le_refl _
  | succ n ih => rw [cnt]; split <;> omega
theorem cnt_0 {f : Nat → Bool} : ∀ m n, n ≤ m → (∀ i, n ≤ i → i < m → f i = false) → cnt f m = cnt f n := by
  intro m
  induction m with
  | zero => intro n h _; rw [show n = 0 by omega]
  | succ m ih =>
    intro n h hf
    by_cases e : n = m + 1
    · rw [e]
    · rw [cnt, hf m (by omega) (by omega), ih n (by omega) (fun i h1 h2 => hf i h1 (by omega))]
      rfl
theorem cnt_sh {f : Nat → Bool} (a : Nat) : ∀ n, cnt f (a + n) = cnt f a + cnt (fun i => f (i + a)) n := by
  intro n
  induction n with
  | zero => rfl
  | succ n ih => rw [show a + (n + 1) = a + n + 1 by omega, cnt, cnt, ih, Nat.add_comm n a]; omega
theorem pc8_k : ∀ b, b < 256 → pc8 b = cnt (fun i => b.testBit i) 8 := by decide +kernel
theorem pc8_c (n : Nat) : pc8 (n % 256) = cnt (fun i => n.testBit i) 8 := by
  rw [pc8_k _ (by omega)]
  refine cnt_eq 8 (fun i hi => ?_)
  show (n % 2 ^ 8).testBit i = n.testBit i
  rw [Nat.testBit_mod_two_pow, decide_eq_true hi, Bool.true_and]
def pS : Nat → Nat → Nat
  | 0, _ => 0
  | k + 1, n => pc8 (n % 256) + pS k (n / 256)
theorem pS_c : ∀ k n, pS k n = cnt (fun i => n.testBit i) (8 * k) := by
  intro k
  induction k with
  | zero => intro n; rfl
  | succ k ih =>
    intro n
    rw [pS, ih, pc8_c, show 8 * (k + 1) = 8 + 8 * k by omega, cnt_sh]
    congr 1
    refine cnt_eq _ (fun i _ => ?_)
    show (n / 2 ^ 8).testBit i = n.testBit (i + 8)
    rw [Nat.testBit_div_two_pow]
theorem fb1 {a c u M : Nat} (h : a = c + 256 * u) (hc : c ≤ 8) (hu : u ≤ M) : a ≤ 8 + 256 * M := by omega
theorem fd1 {a c u : Nat} (h : a = c + 256 * u) (hc : c ≤ 8) : a / 256 = u := by omega
theorem fd2 {a c d u : Nat} (h : a = c + 256 * (d + 256 * u)) (hc : c ≤ 16) (hd : d ≤ 16) : a / 65536 = u := by omega
theorem fd4 {a c d e f u : Nat} (h : a = c + 256 * (d + 256 * (e + 256 * (f + 256 * u)))) (hc : c ≤ 32) (hd : d ≤ 32) (he : e ≤ 32) (hf : f ≤ 32) : a / 4294967296 = u := by
  have h1 : a / 256 = d + 256 * (e + 256 * (f + 256 * u)) := by omega
  have h2 : a / 256 / 256 = e + 256 * (f + 256 * u) := by rw [h1]; omega
  have h3 : a / 256 / 256 / 256 = f + 256 * u := by rw [h2]; omega
  have h4 : a / 256 / 256 / 256 / 256 = u := by rw [h3]; omega
  rw [← h4, Nat.div_div_eq_div_mul, Nat.div_div_eq_div_mul, Nat.div_div_eq_div_mul]
theorem fs1 {a b c d u v : Nat} (h : a = c + 256 * u) (h' : b = d + 256 * v) : a + b = (c + d) + 256 * (u + v) := by omega
theorem fold64 {c0 c1 c2 c3 c4 c5 c6 c7 u1 u2 u3 u4 u5 u6 t x4 x5 x6 : Nat} (h0 : c0 ≤ 8) (h1 : c1 ≤ 8) (h2 : c2 ≤ 8) (h3 : c3 ≤ 8) (h4 : c4 ≤ 8) (h5 : c5 ≤ 8) (h6 : c6 ≤ 8) (h7 : c7 ≤ 8) (ht : t = c0 + 256 * u1) (k1 : u1 = c1 + 256 * u2) (k2 : u2 = c2 + 256 * u3) (k3 : u3 = c3 + 256 * u4) (k4 : u4 = c4 + 256 * u5) (k5 : u5 = c5 + 256 * u6) (k6 : u6 = c6 + 256 * c7)
    (e4 : x4 = (t + t / 256) % 18446744073709551616) (e5 : x5 = (x4 + x4 / 65536) % 18446744073709551616) (e6 : x6 = (x5 + x5 / 4294967296) % 18446744073709551616) : x6 % 128 = c0 + c1 + c2 + c3 + c4 + c5 + c6 + c7 := by
  have b6 : u6 ≤ 2056 := fb1 k6 h6 h7
  have b5 : u5 ≤ 526344 := fb1 k5 h5 b6
  have b4 : u4 ≤ 134744072 := fb1 k4 h4 b5
  have b3 : u3 ≤ 34494482440 := fb1 k3 h3 b4
  have b2 : u2 ≤ 8830587504648 := fb1 k2 h2 b3
  have b1 : u1 ≤ 2260630401189896 := fb1 k1 h1 b2
  have b0 : t ≤ 578721382704613384 := fb1 ht h0 b1
  have k7 : c7 = c7 + 256 * 0 := rfl
  have p0 := fs1 ht k1
  have p1 := fs1 k1 k2
  have p2 := fs1 k2 k3
  have p3 := fs1 k3 k4
  have p4 := fs1 k4 k5
  have p5 := fs1 k5 k6
  have p6 := fs1 k6 k7
  have q5 : (t + u1) / 65536 = u2 + u3 := fd2 (p0.trans (by rw [p1])) (by clear e4 e5 e6; omega) (by clear e4 e5 e6; omega)
  have r0 := fs1 p0 p2
  have r1 := fs1 p1 p3
  have r2 := fs1 p2 p4
  have r3 := fs1 p3 p5
  have r4 := fs1 p4 p6
  have q6 : (t + u1 + (u2 + u3)) / 4294967296 = u4 + u5 + (u6 + c7) := by
    refine fd4 (c := c0 + c1 + (c2 + c3)) (d := c1 + c2 + (c3 + c4)) (e := c2 + c3 + (c4 + c5)) (f := c3 + c4 + (c5 + c6)) ?_ ?_ ?_ ?_ ?_
    · rw [r0, r1, r2, r3]
    all_goals clear e4 e5 e6 p0 p1 p2 p3 p4 p5 p6 r0 r1 r2 r3 r4 q5; omega
  rw [fd1 ht h0, Nat.mod_eq_of_lt (by clear e4 e5 e6 p0 p1 p2 p3 p4 p5 p6 r0 r1 r2 r3 r4 q5 q6; omega)] at e4
  rw [e4, q5, Nat.mod_eq_of_lt (by clear e4 e5 e6 p0 p1 p2 p3 p4 p5 p6 r0 r1 r2 r3 r4 q5 q6; omega)] at e5
  rw [e5, q6, Nat.mod_eq_of_lt (by clear e4 e5 e6 p0 p1 p2 p3 p4 p5 p6 r0 r1 r2 r3 r4 q5 q6; omega)] at e6
  have fin := fs1 r0 r4
  rw [← e6] at fin
  clear e4 e5 e6 p0 p1 p2 p3 p4 p5 p6 r0 r1 r2 r3 r4 q5 q6 ht k1 k2 k3 k4 k5 k6 k7 b0 b1 b2 b3 b4 b5 b6
  omega
/-! longs as numbers -/
def u64 (x : Int64) : Nat := x.toBitVec.toNat
theorem u_lt (x : Int64) : u64 x < 18446744073709551616 := x.toBitVec.isLt
theorem u_lus (x : Int64) {d : Nat} (h : d < 64) : u64 (lus x (nI d)) = u64 x / 2 ^ d := by
  unfold u64
  rw [lus_b x h, BitVec.toNat_ushiftRight, Nat.shiftRight_eq_div_pow]
theorem u_and (x y : Int64) : u64 (x &&& y) = u64 x &&& u64 y := by
  unfold u64
  rw [Int64.toBitVec_and, BitVec.toNat_and]
theorem u_add (x y : Int64) : u64 (x + y) = (u64 x + u64 y) % 18446744073709551616 := by
  unfold u64
  rw [Int64.toBitVec_add, BitVec.toNat_add]
theorem u_sub {x y : Int64} (h : u64 y ≤ u64 x) : u64 (x - y) = u64 x - u64 y := by
  unfold u64 at *
  rw [Int64.toBitVec_sub, BitVec.toNat_sub_of_le h]
theorem lbit_e (x : Int64) : f_JLong_bitCount x = some (nI (cnt (b64 x) 64)) := by
  unfold f_JLong_bitCount
  rw [lt_c, lt_c, lt_c, lt_c, lt_c, lt_c, lt_c]
  obtain ⟨n, hn⟩ : ∃ n, n = u64 x := ⟨_, rfl⟩
  have hnl := u_lt x
  have m5 : u64 6148914691236517205 = mkB 85 8 := by decide +kernel
  have m3 : u64 3689348814741910323 = mkB 51 8 := by decide +kernel
  have mf : u64 1085102592571150095 = mkB 15 8 := by decide +kernel
  obtain ⟨x1, hx1⟩ : ∃ x1, x1 = x - ((lus x 1) &&& 6148914691236517205) := ⟨_, rfl⟩
  rw [← hx1]
  have a1 : u64 ((lus x 1) &&& 6148914691236517205) = (n / 2) &&& mkB 85 8 := by
    rw [u_and, m5, show (1 : Int32) = nI 1 from rfl, u_lus x (by omega), hn]
  have b1 : (n / 2) &&& mkB 85 8 ≤ n / 2 := Nat.and_le_left
  have c1 : u64 x1 = pA 8 n := by
    rw [hx1, u_sub (by rw [a1, ← hn]; omega), a1, ← hn]
    rfl
  obtain ⟨x2, hx2⟩ : ∃ x2, x2 = (x1 &&& 3689348814741910323) + ((lus x1 2) &&& 3689348814741910323) := ⟨_, rfl⟩
  rw [← hx2]
  have m3v : mkB 51 8 = 3689348814741910323 := by decide +kernel
  have c2 : u64 x2 = pBb 8 (pA 8 n) := by
    have b2 : pA 8 n &&& mkB 51 8 ≤ mkB 51 8 := Nat.and_le_right
    have b3 : pA 8 n / 4 &&& mkB 51 8 ≤ mkB 51 8 := Nat.and_le_right
    rw [hx2, u_add, u_and, u_and, m3, show (2 : Int32) = nI 2 from rfl, u_lus x1 (by omega), c1]
    unfold pBb
    rw [show (2 : Nat) ^ 2 = 4 from rfl]
    omega
  obtain ⟨x3, hx3⟩ : ∃ x3, x3 = (x2 + (lus x2 4)) &&& 1085102592571150095 := ⟨_, rfl⟩
  rw [← hx3]
  have hl2 : pBb 8 (pA 8 n) ≤ 2 * 3689348814741910323 := by
    have b2 : pA 8 n &&& mkB 51 8 ≤ mkB 51 8 := Nat.and_le_right
    have b3 : pA 8 n / 4 &&& mkB 51 8 ≤ mkB 51 8 := Nat.and_le_right
    unfold pBb
    omega
  have c3 : u64 x3 = pT 8 n := by
    rw [hx3, u_and, mf, u_add, show (4 : Int32) = nI 4 from rfl, u_lus x2 (by omega), c2, show (2 : Nat) ^ 4 = 16 from rfl, Nat.mod_eq_of_lt (by omega)]
    rfl
  obtain ⟨x4, hx4⟩ : ∃ x4, x4 = x3 + (lus x3 8) := ⟨_, rfl⟩
  rw [← hx4]
  obtain ⟨x5, hx5⟩ : ∃ x5, x5 = x4 + (lus x4 16) := ⟨_, rfl⟩
  rw [← hx5]
  obtain ⟨x6, hx6⟩ : ∃ x6, x6 = x5 + (lus x5 32) := ⟨_, rfl⟩
  rw [← hx6]
  have d4 : u64 x4 = (u64 x3 + u64 x3 / 256) % 18446744073709551616 := by
    rw [hx4, u_add, show (8 : Int32) = nI 8 from rfl, u_lus x3 (by omega), show (2 : Nat) ^ 8 = 256 from rfl]
  have d5 : u64 x5 = (u64 x4 + u64 x4 / 65536) % 18446744073709551616 := by
    rw [hx5, u_add, show (16 : Int32) = nI 16 from rfl, u_lus x4 (by omega), show (2 : Nat) ^ 16 = 65536 from rfl]
  have d6 : u64 x6 = (u64 x5 + u64 x5 / 4294967296) % 18446744073709551616 := by
    rw [hx6, u_add, show (32 : Int32) = nI 32 from rfl, u_lus x5 (by omega), show (2 : Nat) ^ 32 = 4294967296 from rfl]
  have r := fold64 (pc8_le (n % 256)) (pc8_le (n / 256 % 256)) (pc8_le (n / 256 / 256 % 256)) (pc8_le (n / 256 / 256 / 256 % 256)) (pc8_le (n / 256 / 256 / 256 / 256 % 256)) (pc8_le (n / 256 / 256 / 256 / 256 / 256 % 256)) (pc8_le (n / 256 / 256 / 256 / 256 / 256 / 256 % 256)) (pc8_le (n / 256 / 256 / 256 / 256 / 256 / 256 / 256 % 256)) (c3.trans (pT_s n)) (pT_s _) (pT_s _) (pT_s _) (pT_s _) (pT_s _) (by rw [pT_s, pT_s]; unfold pT pCc; rw [mkB, Nat.and_zero]; rfl) d4 d5 d6
  have hs : pS 8 n = cnt (b64 x) 64 := by
    rw [pS_c]
    refine cnt_eq _ (fun i _ => ?_)
    show n.testBit i = x.toBitVec.getLsbD i
    rw [hn]
    rfl
  rw [pk_and (Int64.toInt32 x6) 7 (by decide), ← hs]
  have e32 : (Int64.toInt32 x6).toBitVec.toNat = u64 x6 % 4294967296 := by
    rw [Int64.toBitVec_toInt32, BitVec.signExtend_eq_setWidth_of_le _ (by omega), BitVec.toNat_setWidth]
    rfl
  rw [e32, show u64 x6 % 4294967296 % 2 ^ 7 = u64 x6 % 128 by omega, r]
  have e8 : pS 8 n = pc8 (n % 256) + (pc8 (n / 256 % 256) + (pc8 (n / 256 / 256 % 256) + (pc8 (n / 256 / 256 / 256 % 256) + (pc8 (n / 256 / 256 / 256 / 256 % 256) + (pc8 (n / 256 / 256 / 256 / 256 / 256 % 256) + (pc8 (n / 256 / 256 / 256 / 256 / 256 / 256 % 256) + (pc8 (n / 256 / 256 / 256 / 256 / 256 / 256 / 256 % 256) + 0))))))) := rfl
  rw [e8]
  congr 2
  omega
end PC
