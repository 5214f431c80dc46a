section CO
variable {I I' J : MI} {L L' L0 : ML} {R : MR} {p : Bool} {fe n d w rest m : Nat} {tk best best' r : List Nat}
/-! codes of two sounds: both searches as rows of words, looked through by the kernel -/
def pc5 (x : Nat) : Nat := x % 2 + x / 2 % 2 + x / 4 % 2 + x / 8 % 2 + x / 16 % 2
def hdA (x : Int32) : Int32 := x - ((ius x 1) &&& 1431655765)
def hdB (x : Int32) : Int32 := (x &&& 858993459) + ((ius x 2) &&& 858993459)
def hdC (x : Int32) : Int32 := (x + (ius x 4)) &&& 252645135
def hdD (x : Int32) : Int32 := x + (ius x 8)
def hdE (x : Int32) : Int32 := x + (ius x 16)
def hdc (x : Int32) : Int32 := hdE (hdD (hdC (hdB (hdA x)))) &&& 63
theorem bitc_e (x : Int32) : f_JInt_bitCount x = some (hdc x) := rfl
theorem hdc5 : ∀ x, x < 32 → hdc (nI x) = nI (pc5 x) := by decide +kernel
theorem xor5 : ∀ a, a < 32 → ∀ b, b < 32 → nI a ^^^ nI b = nI (a ^^^ b) := by decide +kernel
theorem pc5_lt (x : Nat) : pc5 x < 6 := by unfold pc5; omega
theorem b32_n {n c : Nat} (hc : c < 32) : b32 (nI n) c = n.testBit c := by
  show (BitVec.ofNat 32 n).getLsbD c = _
  rw [BitVec.getLsbD_ofNat, decide_eq_true hc, Bool.true_and]
theorem nI_or (a b : Nat) : nI a ||| nI b = nI (a ||| b) := ext32 fun c hc => by rw [b32_or, b32_n hc, b32_n hc, b32_n hc, Nat.testBit_or]
theorem nI_and (a b : Nat) : nI a &&& nI b = nI (a &&& b) := ext32 fun c hc => by rw [b32_and, b32_n hc, b32_n hc, b32_n hc, Nat.testBit_and]
theorem isl1_32 : ∀ d, d < 32 → isl 1 (nI d) = nI (2 ^ d) := by decide +kernel
theorem nots_32 : ∀ d, d < 32 → nI (2 ^ d) ^^^ (-1) = nI (4294967295 - 2 ^ d) := by decide +kernel
theorem nI_0iff {n : Nat} (h : n < 4294967296) : nI n = 0 ↔ n = 0 := by
  constructor
  · intro e
    have := congrArg (fun x : Int32 => x.toBitVec.toNat) e
    rw [pk_tn (by omega)] at this
    exact this
  · intro e; subst e; rfl
def ntzS (q : Int32 × Int32) (li sh : Int32) : Int32 × Int32 := if q.1 ≤ li then q else (ius q.1 sh, q.2 + sh)
def ntzT (x : Int32) : Int32 := if 0 < x then (ntzS (ntzS (ntzS (ntzS (x, 1) 65536 16) 256 8) 16 4) 4 2).2 + ius (ntzS (ntzS (ntzS (ntzS (x, 1) 65536 16) 256 8) 16 4) 4 2).1 1 else x &&& 32
theorem ntzS_c {β : Type} {q : Int32 × Int32} {li sh : Int32} {f : Int32 → Int32 → Option β} : bnd2 (ifb (q.1 ≤ li) (some (q.1, q.2)) (lt (ius q.1 sh) fun x => some (x, q.2 + sh))) f = f (ntzS q li sh).1 (ntzS q li sh).2 := by
  unfold ntzS
  by_cases h : q.1 ≤ li
  · rw [ifb_pos h, if_pos h, bnd2_c]
  · rw [ifb_neg h, if_neg h, lt_c, bnd2_c]
theorem ntz_e (x : Int32) : f_JInt_numberOfTrailingZeros x = some (ntzT ((x ^^^ (-1)) &&& (x - 1))) := by
  unfold f_JInt_numberOfTrailingZeros ntzT
  rw [lt_c]
  by_cases h : 0 < (x ^^^ (-1)) &&& (x - 1)
  · rw [ifb_pos h, if_pos h]
    refine (ntzS_c (q := ((x ^^^ (-1)) &&& (x - 1), 1)) (li := 65536) (sh := 16)).trans ?_
    refine (ntzS_c (li := 256) (sh := 8)).trans ?_
    refine (ntzS_c (li := 16) (sh := 4)).trans ?_
    refine (ntzS_c (li := 4) (sh := 2)).trans ?_
    rw [lt_c]
  · rw [ifb_neg h, if_neg h, lt_c]
/-! a number, a row looked through first -/
def frc {α : Type} (n : Nat) (f : Nat → α) : α := match n with
  | 0 => f 0
  | k + 1 => f (k + 1)
theorem frc_e {α : Type} (n : Nat) (f : Nat → α) : frc n f = f n := by cases n <;> rfl
def frcL {α : Type} : List Nat → (List Nat → α) → α
  | [], f => f []
  | x :: xs, f => frc x fun x => frcL xs fun xs => f (x :: xs)
theorem frcL_e {α : Type} : ∀ (l : List Nat) (f : List Nat → α), frcL l f = f l := by
  intro l
  induction l with
  | nil => intro f; rfl
  | cons x xs ih => intro f; rw [frcL, frc_e, ih]
def tzs (o : Nat) : Nat → Nat
  | 0 => 32
  | f + 1 => if o.testBit (31 - f) then 31 - f else tzs o f
def fars (d w rest : Nat) : Nat → Nat → Nat
  | 0, a => a
  | f + 1, a => fars d w rest f (if rest.testBit (31 - f) = true ∧ d ≤ pc5 ((31 - f) ^^^ w) then a ||| 2 ^ (31 - f) else a)
def bndO (x d : Int32) : Int32 := if d = 1 then hdc x else hdc ((x ||| ius x 1) &&& 1431655765)
theorem bndO_c (x d : Int32) : f_Mod_boundOf x d = some (bndO x d) := by
  unfold f_Mod_boundOf bndO
  by_cases h : d = 1
  · rw [ifb_pos h, if_pos h, bitc_e, bnd1_c, bnd1_c]
  · rw [ifb_neg h, if_neg h, bitc_e, bnd1_c, bnd1_c]
def chz : Nat → Nat → Nat → List Nat → List Nat → Option (List Nat)
  | 0, _, _, _, _ => none
  | rd + 1, d, o, tk, best => frcL (if tk.length ≤ best.length then best else tk) fun b1 =>
    if o = 0 then some b1
    else if nI b1.length < nI tk.length + bndO (nI o) (nI d) then
      frc (tzs o 32) fun w =>
      if w < 32 ∧ tk.length < 32 ∧ ntzT ((nI o ^^^ (-1)) &&& (nI o - 1)) = nI w then
        frc (o &&& (4294967295 - 2 ^ w)) fun rest =>
        frc (fars d w rest (31 - w) 0) fun th =>
        frcL (tk ++ [w]) fun tk1 =>
        match chz rd d th tk1 b1 with
        | none => none
        | some b2 => frcL b2 fun b2 => chz rd d rest tk b2
      else none
    else some b1
def farA (w m d : Nat) : Nat → Bool
  | 0 => true
  | f + 1 => if m.testBit (w - (f + 1)) = true ∧ pc5 (w ^^^ (w - (f + 1))) < d then false else farA w m d f
def grd (N d : Nat) : Nat → Nat → List Nat → List Nat
  | 0, _, r => r
  | f + 1, m, r => if farA (N - (f + 1)) m d (N - (f + 1)) = true then frc (m ||| 2 ^ (N - (f + 1))) fun m => frcL (r ++ [N - (f + 1)]) fun r => grd N d f m r else grd N d f m r
theorem codes_k : ∀ n, n < 5 → ∀ d, d < n + 1 → chz 40 (d + 1) (2 ^ 2 ^ (n + 1) - 1) [] [] = some (grd (2 ^ (n + 1)) (d + 1) (2 ^ (n + 1)) 0 []) := by decide +kernel
theorem or0_32 (a : Nat) : nI a ||| 0 = nI a := by rw [show (0 : Int32) = nI 0 from rfl, nI_or, Nat.or_zero]
theorem fars_c (hd : d < 2147483648) (hw : w < 32) {mm : Int32} : ∀ f F a, f ≤ 32 → f < F → l_Mod_chooses_86 90 mm (nI d) (nI w) (nI rest) F (nI a) (nI (32 - f)) = some (nI (fars d w rest f a)) := by
  intro f
  induction f with
  | zero =>
    intro F a h1 h2
    cases F with
    | zero => omega
    | succ F => rw [l_Mod_chooses_86, ifb_pos (by decide)]; rfl
  | succ f ih =>
    intro F a h1 h2
    cases F with
    | zero => omega
    | succ F =>
      have e : 32 - (f + 1) = 31 - f := by omega
      have e2 : 31 - f + 1 = 32 - f := by omega
      rw [l_Mod_chooses_86, e, ifb_neg (by rw [show (32 : Int32) = nI 32 from rfl, le32 (by omega) (by omega)]; omega), has_c _ (by omega), b32_n (by omega), bnd1_c, fars]
      by_cases hb : rest.testBit (31 - f) = true
      · have hx : (31 - f) ^^^ w < 32 := Nat.xor_lt_two_pow (n := 5) (by omega) (by omega)
        have hp5 := pc5_lt ((31 - f) ^^^ w)
        rw [if_pos hb, ifb_neg (by decide), xor5 _ (by omega) _ hw, bitc_e, hdc5 _ hx, bnd1_c]
        by_cases hp : pc5 ((31 - f) ^^^ w) < d
        · rw [ifb_pos ((lt32 (by omega) (by omega)).mpr hp), bnd1_c, lt_c, or0_32, if_neg (fun z => by omega), nI_1, e2]
          exact ih F a (by omega) (by omega)
        · rw [ifb_neg (fun z => hp ((lt32 (by omega) (by omega)).mp z)), isl1_32 _ (by omega), bnd1_c, lt_c, nI_or, if_pos ⟨hb, by omega⟩, nI_1, e2]
          exact ih F _ (by omega) (by omega)
      · rw [if_neg hb, ifb_pos rfl, bnd1_c, lt_c, or0_32, if_neg (fun z => hb z.1), nI_1, e2]
        exact ih F a (by omega) (by omega)
theorem fars_lt : ∀ f a, f ≤ 32 → a < 4294967296 → fars d w rest f a < 4294967296 := by
  intro f
  induction f with
  | zero => intro a _ h; exact h
  | succ f ih =>
    intro a h1 h
    rw [fars]
    refine ih _ (by omega) ?_
    split
    · refine Nat.or_lt_two_pow (n := 32) h ?_
      have : 2 ^ (31 - f) ≤ 2 ^ 31 := Nat.pow_le_pow_right (by decide) (by omega)
      omega
    · exact h
theorem gd_l {l : List Nat} {x k : Nat} (h : k < l.length) : (l ++ [x]).getD k 0 = l.getD k 0 := by
  rw [List.getD_eq_getElem?_getD, List.getD_eq_getElem?_getD, List.getElem?_append_left h]
theorem gd_r {l : List Nat} {x : Nat} : (l ++ [x]).getD l.length 0 = x := by
  rw [List.getD_eq_getElem?_getD, List.getElem?_append_right (Nat.le_refl _), Nat.sub_self]; rfl
theorem ap_len {l : List Nat} {x : Nat} : (l ++ [x]).length = l.length + 1 := by simp
theorem cpyT (hR : RG p fe R) {x1 x3 : Int32} (hm : m ≤ 32) : ∀ F k (I : MI), k ≤ m → m < k + F → (∀ j, j < k → I 113 j = I 112 j) → ∃ I', l_Mod_chooses_16 S1 R 90 x1 (nI m) x3 F I (nI k) = some I' ∧ Fr [(113, none)] I I' ∧ ∀ j, j < m → I' 113 j = I 112 j := by
  intro F
  induction F with
  | zero => intro k I h1 h2; omega
  | succ F ih =>
    intro k I h1 h2 h3
    rw [l_Mod_chooses_16]
    by_cases hk : k = m
    · subst hk
      exact ⟨I, by rw [ifb_pos ((le32 (by omega) (by omega)).mpr (Nat.le_refl _))], Fr.rf, h3⟩
    · obtain ⟨I', e, f1, c1⟩ := ih (k + 1) (wI I 113 k (I 112 k)) (by omega) (by omega) (fun j hj => by
        rw [wI_n (a := 113) (b := 112) (by omega)]
        by_cases ej : j = k
        · subst ej; exact wI_s
        · rw [wI_n (by omega)]; exact h3 j (by omega))
      refine ⟨I', ?_, (Fr.w Fr.rf rfl).tr f1, fun j hj => (c1 j hj).trans (wI_n (by omega))⟩
      rw [ifb_neg (by rw [le32 (by omega) (by omega)]; omega), r_90_40 hR, bnd1_c, r_90_39 hR, bnd1_c, t_112, asrt_pos rfl, asrt_pos (vir (by omega) (by omega)), cl32 (by omega), lt_c, t_113, asrt_pos rfl, asrt_pos (vir (by omega) (by omega)), lt_c, nI_1]
      exact e
def fCh : FT := [(112, none), (113, none), (90, some 41)]
theorem chooses_c {g : Nat} (hg : 100 ≤ g) (hR : RG p fe R) (hd : d < 6) : ∀ rd o tk best best', chz rd d o tk best = some best' → o < 4294967296 → tk.length ≤ 32 → best.length ≤ 32 → ∀ I : MI, I 90 41 = nI best.length → (∀ k, k < best.length → I 113 k = nI (best.getD k 0)) → (∀ k, k < tk.length → I 112 k = nI (tk.getD k 0)) →
    best'.length ≤ 32 ∧ ∃ I', f_Mod_chooses g rd S1 R I 90 (nI o) (nI tk.length) (nI d) = some I' ∧ Fr fCh I I' ∧ I' 90 41 = nI best'.length ∧ (∀ k, k < best'.length → I' 113 k = nI (best'.getD k 0)) ∧ ∀ k, k < tk.length → I' 112 k = I 112 k := by
  intro rd
  induction rd with
  | zero => intro o tk best best' h; rw [chz] at h; cases h
  | succ rd ih =>
    intro o tk best best' h ho ht hb I h41 h113 h112
    rw [chz, frcL_e] at h
    obtain ⟨b1, hb1⟩ : ∃ b1, b1 = if tk.length ≤ best.length then best else tk := ⟨_, rfl⟩
    rw [← hb1] at h
    have st : ∃ I2, (∀ {β : Type} (f : MI → Option β), bnd1 (ifb (nI tk.length ≤ I 90 41) (some I) (lt (wI I 90 41 (nI tk.length)) fun I5 => bnd1 (l_Mod_chooses_16 S1 R 90 (nI o) (nI tk.length) (nI d) g I5 0) fun I15 => some I15)) f = f I2) ∧ Fr [(113, none), (90, some 41)] I I2 ∧ I2 90 41 = nI b1.length ∧ b1.length ≤ 32 ∧ ∀ k, k < b1.length → I2 113 k = nI (b1.getD k 0) := by
      by_cases hl : tk.length ≤ best.length
      · rw [if_pos hl] at hb1
        subst hb1
        exact ⟨I, fun f => by rw [h41, ifb_pos ((le32 (by omega) (by omega)).mpr hl), bnd1_c], Fr.rf, h41, hb, h113⟩
      · rw [if_neg hl] at hb1
        subst hb1
        obtain ⟨I2, e, f1, c1⟩ := cpyT (m := b1.length) (x1 := nI o) (x3 := nI d) hR ht g 0 (wI I 90 41 (nI b1.length)) (by omega) (by omega) (fun j hj => by omega)
        refine ⟨I2, fun f => ?_, (Fr.w Fr.rf rfl).tr (f1.sub rfl), (f1 90 41 rfl).trans wI_s, ht, fun k hk => ?_⟩
        · rw [h41, ifb_neg (fun z => hl ((le32 (by omega) (by omega)).mp z)), lt_c, show l_Mod_chooses_16 S1 R 90 (nI o) (nI b1.length) (nI d) g (wI I 90 41 (nI b1.length)) 0 = some I2 from e, bnd1_c, bnd1_c]
        · rw [c1 k hk, wI_n (by omega)]
          exact h112 k hk
    obtain ⟨I2, st, fa, a41, hl1, a113⟩ := st
    have a112 : ∀ k, I2 112 k = I 112 k := fun k => fa 112 k rfl
    rw [f_Mod_chooses, st]
    by_cases ho0 : o = 0
    · subst ho0
      rw [if_pos rfl] at h
      cases h
      exact ⟨hl1, I2, by rw [ifb_pos (by rfl)], fa.sub rfl, a41, a113, fun k _ => a112 k⟩
    rw [if_neg ho0] at h
    rw [ifb_neg (fun z => ho0 ((nI_0iff ho).mp z)), bndO_c, bnd1_c, a41]
    by_cases hc : nI b1.length < nI tk.length + bndO (nI o) (nI d)
    rotate_left
    · rw [if_neg hc] at h
      cases h
      exact ⟨hl1, I2, by rw [ifb_neg hc], fa.sub rfl, a41, a113, fun k _ => a112 k⟩
    rw [if_pos hc, frc_e] at h
    rw [ifb_pos hc]
    obtain ⟨w, hwe⟩ : ∃ w, w = tzs o 32 := ⟨_, rfl⟩
    rw [← hwe] at h
    by_cases hw : w < 32 ∧ tk.length < 32 ∧ ntzT ((nI o ^^^ (-1)) &&& (nI o - 1)) = nI w
    rotate_left
    · rw [if_neg hw] at h
      cases h
    rw [if_pos hw, frc_e, frc_e, frcL_e] at h
    obtain ⟨w1, w2, w3⟩ := hw
    have hrl : o &&& (4294967295 - 2 ^ w) < 4294967296 := Nat.lt_of_le_of_lt Nat.and_le_left ho
    split at h
    · cases h
    rename_i b2 h2
    rw [frcL_e] at h
    obtain ⟨hl2, I42, e2, fb, b41, b113, b112⟩ := ih _ _ _ _ h2 (fars_lt _ _ (by omega) (by omega)) (by rw [ap_len]; omega) hl1 (wI I2 112 tk.length (nI w)) ((wI_n (by omega)).trans a41) (fun k hk => (wI_n (by omega)).trans (a113 k hk)) (fun k hk => by
      rw [ap_len] at hk
      by_cases ek : k = tk.length
      · rw [ek, wI_s, gd_r]
      · rw [wI_n (by omega), a112, h112 k (by omega), gd_l (by omega)])
    rw [ap_len] at e2 b112
    have c112 : ∀ k, k < tk.length → I42 112 k = I 112 k := fun k hk => (b112 k (by omega)).trans ((wI_n (by omega)).trans (a112 k))
    obtain ⟨hl3, I44, e4, fc, d41, d113, d112⟩ := ih _ _ _ _ h hrl ht hl2 I42 b41 b113 (fun k hk => (c112 k hk).trans (h112 k hk))
    refine ⟨hl3, I44, ?_, (((fa.sub rfl).w rfl).tr fb).tr fc, d41, d113, fun k hk => (d112 k hk).trans (c112 k hk)⟩
    have hf := fars_c (d := d) (w := w) (rest := o &&& (4294967295 - 2 ^ w)) (mm := nI tk.length) (by omega) w1 (31 - w) g 0 (by omega) (by omega)
    rw [show 32 - (31 - w) = w + 1 by omega] at hf
    rw [ntz_e, w3, bnd1_c, isl1_32 w w1, nots_32 w w1, nI_and, lt_c, nI_1, lt_c, show l_Mod_chooses_86 90 (nI tk.length) (nI d) (nI w) (nI (o &&& (4294967295 - 2 ^ w))) g 0 (nI (w + 1)) = some _ from hf, bnd1_c, r_90_39 hR, bnd1_c, t_112, asrt_pos rfl, asrt_pos (vir (by omega) (by omega)), cl32 (by omega), lt_c, nI_1, e2, bnd1_c, e4, bnd1_c]
theorem farA_c (hw : w < 32) (hd : d < 6) : ∀ f F, f ≤ w → f < F → l_GWL_isFarFromAll_2 (nI w) (nI m) (nI d) F (nI (w - f)) = some (if farA w m d f = true then 1 else 0) := by
  intro f
  induction f with
  | zero =>
    intro F h1 h2
    cases F with
    | zero => omega
    | succ F => rw [l_GWL_isFarFromAll_2, ifb_pos ((le32 (by omega) (by omega)).mpr (by omega))]; rfl
  | succ f ih =>
    intro F h1 h2
    cases F with
    | zero => omega
    | succ F =>
      have e2 : w - (f + 1) + 1 = w - f := by omega
      rw [l_GWL_isFarFromAll_2, ifb_neg (by rw [le32 (by omega) (by omega)]; omega), ius_1 _ (by omega), b32_n (by omega)]
      by_cases hb : m.testBit (w - (f + 1)) = true
      · have hx : w ^^^ (w - (f + 1)) < 32 := Nat.xor_lt_two_pow (n := 5) (by omega) (by omega)
        have hp5 := pc5_lt (w ^^^ (w - (f + 1)))
        rw [if_pos hb, ifb_neg (by decide), xor5 _ hw _ (by omega), bitc_e, hdc5 _ hx, bnd1_c]
        by_cases hp : pc5 (w ^^^ (w - (f + 1))) < d
        · rw [ifb_neg (by rw [le32 (by omega) (by omega)]; omega), show farA w m d (f + 1) = false from by rw [farA, if_pos ⟨hb, hp⟩]]
          rfl
        · rw [ifb_pos ((le32 (by omega) (by omega)).mpr (by omega)), show farA w m d (f + 1) = farA w m d f from by rw [farA, if_neg (fun z => hp z.2)], nI_1, e2]
          exact ih F (by omega) (by omega)
      · rw [if_neg hb, ifb_pos rfl, show farA w m d (f + 1) = farA w m d f from by rw [farA, if_neg (fun z => hb z.1)], nI_1, e2]
        exact ih F (by omega) (by omega)
theorem grd_c {g N : Nat} (hg : 100 ≤ g) (hR : RG p fe R) (hd : d < 6) (hn : n ≤ 5) (hN : N = 2 ^ n) (hN2 : N ≤ 32) : ∀ f F m r (I : MI) (L : ML), f ≤ N → f < F → r.length ≤ N - f → I 3 1 = nI (min 16 r.length) → (∀ k, k < r.length → k < 16 → L 4 k = (nI (r.getD k 0)).toInt64) →
    ∃ I' L', l_GWL_codes_37 g S1 R 0 (nI n) (nI d) F I L (nI m) (nI r.length) (nI (N - f)) = some (nI (grd N d f m r).length, I', L') ∧ Fr [(3, some 1)] I I' ∧ FrL [(4, none)] L L' ∧ (grd N d f m r).length ≤ N ∧ I' 3 1 = nI (min 16 (grd N d f m r).length) ∧ ∀ k, k < (grd N d f m r).length → k < 16 → L' 4 k = (nI ((grd N d f m r).getD k 0)).toInt64 := by
  intro f
  induction f with
  | zero =>
    intro F m r I L h1 h2 h3 h4 h5
    cases F with
    | zero => omega
    | succ F =>
      refine ⟨I, L, ?_, Fr.rf, FrL.rf, h3, h4, h5⟩
      rw [l_GWL_codes_37, isl1_k n (by omega), ← hN, ifb_pos ((le32 (by omega) (by omega)).mpr (by omega))]
      rfl
  | succ f ih =>
    intro F m r I L h1 h2 h3 h4 h5
    cases F with
    | zero => omega
    | succ F =>
      have e2 : N - (f + 1) + 1 = N - f := by omega
      have hfa := farA_c (w := N - (f + 1)) (m := m) (d := d) (by omega) hd (N - (f + 1)) g (Nat.le_refl _) (by omega)
      rw [Nat.sub_self] at hfa
      rw [l_GWL_codes_37, isl1_k n (by omega), ← hN, ifb_neg (by rw [le32 (by omega) (by omega)]; omega), f_GWL_isFarFromAll, show l_GWL_isFarFromAll_2 (nI (N - (f + 1))) (nI m) (nI d) g 0 = some _ from hfa, bnd1_c]
      by_cases hb : farA (N - (f + 1)) m d (N - (f + 1)) = true
      rotate_left
      · rw [grd, if_neg hb, if_neg hb, ifb_pos rfl, bnd4_c, nI_1, e2]
        exact ih F m r I L (by omega) (by omega) (by omega) h4 h5
      rw [grd, if_pos hb, if_pos hb, frc_e, frcL_e, ifb_neg (by decide), isl1_32 _ (by omega), nI_or, lt_c, nI_1]
      by_cases h16 : r.length < 16
      · obtain ⟨I', L', e, a1, a2, a3, a4, a5⟩ := ih F (m ||| 2 ^ (N - (f + 1))) (r ++ [N - (f + 1)]) (wI I 3 1 (nI (r.length + 1))) (wL L 4 r.length (nI (N - (f + 1))).toInt64) (by omega) (by omega) (by rw [ap_len]; omega) (by rw [wI_s, ap_len, Nat.min_eq_right (by omega)]) (fun k hk hk2 => by
          rw [ap_len] at hk
          by_cases ek : k = r.length
          · rw [ek, wL_s, gd_r]
          · rw [wL_n (by omega), h5 k (by omega) hk2, gd_l (by omega)])
        refine ⟨I', L', ?_, (Fr.w Fr.rf rfl).tr a1, (FrL.w FrL.rf rfl).tr a2, a3, a4, a5⟩
        rw [ap_len] at e
        rw [ifb_neg (by rw [show (16 : Int32) = nI 16 from rfl, lt32 (by omega) (by omega)]; omega), r_0_1 hR, bnd1_c, t_3, asrt_pos rfl, add_c hR (h4.trans (by rw [Nat.min_eq_right (by omega)])) h16, bnd2_c, bnd4_c, nI_1, e2]
        exact e
      · obtain ⟨I', L', e, a1, a2, a3, a4, a5⟩ := ih F (m ||| 2 ^ (N - (f + 1))) (r ++ [N - (f + 1)]) I L (by omega) (by omega) (by rw [ap_len]; omega) (by rw [h4, ap_len, Nat.min_eq_left (by omega), Nat.min_eq_left (by omega)]) (fun k hk hk2 => by
          rw [h5 k (by omega) hk2, gd_l (by omega)])
        refine ⟨I', L', ?_, a1, a2, a3, a4, a5⟩
        rw [ap_len] at e
        rw [ifb_pos (by rw [show (16 : Int32) = nI 16 from rfl, lt32 (by omega) (by omega)]; omega), bnd4_c, nI_1, e2]
        exact e
theorem cent_c (hR : RG p fe R) {b : List Nat} (hb : b.length ≤ 32) : ∀ F k (I : MI) (L : ML), k ≤ min 16 b.length → min 16 b.length < k + F → I 90 41 = nI b.length → (∀ j, j < b.length → I 113 j = nI (b.getD j 0)) → I 90 1 = nI k → (∀ j, j < k → L 91 j = (nI (b.getD j 0)).toInt64) →
    ∃ I' L', l_Mod_codes_64 S1 R 90 F I L (nI k) = some (I', L') ∧ Fr [(90, some 1)] I I' ∧ FrL [(91, none)] L L' ∧ I' 90 1 = nI (min 16 b.length) ∧ ∀ j, j < min 16 b.length → L' 91 j = (nI (b.getD j 0)).toInt64 := by
  intro F
  induction F with
  | zero => intro k I L h1 h2; omega
  | succ F ih =>
    intro k I L h1 h2 h3 h4 h5 h6
    rw [l_Mod_codes_64, h3]
    by_cases hk : k = min 16 b.length
    · refine ⟨I, L, ?_, Fr.rf, FrL.rf, by rw [← hk]; exact h5, by rw [← hk]; exact h6⟩
      by_cases hl : b.length ≤ k
      · rw [ifb_pos ((le32 (by omega) (by omega)).mpr hl)]
      · rw [ifb_neg (fun z => hl ((le32 (by omega) (by omega)).mp z)), ifb_pos (by rw [show (16 : Int32) = nI 16 from rfl, le32 (by omega) (by omega)]; omega)]
    · obtain ⟨I', L', e, a1, a2, a3, a4⟩ := ih (k + 1) (wI I 90 1 (nI (k + 1))) (wL L 91 k (nI (b.getD k 0)).toInt64) (by omega) (by omega) ((wI_n (by omega)).trans h3) (fun j hj => (wI_n (by omega)).trans (h4 j hj)) wI_s (fun j hj => by
        by_cases ej : j = k
        · rw [ej, wL_s]
        · rw [wL_n (by omega)]; exact h6 j (by omega))
      refine ⟨I', L', ?_, (Fr.w Fr.rf rfl).tr a1, (FrL.w FrL.rf rfl).tr a2, a3, a4⟩
      rw [ifb_neg (by rw [le32 (by omega) (by omega)]; omega), ifb_neg (by rw [show (16 : Int32) = nI 16 from rfl, le32 (by omega) (by omega)]; omega), r_90_40 hR, bnd1_c, t_113, asrt_pos rfl, asrt_pos (vir (by omega) (by omega)), cl32 (by omega), h4 k (by omega), enters_c hR h5 (by omega), bnd2_c, nI_1]
      exact e
theorem open_k : ∀ n, n < 6 → 1 ≤ n → n ≠ 5 → (isl 1 (isl 1 (nI n))) - 1 = nI (2 ^ 2 ^ n - 1) := by decide +kernel
theorem open_c {β : Type} {n : Nat} (h1 : 1 ≤ n) (hn : n ≤ 5) (f : Int32 → Option β) : bnd1 (ifb (nI n = 5) (some (-1)) (some ((isl 1 (isl 1 (nI n))) - 1))) f = f (nI (2 ^ 2 ^ n - 1)) := by
  by_cases e5 : n = 5
  · subst e5
    rw [ifb_pos (by decide), bnd1_c]
    rfl
  · rw [ifb_neg (by rw [show (5 : Int32) = nI 5 from rfl, eq32 (by omega) (by omega)]; exact e5), bnd1_c, open_k n (by omega) h1 e5]
theorem open_lt : ∀ n, n ≤ 5 → 2 ^ 2 ^ n - 1 < 4294967296 := by decide +kernel
def fCd : FT := [(3, some 1), (112, none), (113, none), (90, some 0), (90, some 1), (90, some 41)]
theorem in1_c (x y : Int32) : f_Mod_in x.toInt64 1 y.toInt64 = some (if 1 ≤ x ∧ x ≤ y then 1 else 0) := by
  rw [in_g, show (1 : Int64) = (1 : Int32).toInt64 from rfl]
  simp only [Int32.toInt64_le]
end CO
section CQ
variable {W H n B : Nat} {K : Nat → Nat} {I I' : MI} {L L' : ML} {R : MR} {p : Bool} {fe : Nat}
/-- 1 .. n or not -/
theorem ix5 (x : Int32) (n : Nat) (hn : n < 1000) : (x < 1 ∨ nI n < x) ∨ ∃ j, 1 ≤ j ∧ j ≤ n ∧ x = nI j := by
  rcases ix4 x n (by omega) with h | ⟨j, hj, rfl⟩
  · exact Or.inl (h.imp lt0_1 id)
  · by_cases h1 : 1 ≤ j
    · exact Or.inr ⟨j, h1, hj, rfl⟩
    · exact Or.inl (Or.inl (by rw [show j = 0 by omega]; decide))
theorem op_codes {g : Nat} (hg : 1000 ≤ g) (hC : Cp B I L R) (x y : Int32) : ∃ v I1 L1 I2 L2, f_GWL_codes g S1 R I L 0 x y = some (v, I1, L1) ∧ f_Mod_codes g S1 R I1 L1 90 x y = some (v, I2, L2) ∧ Cp (B + 1) I2 L2 R := by
  obtain ⟨⟨p, fe, hR⟩, hTx, hRw, hWg, hFe, hSh, hMk, W, H, K, hLn, hPt, hPs, hPr, hKp⟩ := hC
  have f0 : Fr [(90, some 0)] I (wI I 90 0 0) := Fr.w Fr.rf rfl
  have fin : Cp (B + 1) (wI I 90 0 0) L R := by
    refine ⟨⟨_, _, hR⟩, hTx.imp fun _ h => h.imp fun _ h => h.ag (f0.ag rfl), hRw.imp fun _ h => h.imp fun _ h => h.ag (f0.ag rfl) (fun _ _ _ => rfl), hWg.imp fun _ h => h.imp fun _ h => h.ag (f0.ag rfl), hFe.imp fun _ h => h.ag (f0.ag rfl), hSh.ag (f0.ag rfl), hMk.imp fun _ h => h.ag (f0.ag rfl), W, H, K, hLn.ag (f0.ag rfl), hPt.imp fun _ h => h.ag (f0.ag rfl), hPs.imp fun _ h => h.imp fun _ h => h.imp fun _ h => h.ag (f0.ag rfl), hPr.imp fun _ h => h.imp fun _ h => h.imp fun _ h => h.ag (f0.ag rfl), hKp.ag (f0.ag rfl)⟩
  rcases ix5 x 5 (by omega) with hx | ⟨n, hn1, hn5, rfl⟩
  · refine ⟨-1, I, L, _, L, ?_, ?_, fin⟩
    · unfold f_GWL_codes
      rcases hx with h | h
      · rw [ifb_pos h]
      · by_cases h1 : x < 1
        · rw [ifb_pos h1]
        · rw [ifb_neg h1, ifb_pos (show (5 : Int32) < x from h)]
    · unfold f_Mod_codes
      rw [lt_c, show (5 : Int64) = (5 : Int32).toInt64 from rfl, in1_c, if_neg (fun z => hx.elim (fun h => Int32.not_le.mpr h z.1) (fun h => Int32.not_le.mpr h z.2)), bnd1_c, ifb_pos rfl]
  have a1 : ¬ nI n < 1 := by rw [show (1 : Int32) = nI 1 from rfl, lt32 (by omega) (by omega)]; omega
  have a5 : ¬ 5 < nI n := by rw [show (5 : Int32) = nI 5 from rfl, lt32 (by omega) (by omega)]; omega
  have hin5 : f_Mod_in (nI n).toInt64 1 5 = some 1 := by
    rw [show (5 : Int64) = (5 : Int32).toInt64 from rfl, in1_c, if_pos ⟨Int32.not_lt.mp a1, Int32.not_lt.mp a5⟩]
  rcases ix5 y n (by omega) with hy | ⟨d, hd1, hdn, rfl⟩
  · refine ⟨-1, I, L, _, L, ?_, ?_, fin⟩
    · unfold f_GWL_codes
      rw [ifb_neg a1, ifb_neg a5]
      rcases hy with h | h
      · rw [ifb_pos h]
      · by_cases h1 : y < 1
        · rw [ifb_pos h1]
        · rw [ifb_neg h1, ifb_neg (Int32.not_le.mpr h)]
    · unfold f_Mod_codes
      rw [lt_c, hin5, bnd1_c, ifb_neg ne10, in1_c, if_neg (fun z => hy.elim (fun h => Int32.not_le.mpr h z.1) (fun h => Int32.not_le.mpr h z.2)), bnd1_c, ifb_pos rfl]
  have b1 : ¬ nI d < 1 := by rw [show (1 : Int32) = nI 1 from rfl, lt32 (by omega) (by omega)]; omega
  have b5 : nI d ≤ nI n := by rw [le32 (by omega) (by omega)]; omega
  have hN : 2 ^ n ≤ 32 := by
    have : 2 ^ n ≤ 2 ^ 5 := Nat.pow_le_pow_right (by decide) hn5
    omega
  have hk := codes_k (n - 1) (by omega) (d - 1) (by omega)
  rw [Nat.sub_add_cancel hn1, Nat.sub_add_cancel hd1] at hk
  have f1 : Fr fCd I (wI I 3 1 0) := Fr.w Fr.rf rfl
  obtain ⟨I1, L1, e1, c1, c2, c3, c4, c5⟩ := grd_c (g := g) (n := n) (d := d) (N := 2 ^ n) (by omega) hR (by omega) hn5 rfl hN (2 ^ n) g 0 [] (wI I 3 1 0) L (by omega) (by omega) (by simp) wI_s (fun k hk => by simp at hk)
  rw [Nat.sub_self] at e1
  obtain ⟨r, hr⟩ : ∃ r, r = grd (2 ^ n) d (2 ^ n) 0 [] := ⟨_, rfl⟩
  rw [← hr] at e1 c3 c4 c5 hk
  have f2 : Fr fCd I I1 := f1.tr (c1.sub rfl)
  obtain ⟨hl, I13, e2, d1, d2, d3, -⟩ := chooses_c (g := g) (d := d) (by omega) hR (by omega) 40 _ [] [] r hk (open_lt n hn5) (by simp) (by simp) (wI (wI I1 90 0 0) 90 41 0) wI_s (fun k hk => by simp at hk) (fun k hk => by simp at hk)
  have f3 : Fr fCd I I13 := ((f2.w rfl).w rfl).tr (d1.sub rfl)
  have f4 : Fr fCd I (wI I13 90 1 0) := f3.w rfl
  obtain ⟨I2, L2, e3, g1, g2, g3, g4⟩ := cent_c (b := r) hR hl g 0 (wI I13 90 1 0) L1 (by omega) (by omega) ((wI_n (by omega)).trans d2) (fun j hj => (wI_n (by omega)).trans (d3 j hj)) wI_s (fun j hj => by omega)
  have f5 : Fr fCd I I2 := f4.tr (g1.sub rfl)
  have l5 : FrL [(4, none), (91, none)] L L2 := (c2.sub rfl).tr (g2.sub rfl)
  refine ⟨nI r.length, I1, L1, I2, L2, ?_, ?_, ?_⟩
  · unfold f_GWL_codes f_Numbers_begin
    rw [ifb_neg a1, ifb_neg a5, ifb_neg b1, ifb_pos b5, r_0_1 hR, bnd1_c, t_3, asrt_pos rfl, lt_c, bnd1_c, show l_GWL_codes_37 g S1 R 0 (nI n) (nI d) g (wI I 3 1 0) L 0 0 0 = some (nI r.length, I1, L1) from e1, bnd3_c]
  · unfold f_Mod_codes
    rw [lt_c, hin5, bnd1_c, ifb_neg ne10, in1_c, if_pos ⟨Int32.not_lt.mp b1, b5⟩, bnd1_c, ifb_neg ne10, lt_c, open_c hn1 hn5, show f_Mod_chooses g 40 S1 R (wI (wI I1 90 0 0) 90 41 0) 90 (nI (2 ^ 2 ^ n - 1)) 0 (nI d) = some I13 from e2, bnd1_c, lt_c, show l_Mod_codes_64 S1 R 90 g (wI I13 90 1 0) L1 0 = some (I2, L2) from e3, bnd2_c, lt_c, g1 90 41 rfl, wI_n (by omega), d2]
  · refine ⟨⟨_, _, hR⟩, hTx.imp fun _ h => h.imp fun _ h => h.ag (f5.ag rfl), ?_, hWg.imp fun _ h => h.imp fun _ h => h.ag (f5.ag rfl), hFe.imp fun _ h => h.ag (f5.ag rfl), hSh.ag (f5.ag rfl), hMk.imp fun _ h => h.ag (f5.ag rfl), W, H, K, hLn.ag (f5.ag rfl), hPt.imp fun _ h => h.ag (f5.ag rfl), hPs.imp fun _ h => h.imp fun _ h => h.imp fun _ h => h.ag (f5.ag rfl), hPr.imp fun _ h => h.imp fun _ h => h.imp fun _ h => h.ag (f5.ag rfl), hKp.ag (f5.ag rfl)⟩
    refine ⟨min 16 r.length, fun k => (nI (r.getD k 0)).toInt64, by omega, ?_, g3, fun k hk => ⟨?_, g4 k hk⟩⟩
    · rw [g1 3 1 rfl, wI_n (by omega), d1 3 1 rfl, wI_n (by omega), wI_n (by omega), c4]
    · rw [g2 4 k rfl]
      exact c5 k (by omega) (by omega)
end CQ
