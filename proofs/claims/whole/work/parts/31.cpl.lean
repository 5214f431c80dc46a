section CP
/-! the memory behind the constructors, as one name -/
def S1 : MS := fun a => if a < 124 then S0 a else (99, 0)
theorem t_0 : S1 0 = (11, 0) := rfl
theorem t_1 : S1 1 = (8, 0) := rfl
theorem t_2 : S1 2 = (20, 80) := rfl
theorem t_3 : S1 3 = (4, 0) := rfl
theorem t_4 : S1 4 = (21, 16) := rfl
theorem t_5 : S1 5 = (6, 0) := rfl
theorem t_6 : S1 6 = (24, 20) := rfl
theorem t_7 : S1 7 = (5, 0) := rfl
theorem t_8 : S1 8 = (20, 36) := rfl
theorem t_9 : S1 9 = (5, 0) := rfl
theorem t_10 : S1 10 = (20, 36) := rfl
theorem t_11 : S1 11 = (5, 0) := rfl
theorem t_12 : S1 12 = (20, 36) := rfl
theorem t_13 : S1 13 = (5, 0) := rfl
theorem t_14 : S1 14 = (20, 36) := rfl
theorem t_15 : S1 15 = (5, 0) := rfl
theorem t_16 : S1 16 = (20, 36) := rfl
theorem t_17 : S1 17 = (5, 0) := rfl
theorem t_18 : S1 18 = (20, 36) := rfl
theorem t_19 : S1 19 = (5, 0) := rfl
theorem t_20 : S1 20 = (20, 36) := rfl
theorem t_21 : S1 21 = (5, 0) := rfl
theorem t_22 : S1 22 = (20, 36) := rfl
theorem t_23 : S1 23 = (5, 0) := rfl
theorem t_24 : S1 24 = (20, 36) := rfl
theorem t_25 : S1 25 = (5, 0) := rfl
theorem t_26 : S1 26 = (20, 36) := rfl
theorem t_27 : S1 27 = (5, 0) := rfl
theorem t_28 : S1 28 = (20, 36) := rfl
theorem t_29 : S1 29 = (5, 0) := rfl
theorem t_30 : S1 30 = (20, 36) := rfl
theorem t_31 : S1 31 = (5, 0) := rfl
theorem t_32 : S1 32 = (20, 36) := rfl
theorem t_33 : S1 33 = (5, 0) := rfl
theorem t_34 : S1 34 = (20, 36) := rfl
theorem t_35 : S1 35 = (5, 0) := rfl
theorem t_36 : S1 36 = (20, 36) := rfl
theorem t_37 : S1 37 = (5, 0) := rfl
theorem t_38 : S1 38 = (20, 36) := rfl
theorem t_39 : S1 39 = (5, 0) := rfl
theorem t_40 : S1 40 = (20, 36) := rfl
theorem t_41 : S1 41 = (5, 0) := rfl
theorem t_42 : S1 42 = (20, 36) := rfl
theorem t_43 : S1 43 = (5, 0) := rfl
theorem t_44 : S1 44 = (20, 36) := rfl
theorem t_45 : S1 45 = (5, 0) := rfl
theorem t_46 : S1 46 = (20, 36) := rfl
theorem t_47 : S1 47 = (0, 0) := rfl
theorem t_48 : S1 48 = (0, 0) := rfl
theorem t_49 : S1 49 = (0, 0) := rfl
theorem t_50 : S1 50 = (23, 3) := rfl
theorem t_51 : S1 51 = (22, 3) := rfl
theorem t_52 : S1 52 = (24, 3) := rfl
theorem t_53 : S1 53 = (20, 3) := rfl
theorem t_54 : S1 54 = (9, 0) := rfl
theorem t_55 : S1 55 = (20, 144) := rfl
theorem t_56 : S1 56 = (20, 144) := rfl
theorem t_57 : S1 57 = (3, 0) := rfl
theorem t_58 : S1 58 = (20, 25) := rfl
theorem t_59 : S1 59 = (20, 32) := rfl
theorem t_60 : S1 60 = (2, 0) := rfl
theorem t_61 : S1 61 = (20, 36) := rfl
theorem t_62 : S1 62 = (20, 144) := rfl
theorem t_63 : S1 63 = (20, 144) := rfl
theorem t_64 : S1 64 = (5, 0) := rfl
theorem t_65 : S1 65 = (20, 36) := rfl
theorem t_66 : S1 66 = (20, 3) := rfl
theorem t_67 : S1 67 = (1, 0) := rfl
theorem t_68 : S1 68 = (9, 0) := rfl
theorem t_69 : S1 69 = (20, 144) := rfl
theorem t_70 : S1 70 = (20, 144) := rfl
theorem t_71 : S1 71 = (21, 1296) := rfl
theorem t_72 : S1 72 = (21, 1296) := rfl
theorem t_73 : S1 73 = (21, 1296) := rfl
theorem t_74 : S1 74 = (21, 1296) := rfl
theorem t_75 : S1 75 = (0, 0) := rfl
theorem t_76 : S1 76 = (10, 0) := rfl
theorem t_77 : S1 77 = (7, 0) := rfl
theorem t_78 : S1 78 = (20, 12) := rfl
theorem t_79 : S1 79 = (21, 48) := rfl
theorem t_80 : S1 80 = (20, 48) := rfl
theorem t_81 : S1 81 = (0, 0) := rfl
theorem t_82 : S1 82 = (5, 0) := rfl
theorem t_83 : S1 83 = (20, 36) := rfl
theorem t_84 : S1 84 = (0, 0) := rfl
theorem t_85 : S1 85 = (5, 0) := rfl
theorem t_86 : S1 86 = (20, 36) := rfl
theorem t_87 : S1 87 = (0, 0) := rfl
theorem t_88 : S1 88 = (5, 0) := rfl
theorem t_89 : S1 89 = (20, 36) := rfl
theorem t_90 : S1 90 = (12, 0) := rfl
theorem t_91 : S1 91 = (21, 20) := rfl
theorem t_92 : S1 92 = (20, 36) := rfl
theorem t_93 : S1 93 = (20, 3) := rfl
theorem t_94 : S1 94 = (20, 36) := rfl
theorem t_95 : S1 95 = (20, 80) := rfl
theorem t_96 : S1 96 = (20, 36) := rfl
theorem t_97 : S1 97 = (20, 5) := rfl
theorem t_98 : S1 98 = (20, 5) := rfl
theorem t_99 : S1 99 = (20, 860) := rfl
theorem t_100 : S1 100 = (20, 144) := rfl
theorem t_101 : S1 101 = (22, 144) := rfl
theorem t_102 : S1 102 = (22, 144) := rfl
theorem t_103 : S1 103 = (21, 1440) := rfl
theorem t_104 : S1 104 = (21, 1440) := rfl
theorem t_105 : S1 105 = (21, 144) := rfl
theorem t_106 : S1 106 = (21, 144) := rfl
theorem t_107 : S1 107 = (21, 1440) := rfl
theorem t_108 : S1 108 = (21, 1440) := rfl
theorem t_109 : S1 109 = (22, 3) := rfl
theorem t_110 : S1 110 = (20, 15) := rfl
theorem t_111 : S1 111 = (20, 5) := rfl
theorem t_112 : S1 112 = (20, 32) := rfl
theorem t_113 : S1 113 = (20, 32) := rfl
theorem t_114 : S1 114 = (20, 12) := rfl
theorem t_115 : S1 115 = (21, 52) := rfl
theorem t_116 : S1 116 = (20, 52) := rfl
theorem t_117 : S1 117 = (20, 25) := rfl
theorem t_118 : S1 118 = (20, 5) := rfl
theorem t_119 : S1 119 = (20, 5) := rfl
theorem t_120 : S1 120 = (20, 129) := rfl
theorem t_121 : S1 121 = (20, 3) := rfl
theorem t_122 : S1 122 = (20, 3) := rfl
theorem t_123 : S1 123 = (21, 1) := rfl
/-! the moor as numbers -/
def nxt (W H : Nat) (K : Nat → Nat) (c h : Nat) : Nat :=
  if h = 0 then (if W ≤ c ∧ K (c - W) ≠ 2 then c - W else c)
  else if h = 1 then (if c % W + 1 < W ∧ K (c + 1) ≠ 2 then c + 1 else c)
  else if h = 2 then (if c + W < W * H ∧ K (c + W) ≠ 2 then c + W else c)
  else (if 0 < c % W ∧ K (c - 1) ≠ 2 then c - 1 else c)
def hd3 (s t : Nat) : Nat := (s % 4 + t + 3) % 4
def aft (W H : Nat) (K : Nat → Nat) (s t : Nat) : Nat := 4 * nxt W H K (s / 4) (hd3 s t) + hd3 s t
def isE (k : Nat) : Bool := k == 1 || k == 3
/-- in just d steps it can be home, nothing on the way ending it -/
def rch (W H : Nat) (K : Nat → Nat) : Nat → Nat → Prop
  | 0, s => s < 4 * (W * H) ∧ K (s / 4) = 3
  | d + 1, s => s < 4 * (W * H) ∧ isE (K (s / 4)) = false ∧ ∃ t, t < 3 ∧ rch W H K d (aft W H K s t)
def DH (W H : Nat) (K : Nat → Nat) (s d : Nat) : Prop := rch W H K d s ∧ ∀ e, e < d → ¬ rch W H K e s
def HW (W H : Nat) (K : Nat → Nat) (s : Nat) (v : Int32) : Prop := (∃ d, d ≤ 144 ∧ DH W H K s d ∧ v = nI d) ∨ ((∀ d, ¬ rch W H K d s) ∧ v = -1)
/-! what both memories hold -/
def Txt (n : Nat) (τ : Nat → Nat) (I : MI) : Prop := n ≤ 80 ∧ I 1 1 = nI n ∧ I 90 17 = nI n ∧ ∀ k, k < n → τ k < 256 ∧ I 2 k = nI (τ k) ∧ I 95 k = nI (τ k)
def Rw (n : Nat) (ρ : Nat → Int64) (I : MI) (L : ML) : Prop := n ≤ 16 ∧ I 3 1 = nI n ∧ I 90 1 = nI n ∧ ∀ k, k < n → L 4 k = ρ k ∧ L 91 k = ρ k
def LKc (W H : Nat) (K : Nat → Nat) (I : MI) : Prop := (1 ≤ W ∧ W ≤ 6) ∧ (1 ≤ H ∧ H ≤ 6) ∧ (∀ c, K c < 4) ∧ I 60 0 = nI W ∧ I 60 1 = nI H ∧ ∀ c, c < W * H → I 61 c = nI (K c)
def LM (W H : Nat) (K : Nat → Nat) (I : MI) : Prop := (1 ≤ W ∧ W ≤ 6) ∧ (1 ≤ H ∧ H ≤ 6) ∧ (∀ c, K c < 4) ∧ I 90 3 = nI W ∧ I 90 4 = nI H ∧ ∀ c, c < W * H → I 92 c = nI (K c)
def LA (W H : Nat) (K : Nat → Nat) (I : MI) : Prop := ∀ s, s < 4 * (W * H) → I 62 s = nI (4 * nxt W H K (s / 4) (s % 4) + s % 4)
def LHm (W H : Nat) (K : Nat → Nat) (I : MI) : Prop := I 60 5 = 0 ∨ (I 60 5 = 1 ∧ ∀ s, s < 144 → HW W H K s (I 63 s))
def Lnd (W H : Nat) (K : Nat → Nat) (I : MI) : Prop := LKc W H K I ∧ LM W H K I ∧ LA W H K I ∧ LHm W H K I
/-- a party as a row of 43 numbers: where, heading, voice, random, steps, asks, nothing, tracks -/
def Pok (W H : Nat) (q : Nat → Int32) : Prop := (∃ c, c < W * H ∧ q 0 = nI c) ∧ (∃ h, h < 4 ∧ q 1 = nI h) ∧ (∃ v, v ≤ 9 ∧ q 2 = nI v) ∧ ∀ k, k < 36 → q (7 + k) = -1 ∨ ∃ j, j < W * H ∧ q (7 + k) = nI j
def PR (a b : Nat) (q : Nat → Int32) (I : MI) : Prop := (I a 0 = q 0 ∧ I a 1 = q 1 ∧ I a 2 = q 2 ∧ I a 3 = q 3 ∧ I a 4 = q 4 ∧ I a 5 = q 5) ∧ ∀ k, k < 36 → I b k = q (7 + k)
def PM (q : Nat → Int32) (I : MI) : Prop := (I 90 7 = q 0 ∧ I 90 8 = q 1 ∧ I 90 10 = q 2 ∧ I 90 12 = q 3 ∧ I 90 13 = q 4 ∧ I 90 14 = q 5) ∧ ∀ k, k < 36 → I 94 k = q (7 + k)
def PS (a j : Nat) (q : Nat → Int32) (I : MI) : Prop := ∀ i, i < 43 → i ≠ 6 → I a (43 * j + i) = q i
def Pty (W H : Nat) (q : Nat → Int32) (I : MI) : Prop := Pok W H q ∧ PR 64 65 q I ∧ PM q I
def rgi (n nx j : Nat) : Nat := (nx + 20 - n + j) % 20
def Pst (W H n nx : Nat) (u : Nat → Nat → Int32) (I : MI) : Prop := n ≤ 20 ∧ nx < 20 ∧ I 5 1 = nI nx ∧ I 5 2 = nI n ∧ I 90 23 = nI n ∧
  ∀ j, j < n → Pok W H (u j) ∧ PR (7 + 2 * rgi n nx j) (8 + 2 * rgi n nx j) (u j) I ∧ PS 99 j (u j) I
def Wgt (w : Nat → Nat) (hd : Nat) (I : MI) : Prop := w 0 + w 1 + w 2 = 10 ∧ (∀ t, t < 3 → I 66 t = nI (w t) ∧ I 93 t = nI (w t)) ∧ hd ≤ 10 ∧ I 0 6 = nI hd ∧ I 90 11 = nI hd
def iI (x : Int) : Int32 := Int32.ofInt x
def fok (f : Nat → Int) : Prop := ∀ i, i < 5 → -3000 ≤ f i ∧ f i ≤ 3000
def FeR (a : Nat) (f : Nat → Int) (I : MI) : Prop := (∀ i, i < 5 → I a i = iI (f i)) ∧ I a 5 = -1
def Fe (f : Nat → Int) (I : MI) : Prop := fok f ∧ FeR 47 f I ∧ ∀ i, i < 5 → I 97 i = iI (f i)
def Shf (I : MI) : Prop := ∀ i, i < 3 → (I 51 i = 0 ∧ I 109 i = 0) ∨ (I 51 i = 1 ∧ I 109 i = 1 ∧ ∃ f, fok f ∧ FeR (81 + 3 * i) f I ∧ ∀ k, k < 5 → I 110 (5 * i + k) = iI (f k))
def Pri (W H n h : Nat) (z : Nat → Nat) (I : MI) : Prop := n ≤ 12 ∧ h < 4 ∧ I 77 6 = nI n ∧ I 90 42 = nI n ∧ (0 < n → I 77 5 = nI h ∧ I 90 43 = nI h) ∧ ∀ k, k < n → z k < W * H ∧ I 78 k = nI (z k) ∧ I 114 k = nI (z k)
def Mkt (y : Nat → Nat) (I : MI) : Prop := ∀ k, k < 25 → y k ≤ 99 ∧ I 58 k = nI (y k) ∧ I 117 k = nI (y k)
def Kpt (B W H : Nat) (I : MI) : Prop := ∃ mo, mo ≤ B ∧ I 90 6 = nI mo ∧ ∀ i, i < 3 → (I 121 i = -1 ∨ ∃ j, j ≤ mo ∧ I 121 i = nI j) ∧
  ((I 53 i = -1 ∧ I 121 i ≠ nI mo) ∨ (I 121 i = nI mo ∧ ∃ k, k < 4 ∧ I 53 i = nI k ∧ I 122 i = nI k ∧ ∃ q, Pok W H q ∧ PR (82 + 3 * i) (83 + 3 * i) q I ∧ PS 120 i q I))
def Cp (B : Nat) (I : MI) (L : ML) (R : MR) : Prop := (∃ p fe, RG p fe R) ∧ (∃ n τ, Txt n τ I) ∧ (∃ n ρ, Rw n ρ I L) ∧ (∃ w hd, Wgt w hd I) ∧ (∃ f, Fe f I) ∧ Shf I ∧ (∃ y, Mkt y I) ∧
  ∃ W H K, Lnd W H K I ∧ (∃ q, Pty W H q I) ∧ (∃ n nx u, Pst W H n nx u I) ∧ (∃ n h z, Pri W H n h z I) ∧ Kpt B W H I
/-! which cells each of them reads -/
def fTxt : FT := [(1, some 1), (2, none), (90, some 17), (95, none)]
def fRw : FT := [(3, some 1), (90, some 1)]
def fRwL : FT := [(4, none), (91, none)]
def fWgt : FT := [(66, none), (93, none), (0, some 6), (90, some 11)]
def fFe : FT := [(47, none), (97, none)]
def fShf : FT := [(51, none), (81, none), (84, none), (87, none), (109, none), (110, none)]
def fMkt : FT := [(58, none), (117, none)]
def fLnd : FT := [(60, none), (61, none), (62, none), (63, none), (92, none), (90, some 3), (90, some 4)]
def fLK : FT := [(60, some 0), (60, some 1), (61, none)]
def fLM : FT := [(90, some 3), (90, some 4), (92, none)]
def fLA : FT := [(62, none)]
def fLH : FT := [(60, some 5), (63, none)]
def fPty : FT := [(64, none), (65, none), (94, none), (90, some 7), (90, some 8), (90, some 10), (90, some 12), (90, some 13), (90, some 14)]
def fPst : FT := [(5, none), (99, none), (90, some 23)] ++ (List.range 40).map (fun i => (7 + i, none))
def fPri : FT := [(77, some 5), (77, some 6), (78, none), (90, some 42), (90, some 43), (114, none)]
def fKpt : FT := [(53, none), (82, none), (83, none), (85, none), (86, none), (88, none), (89, none), (90, some 6), (120, none), (121, none), (122, none)]
/-- two memories are alike at these cells -/
def Ag (l : FT) (I I' : MI) : Prop := ∀ a k, inF l a k = true → I' a k = I a k
def AgL (l : FT) (I I' : ML) : Prop := ∀ a k, inF l a k = true → I' a k = I a k
theorem dsj_no {l m : FT} (h : dsj l m = true) {a k : Nat} (hm : inF m a k = true) : inF l a k = false := by
  cases hl : inF l a k with
  | false => rfl
  | true =>
    simp only [inF, List.any_eq_true, Bool.and_eq_true, Bool.or_eq_true, beq_iff_eq] at hm hl
    obtain ⟨q, q1, q2, q3⟩ := hl
    obtain ⟨r, r1, r2, r3⟩ := hm
    simp only [dsj, List.all_eq_true] at h
    have h1 := h q q1 r r1
    rw [q2, r2] at h1
    rcases q3 with q3 | q3 <;> rcases r3 with r3 | r3 <;> rw [q3, r3] at h1 <;> simp at h1
theorem Fr.ag {l m : FT} {I I' : MI} (h : Fr l I I') (hd : dsj l m = true) : Ag m I I' := fun a k q => h a k (dsj_no hd q)
theorem FrL.ag {l m : FT} {I I' : ML} (h : FrL l I I') (hd : dsj l m = true) : AgL m I I' := fun a k q => h a k (dsj_no hd q)
theorem Txt.ag {n : Nat} {τ : Nat → Nat} {I I' : MI} (h : Txt n τ I) (hA : Ag fTxt I I') : Txt n τ I' := by
  obtain ⟨h1, h2, h3, h4⟩ := h
  exact ⟨h1, (hA 1 1 rfl).trans h2, (hA 90 17 rfl).trans h3, fun k hk => ⟨(h4 k hk).1, (hA 2 k rfl).trans (h4 k hk).2.1, (hA 95 k rfl).trans (h4 k hk).2.2⟩⟩
theorem Rw.ag {n : Nat} {ρ : Nat → Int64} {I I' : MI} {L L' : ML} (h : Rw n ρ I L) (hA : Ag fRw I I') (hB : AgL fRwL L L') : Rw n ρ I' L' := by
  obtain ⟨h1, h2, h3, h4⟩ := h
  exact ⟨h1, (hA 3 1 rfl).trans h2, (hA 90 1 rfl).trans h3, fun k hk => ⟨(hB 4 k rfl).trans (h4 k hk).1, (hB 91 k rfl).trans (h4 k hk).2⟩⟩
theorem Wgt.ag {w : Nat → Nat} {hd : Nat} {I I' : MI} (h : Wgt w hd I) (hA : Ag fWgt I I') : Wgt w hd I' := by
  obtain ⟨h1, h2, h3, h4, h5⟩ := h
  exact ⟨h1, fun t ht => ⟨(hA 66 t rfl).trans (h2 t ht).1, (hA 93 t rfl).trans (h2 t ht).2⟩, h3, (hA 0 6 rfl).trans h4, (hA 90 11 rfl).trans h5⟩
theorem Fe.ag {f : Nat → Int} {I I' : MI} (h : Fe f I) (hA : Ag fFe I I') : Fe f I' := by
  obtain ⟨h1, ⟨h2, h3⟩, h4⟩ := h
  exact ⟨h1, ⟨fun i hi => (hA 47 i rfl).trans (h2 i hi), (hA 47 5 rfl).trans h3⟩, fun i hi => (hA 97 i rfl).trans (h4 i hi)⟩
theorem Shf.ag {I I' : MI} (h : Shf I) (hA : Ag fShf I I') : Shf I' := by
  intro i hi
  have e51 : I' 51 i = I 51 i := hA 51 i rfl
  have e109 : I' 109 i = I 109 i := hA 109 i rfl
  have ef : ∀ k, I' (81 + 3 * i) k = I (81 + 3 * i) k := fun k => by
    rcases i with _ | _ | _ | i
    · exact hA 81 k rfl
    · exact hA 84 k rfl
    · exact hA 87 k rfl
    · omega
  rcases h i hi with ⟨a, b⟩ | ⟨a, b, f, c, ⟨d, d'⟩, e⟩
  · exact Or.inl ⟨e51.trans a, e109.trans b⟩
  · exact Or.inr ⟨e51.trans a, e109.trans b, f, c, ⟨fun j hj => (ef j).trans (d j hj), (ef 5).trans d'⟩, fun k hk => (hA 110 _ rfl).trans (e k hk)⟩
theorem Mkt.ag {y : Nat → Nat} {I I' : MI} (h : Mkt y I) (hA : Ag fMkt I I') : Mkt y I' := fun k hk =>
  ⟨(h k hk).1, (hA 58 k rfl).trans (h k hk).2.1, (hA 117 k rfl).trans (h k hk).2.2⟩
theorem LKc.ag {W H : Nat} {K : Nat → Nat} {I I' : MI} (h : LKc W H K I) (hA : Ag fLK I I') : LKc W H K I' := by
  obtain ⟨h1, h2, h3, h4, h5, h6⟩ := h
  exact ⟨h1, h2, h3, (hA 60 0 rfl).trans h4, (hA 60 1 rfl).trans h5, fun c hc => (hA 61 c rfl).trans (h6 c hc)⟩
theorem LM.ag {W H : Nat} {K : Nat → Nat} {I I' : MI} (h : LM W H K I) (hA : Ag fLM I I') : LM W H K I' := by
  obtain ⟨h1, h2, h3, h4, h5, h6⟩ := h
  exact ⟨h1, h2, h3, (hA 90 3 rfl).trans h4, (hA 90 4 rfl).trans h5, fun c hc => (hA 92 c rfl).trans (h6 c hc)⟩
theorem LA.ag {W H : Nat} {K : Nat → Nat} {I I' : MI} (h : LA W H K I) (hA : Ag fLA I I') : LA W H K I' := fun s hs => (hA 62 s rfl).trans (h s hs)
theorem LHm.ag {W H : Nat} {K : Nat → Nat} {I I' : MI} (h : LHm W H K I) (hA : Ag fLH I I') : LHm W H K I' := by
  rcases h with h8 | ⟨h8, h9⟩
  · exact Or.inl ((hA 60 5 rfl).trans h8)
  · exact Or.inr ⟨(hA 60 5 rfl).trans h8, fun s hs => by rw [hA 63 s rfl]; exact h9 s hs⟩
theorem Ag.sub {l m : FT} {I I' : MI} (h : Ag m I I') (hs : subF l m = true) : Ag l I I' := fun a k q => h a k (inF_sub hs q)
theorem Lnd.ag {W H : Nat} {K : Nat → Nat} {I I' : MI} (h : Lnd W H K I) (hA : Ag fLnd I I') : Lnd W H K I' :=
  ⟨h.1.ag (hA.sub rfl), h.2.1.ag (hA.sub rfl), h.2.2.1.ag (hA.sub rfl), h.2.2.2.ag (hA.sub rfl)⟩
theorem PR.to {a b : Nat} {q : Nat → Int32} {I I' : MI} (h : PR a b q I) (ha : ∀ k, I' a k = I a k) (hb : ∀ k, I' b k = I b k) : PR a b q I' := by
  obtain ⟨⟨h0, h1, h2, h3, h4, h5⟩, h6⟩ := h
  exact ⟨⟨(ha 0).trans h0, (ha 1).trans h1, (ha 2).trans h2, (ha 3).trans h3, (ha 4).trans h4, (ha 5).trans h5⟩, fun k hk => (hb k).trans (h6 k hk)⟩
theorem PM.to {q : Nat → Int32} {I I' : MI} (h : PM q I) (hA : Ag fPty I I') : PM q I' := by
  obtain ⟨⟨h0, h1, h2, h3, h4, h5⟩, h6⟩ := h
  exact ⟨⟨(hA 90 7 rfl).trans h0, (hA 90 8 rfl).trans h1, (hA 90 10 rfl).trans h2, (hA 90 12 rfl).trans h3, (hA 90 13 rfl).trans h4, (hA 90 14 rfl).trans h5⟩, fun k hk => (hA 94 k rfl).trans (h6 k hk)⟩
theorem Pty.ag {W H : Nat} {q : Nat → Int32} {I I' : MI} (h : Pty W H q I) (hA : Ag fPty I I') : Pty W H q I' :=
  ⟨h.1, h.2.1.to (fun k => hA 64 k rfl) (fun k => hA 65 k rfl), h.2.2.to hA⟩
theorem rgi_lt {n nx j : Nat} : rgi n nx j < 20 := Nat.mod_lt _ (by decide)
theorem ring_in {i k : Nat} (h : i < 40) : inF fPst (7 + i) k = true := by
  simp only [inF, fPst, List.any_eq_true, List.mem_append, List.mem_map, List.mem_range]
  exact ⟨(7 + i, none), Or.inr ⟨i, h, rfl⟩, by simp⟩
theorem Pst.ag {W H n nx : Nat} {u : Nat → Nat → Int32} {I I' : MI} (h : Pst W H n nx u I) (hA : Ag fPst I I') : Pst W H n nx u I' := by
  obtain ⟨h1, h2, h3, h4, h5, h6⟩ := h
  refine ⟨h1, h2, (hA 5 1 rfl).trans h3, (hA 5 2 rfl).trans h4, (hA 90 23 rfl).trans h5, fun j hj => ⟨(h6 j hj).1, (h6 j hj).2.1.to (fun k => ?_) (fun k => ?_), fun i hi h6' => (hA 99 _ rfl).trans ((h6 j hj).2.2 i hi h6')⟩⟩
  · have := @rgi_lt n nx j
    exact hA _ k (ring_in (by omega))
  · have := @rgi_lt n nx j
    rw [show 8 + 2 * rgi n nx j = 7 + (2 * rgi n nx j + 1) by omega]
    exact hA _ k (ring_in (by omega))
theorem Pri.ag {W H n h : Nat} {z : Nat → Nat} {I I' : MI} (q : Pri W H n h z I) (hA : Ag fPri I I') : Pri W H n h z I' := by
  obtain ⟨h1, h2, h3, h4, h5, h6⟩ := q
  exact ⟨h1, h2, (hA 77 6 rfl).trans h3, (hA 90 42 rfl).trans h4, fun p => ⟨(hA 77 5 rfl).trans (h5 p).1, (hA 90 43 rfl).trans (h5 p).2⟩, fun k hk => ⟨(h6 k hk).1, (hA 78 k rfl).trans (h6 k hk).2.1, (hA 114 k rfl).trans (h6 k hk).2.2⟩⟩
theorem Kpt.ag {B W H : Nat} {I I' : MI} (q : Kpt B W H I) (hA : Ag fKpt I I') : Kpt (B + 1) W H I' := by
  obtain ⟨mo, h1, h2, h3⟩ := q
  refine ⟨mo, by omega, (hA 90 6 rfl).trans h2, fun i hi => ?_⟩
  have e1 : I' 121 i = I 121 i := hA 121 i rfl
  have e2 : I' 53 i = I 53 i := hA 53 i rfl
  have e3 : I' 122 i = I 122 i := hA 122 i rfl
  have ef : ∀ k, I' (82 + 3 * i) k = I (82 + 3 * i) k ∧ I' (83 + 3 * i) k = I (83 + 3 * i) k := fun k => by
    rcases i with _ | _ | _ | i
    · exact ⟨hA 82 k rfl, hA 83 k rfl⟩
    · exact ⟨hA 85 k rfl, hA 86 k rfl⟩
    · exact ⟨hA 88 k rfl, hA 89 k rfl⟩
    · omega
  rw [e1, e2, e3]
  refine ⟨(h3 i hi).1, ?_⟩
  rcases (h3 i hi).2 with h | ⟨a, k, b, c, d, q, e, f, g⟩
  · exact Or.inl h
  · exact Or.inr ⟨a, k, b, c, d, q, e, f.to (fun k => (ef k).1) (fun k => (ef k).2), fun j hj h6 => (hA 120 _ rfl).trans (g j hj h6)⟩
end CP
