section ST
variable {W H B n : Nat} {K τ : Nat → Nat} {I I' : MI} {L : ML} {R : MR} {p : Bool} {fe : Nat} {q : Nat → Int32}
theorem back_l (hR : RG p fe R) {a N m : Nat} (ha : S1 a = (20, N)) (hm : 43 * m + 43 ≤ N) (hN : N < 1000) (hd : a ≠ 94) : ∀ (f k : Nat) (I : MI), k ≤ 36 → 36 < k + f → wpo (l_Mod_takesBack_54 S1 R 90 a (nI (43 * m)) f I (nI k))
    (fun I' => Fr [(94, none)] I I' ∧ (∀ j, j < k → I' 94 j = I 94 j) ∧ ∀ j, k ≤ j → j < 36 → I' 94 j = I a (43 * m + 7 + j)) := by
  intro f
  induction f with
  | zero => intro k I h1 h2; omega
  | succ f ih =>
    intro k I h1 h2
    rw [l_Mod_takesBack_54, show (36 : Int32) = nI 36 from rfl]
    by_cases hk : k = 36
    · subst hk
      rw [ifb_pos (by rw [le32 (by omega) (by omega)]; omega)]
      exact ⟨I, rfl, Fr.rf, fun _ _ => rfl, fun j a b => by omega⟩
    · rw [ifb_neg (by rw [le32 (by omega) (by omega)]; omega), r_90_15 hR, bnd1_c, show (7 : Int32) = nI 7 from rfl, nI_add, nI_add, lt_c, ha, asrt_pos rfl, asrt_pos (vir (by show _ < N; omega) (by omega)), lt_c, t_94, asrt_pos rfl, asrt_pos (vir (by omega) (by omega)), lt_c, cl32 (by omega), cl32 (by omega), nI_1]
      refine wpo_mono (ih (k + 1) _ (by omega) (by omega)) ?_
      rintro I' ⟨a', b, c⟩
      refine ⟨(Fr.w Fr.rf rfl).tr a', fun j hj => ?_, fun j h3 h4 => ?_⟩
      · rw [b j (by omega), wI_n (by omega)]
      · by_cases e : j = k
        · subst e
          rw [b _ (by omega), wI_s]
        · rw [c j (by omega) h4, wI_n (by omega)]
def fPM : FT := [(94, none), (90, some 7), (90, some 8), (90, some 10), (90, some 12), (90, some 13), (90, some 14)]
theorem back_c {g : Nat} (hg : 1000 ≤ g) (hR : RG p fe R) {a N m : Nat} (ha : S1 a = (20, N)) (hm : 43 * m + 43 ≤ N) (hN : N < 1000) (hd : a ≠ 94) (hd2 : a ≠ 90) (hq : PS a m q I) :
    wpo (f_Mod_takesBack g S1 R I 90 a (nI (43 * m))) (fun I' => Fr fPM I I' ∧ PM q I') := by
  have hq' : ∀ {J : MI} {k j : Nat} {v : Int32}, wI J 90 k v a j = J a j := wI_n (by omega)
  have h0 := hq 0 (by omega) (by omega)
  have h1 := hq 1 (by omega) (by omega)
  have h2 := hq 2 (by omega) (by omega)
  have h3 := hq 3 (by omega) (by omega)
  have h4 := hq 4 (by omega) (by omega)
  have h5 := hq 5 (by omega) (by omega)
  rw [Nat.add_zero] at h0
  unfold f_Mod_takesBack
  rw [ha, asrt_pos rfl, asrt_pos (vir (by show _ < N; omega) (by omega)), lt_c, lt_c, show (1 : Int32) = nI 1 from rfl, nI_add, lt_c, asrt_pos (vir (by show _ < N; omega) (by omega)), lt_c, lt_c, show (2 : Int32) = nI 2 from rfl, nI_add, lt_c, asrt_pos (vir (by show _ < N; omega) (by omega)), lt_c, lt_c,
    show (3 : Int32) = nI 3 from rfl, nI_add, lt_c, asrt_pos (vir (by show _ < N; omega) (by omega)), lt_c, lt_c, show (4 : Int32) = nI 4 from rfl, nI_add, lt_c, asrt_pos (vir (by show _ < N; omega) (by omega)), lt_c, lt_c, show (5 : Int32) = nI 5 from rfl, nI_add, lt_c, asrt_pos (vir (by show _ < N; omega) (by omega)), lt_c, lt_c,
    cl32 (by omega), cl32 (by omega), cl32 (by omega), cl32 (by omega), cl32 (by omega), cl32 (by omega), hq', hq', hq', hq', hq', hq', hq', hq', hq', hq', hq', hq', hq', hq', hq', h0, h1, h2, h3, h4, h5, wpo_b1]
  obtain ⟨I1, e1, a1, b1, c1⟩ := back_l hR ha hm hN hd g 0 (wI (wI (wI (wI (wI (wI I 90 7 (q 0)) 90 8 (q 1)) 90 10 (q 2)) 90 12 (q 3)) 90 13 (q 4)) 90 14 (q 5)) (by omega) (by omega)
  have fr : Fr fPM I I1 := (Fr.w (Fr.w (Fr.w (Fr.w (Fr.w (Fr.w Fr.rf rfl) rfl) rfl) rfl) rfl) rfl).tr (a1.sub rfl)
  refine ⟨I1, e1, wpo_some.mpr ⟨fr, ⟨?_, ?_, ?_, ?_, ?_, ?_⟩, fun k hk => ?_⟩⟩
  · rw [a1 90 7 rfl]; simp (disch := omega) only [wI_s, wI_n]
  · rw [a1 90 8 rfl]; simp (disch := omega) only [wI_s, wI_n]
  · rw [a1 90 10 rfl]; simp (disch := omega) only [wI_s, wI_n]
  · rw [a1 90 12 rfl]; simp (disch := omega) only [wI_s, wI_n]
  · rw [a1 90 13 rfl]; simp (disch := omega) only [wI_s, wI_n]
  · rw [a1 90 14 rfl]; simp (disch := omega) only [wI_s, wI_n]
  · rw [c1 k (by omega) hk]
    simp (disch := omega) only [wI_n]
    rw [← hq (7 + k) (by omega) (by omega)]
    congr 1
    omega
/-! one step -/
def trd (q : Nat → Int32) (c c' h' : Nat) : Nat → Int32 := fun i => if i = 0 then nI c' else if i = 1 then nI h' else if i = 4 then q 4 + 1 else if i = 7 + c ∧ c' ≠ c then nI c' else q i
theorem trd_ok {c c' h' : Nat} (hq : Pok W H q) (hc : c' < W * H) (hh : h' < 4) : Pok W H (trd q c c' h') := by
  obtain ⟨b1, b2, b3, b4⟩ := hq
  refine ⟨⟨c', hc, rfl⟩, ⟨h', hh, rfl⟩, ?_, fun k hk => ?_⟩
  · obtain ⟨v, h1, h2⟩ := b3
    refine ⟨v, h1, ?_⟩
    unfold trd
    rw [if_neg (by omega), if_neg (by omega), if_neg (by omega), if_neg (by omega)]
    exact h2
  · unfold trd
    rw [if_neg (by omega), if_neg (by omega), if_neg (by omega)]
    by_cases e : 7 + k = 7 + c ∧ c' ≠ c
    · rw [if_pos e]
      exact Or.inr ⟨c', hc, rfl⟩
    · rw [if_neg e]
      exact b4 k hk
theorem cellOf_c {s : Nat} (hs : s < 2147483648) : f_GWL_cellOf (nI s) = some (nI (s / 4)) := by
  unfold f_GWL_cellOf
  rw [lt_c]
  unfold isr
  rw [pk_shrN (by omega) _ 2 (by decide)]
theorem and3 {s : Nat} (hs : s < 2147483648) : nI s &&& 3 = nI (s % 4) := pk_andN (by omega) 2 (by decide)
theorem tread_c (hL : LKc W H K I) (hA : LA W H K I) (hR : RG p fe R) (hq : PR 64 65 q I) {c h t : Nat} (hc : c < W * H) (hh : h < 4) (h0 : q 0 = nI c) (h1 : q 1 = nI h) (ht : t < 3) :
    wpo (f_Party_tread S1 R I 64 60 (nI t)) (fun I' => Fr [(64, some 0), (64, some 1), (64, some 4), (65, none)] I I' ∧ PR 64 65 (trd q c (aft W H K (4 * c + h) t / 4) (aft W H K (4 * c + h) t % 4)) I') := by
  have hN := hL.N36
  obtain ⟨⟨c0, c1, c2, c3, c4, c5⟩, c6⟩ := hq
  have hlt := @aft_lt W H K hL.1 (4 * c + h) t (by omega)
  unfold f_Party_tread f_Party_stance
  rw [c0, c1, h0, h1, show (4 : Int32) = nI 4 from rfl, pk_mul, nI_add, lt_c, bnd1_c, t_60, asrt_pos rfl, Nat.mul_comm c 4, after_c hN.2 hA hR (by omega) ht, bnd1_c]
  generalize aft W H K (4 * c + h) t = s at *
  rw [cellOf_c (by omega), bnd1_c, and3 (by omega)]
  by_cases e : s / 4 = c
  · rw [e, ifb_pos rfl, bnd1_c, lt_c, lt_c, lt_c, lt_c, lt_c]
    refine wpo_some.mpr ⟨Fr.w (Fr.w (Fr.w Fr.rf rfl) rfl) rfl, ⟨?_, ?_, ?_, ?_, ?_, ?_⟩, fun k hk => ?_⟩
    · simp (disch := omega) only [wI_s, wI_n]; rfl
    · simp (disch := omega) only [wI_s, wI_n]; rfl
    · simp (disch := omega) only [wI_s, wI_n]
      unfold trd
      rw [if_neg (by omega), if_neg (by omega), if_neg (by omega), if_neg (by omega)]; exact c2
    · simp (disch := omega) only [wI_s, wI_n]
      unfold trd
      rw [if_neg (by omega), if_neg (by omega), if_neg (by omega), if_neg (by omega)]; exact c3
    · simp (disch := omega) only [wI_s, wI_n]
      rw [c4]; rfl
    · simp (disch := omega) only [wI_s, wI_n]
      unfold trd
      rw [if_neg (by omega), if_neg (by omega), if_neg (by omega), if_neg (by omega)]; exact c5
    · simp (disch := omega) only [wI_s, wI_n]
      unfold trd
      rw [if_neg (by omega), if_neg (by omega), if_neg (by omega), if_neg (by omega)]; exact c6 k hk
  · rw [ifb_neg (by rw [eq32 (by omega) (by omega)]; exact e), ifb_neg (zn (by omega)), show (36 : Int32) = nI 36 from rfl, ifb_neg (by rw [le32 (by omega) (by omega)]; omega), r_64_6 hR, bnd1_c, t_65, asrt_pos rfl, asrt_pos (vir (by omega) (by omega)), lt_c, cl32 (by omega), bnd1_c, lt_c, lt_c, lt_c, lt_c, lt_c]
    refine wpo_some.mpr ⟨Fr.w (Fr.w (Fr.w (Fr.w Fr.rf rfl) rfl) rfl) rfl, ⟨?_, ?_, ?_, ?_, ?_, ?_⟩, fun k hk => ?_⟩
    · simp (disch := omega) only [wI_s, wI_n]; rfl
    · simp (disch := omega) only [wI_s, wI_n]; rfl
    · simp (disch := omega) only [wI_s, wI_n]
      unfold trd
      rw [if_neg (by omega), if_neg (by omega), if_neg (by omega), if_neg (by omega)]; exact c2
    · simp (disch := omega) only [wI_s, wI_n]
      unfold trd
      rw [if_neg (by omega), if_neg (by omega), if_neg (by omega), if_neg (by omega)]; exact c3
    · simp (disch := omega) only [wI_s, wI_n]
      rw [c4]; rfl
    · simp (disch := omega) only [wI_s, wI_n]
      unfold trd
      rw [if_neg (by omega), if_neg (by omega), if_neg (by omega), if_neg (by omega)]; exact c5
    · unfold trd
      rw [if_neg (by omega), if_neg (by omega), if_neg (by omega)]
      by_cases ek : k = c
      · subst ek
        rw [if_pos ⟨rfl, e⟩]
        simp (disch := omega) only [wI_s, wI_n]
      · rw [if_neg (by omega)]
        simp (disch := omega) only [wI_s, wI_n]
        exact c6 k hk
theorem steps_c (hL : LM W H K I) (hR : RG p fe R) (hq : PM q I) {c h t : Nat} (hc : c < W * H) (hh : h < 4) (h0 : q 0 = nI c) (h1 : q 1 = nI h) (ht : t < 3) :
    wpo (f_Mod_steps S1 R I 90 (nI t)) (fun r => r.1 = nI (aft W H K (4 * c + h) t / 4) ∧ Fr [(90, some 7), (90, some 8), (90, some 13), (94, none)] I r.2 ∧ PM (trd q c (aft W H K (4 * c + h) t / 4) (aft W H K (4 * c + h) t % 4)) r.2) := by
  have hN := hL.N36
  obtain ⟨⟨c0, c1, c2, c3, c4, c5⟩, c6⟩ := hq
  have hlt := @nxt_lt W H K hL.1 c (hd3 (4 * c + h) t) hc
  have hd := @hd3_lt (4 * c + h) t
  have e1 : aft W H K (4 * c + h) t / 4 = nxt W H K c (hd3 (4 * c + h) t) := by
    unfold aft
    rw [show (4 * c + h) / 4 = c by omega]
    omega
  have e2 : aft W H K (4 * c + h) t % 4 = hd3 (4 * c + h) t := by
    unfold aft
    omega
  have e3 : (h + t + 3) % 4 = hd3 (4 * c + h) t := by
    unfold hd3
    omega
  rw [e1, e2]
  unfold f_Mod_steps
  rw [c1, h1, turned_c hh ht, bnd1_c, lt_c, wI_s, wI_n (by omega), c0, h0, e3, cellBy_c (hL.ag (Fr.ag (l := [(90, some 8)]) (Fr.w Fr.rf rfl) rfl)) hR hc hd, bnd1_c, r_90_15 hR, bnd1_c]
  generalize nxt W H K c (hd3 (4 * c + h) t) = d at *
  generalize hd3 (4 * c + h) t = d' at *
  by_cases e : d = c
  · subst e
    rw [ifb_pos rfl, lt_c, t_94, asrt_pos rfl, asrt_pos (vir (by omega) (by omega)), bnd1_c, asrt_pos rfl, asrt_pos (vir (by omega) (by omega)), lt_c, cl32 (by omega), lt_c, lt_c, lt_c, lt_c]
    refine wpo_some.mpr ⟨?_, Fr.w (Fr.w (Fr.w (Fr.w Fr.rf rfl) rfl) rfl) rfl, ⟨?_, ?_, ?_, ?_, ?_, ?_⟩, fun k hk => ?_⟩
    · simp (disch := omega) only [wI_s, wI_n]
    · simp (disch := omega) only [wI_s, wI_n]; rfl
    · simp (disch := omega) only [wI_s, wI_n]; rfl
    · simp (disch := omega) only [wI_s, wI_n]
      unfold trd
      rw [if_neg (by omega), if_neg (by omega), if_neg (by omega), if_neg (by omega)]; exact c2
    · simp (disch := omega) only [wI_s, wI_n]
      unfold trd
      rw [if_neg (by omega), if_neg (by omega), if_neg (by omega), if_neg (by omega)]; exact c3
    · simp (disch := omega) only [wI_s, wI_n]
      rw [c4]; rfl
    · simp (disch := omega) only [wI_s, wI_n]
      unfold trd
      rw [if_neg (by omega), if_neg (by omega), if_neg (by omega), if_neg (by omega)]; exact c5
    · unfold trd
      rw [if_neg (by omega), if_neg (by omega), if_neg (by omega), if_neg (by omega)]
      by_cases ek : k = d
      · subst ek
        simp (disch := omega) only [wI_s, wI_n]
        exact c6 k hk
      · simp (disch := omega) only [wI_s, wI_n]
        exact c6 k hk
  · rw [ifb_neg (by rw [eq32 (by omega) (by omega)]; exact e), bnd1_c, t_94, asrt_pos rfl, asrt_pos (vir (by omega) (by omega)), lt_c, cl32 (by omega), lt_c, lt_c, lt_c, lt_c]
    refine wpo_some.mpr ⟨?_, Fr.w (Fr.w (Fr.w (Fr.w Fr.rf rfl) rfl) rfl) rfl, ⟨?_, ?_, ?_, ?_, ?_, ?_⟩, fun k hk => ?_⟩
    · simp (disch := omega) only [wI_s, wI_n]
    · simp (disch := omega) only [wI_s, wI_n]; rfl
    · simp (disch := omega) only [wI_s, wI_n]; rfl
    · simp (disch := omega) only [wI_s, wI_n]
      unfold trd
      rw [if_neg (by omega), if_neg (by omega), if_neg (by omega), if_neg (by omega)]; exact c2
    · simp (disch := omega) only [wI_s, wI_n]
      unfold trd
      rw [if_neg (by omega), if_neg (by omega), if_neg (by omega), if_neg (by omega)]; exact c3
    · simp (disch := omega) only [wI_s, wI_n]
      rw [c4]; rfl
    · simp (disch := omega) only [wI_s, wI_n]
      unfold trd
      rw [if_neg (by omega), if_neg (by omega), if_neg (by omega), if_neg (by omega)]; exact c5
    · unfold trd
      rw [if_neg (by omega), if_neg (by omega), if_neg (by omega)]
      by_cases ek : k = c
      · subst ek
        rw [if_pos ⟨rfl, e⟩]
        simp (disch := omega) only [wI_s, wI_n]
      · rw [if_neg (by omega)]
        simp (disch := omega) only [wI_s, wI_n]
        exact c6 k hk
/-! the row of numbers -/
theorem add_c (hR : RG p fe R) {k : Nat} (h : I 3 1 = nI k) (hk : k < 16) (v : Int64) : f_Numbers_add S1 R I L 3 v = some (wI I 3 1 (nI (k + 1)), wL L 4 k v) := by
  unfold f_Numbers_add
  rw [h, show (16 : Int32) = nI 16 from rfl, ifb_neg (by rw [le32 (by omega) (by omega)]; omega), r_3_0 hR, bnd1_c, t_4, asrt_pos rfl, asrt_pos (vir (by omega) (by omega)), cl32 (by omega), lt_c, nI_1, lt_c, lt_c]
  rfl
theorem enters_c (hR : RG p fe R) {k : Nat} (h : I 90 1 = nI k) (hk : k < 20) (v : Int64) : f_Mod_enters S1 R I L 90 v = some (wI I 90 1 (nI (k + 1)), wL L 91 k v) := by
  unfold f_Mod_enters
  rw [h, r_90_2 hR, bnd1_c, t_91, asrt_pos rfl, asrt_pos (vir (by omega) (by omega)), cl32 (by omega), lt_c, nI_1, lt_c, lt_c]
/-! a draw -/
def rn1 (r : Int32) : Int32 := r * 1103515245 + 12345
def dr10 (r : Int32) : Int32 := irm (ius (rn1 r) 16) 10
/-- the turn of a draw, by weights -/
def twt (w : Nat → Nat) (x : Int32) : Nat := if nI (w 0) ≤ x then (if nI (w 0 + w 1) ≤ x then 2 else 1) else 0
theorem twt_lt (w : Nat → Nat) (x : Int32) : twt w x < 3 := by
  unfold twt
  split
  · split <;> omega
  · omega
theorem drawTenths_c : f_Party_drawTenths S1 I 64 = some (dr10 (I 64 3), wI I 64 3 (rn1 (I 64 3))) := by
  unfold f_Party_drawTenths
  rw [lt_c, lt_c, wI_s, lt_c]
  rfl
theorem draws_c : f_Mod_draws S1 I 90 10 = some (dr10 (I 90 12), wI I 90 12 (rn1 (I 90 12))) := by
  unfold f_Mod_draws
  rw [lt_c, lt_c, wI_s, asrt_pos (by decide), lt_c]
  rfl
theorem tenthsOf_c {t v : Nat} (ht : t < 3) (h : I 66 t = nI v) : f_GWL_tenthsOf S1 I 66 (nI t) = some (nI v) := by
  unfold f_GWL_tenthsOf
  rw [ifb_neg (zn (by omega)), t_66, asrt_pos rfl, show Int32.ofNat (20, 3).2 = nI 3 from rfl, ifb_neg (by rw [le32 (by omega) (by omega)]; omega), asrt_pos (vir (by omega) (by omega)), cl32 (by omega), h]
  rfl
theorem byW_c {w : Nat → Nat} {hd : Nat} (hW : Wgt w hd I) : f_Party_turnByWeights S1 I 64 66 = some (nI (twt w (dr10 (I 64 3))), wI I 64 3 (rn1 (I 64 3))) := by
  obtain ⟨-, h2, -⟩ := hW
  unfold f_Party_turnByWeights
  rw [drawTenths_c, bnd2_c, show (0 : Int32) = nI 0 from rfl, tenthsOf_c (v := w 0) (by omega) (by rw [wI_n (by omega)]; exact (h2 0 (by omega)).1), bnd1_c]
  unfold twt
  by_cases h : nI (w 0) ≤ dr10 (I 64 3)
  · rw [ifb_pos h, if_pos h, show (1 : Int32) = nI 1 from rfl, tenthsOf_c (v := w 1) (by omega) (by rw [wI_n (by omega)]; exact (h2 1 (by omega)).1), bnd1_c, nI_add]
    by_cases h' : nI (w 0 + w 1) ≤ dr10 (I 64 3)
    · rw [ifb_pos h', if_pos h']; rfl
    · rw [ifb_neg h', if_neg h']; rfl
  · rw [ifb_neg h, if_neg h]; rfl
theorem byWm_c {w : Nat → Nat} {hd : Nat} (hR : RG p fe R) (hW : Wgt w hd I) : f_Mod_turnByWeights S1 R I 90 = some (nI (twt w (dr10 (I 90 12))), wI I 90 12 (rn1 (I 90 12))) := by
  obtain ⟨-, h2, -⟩ := hW
  unfold f_Mod_turnByWeights
  rw [draws_c, bnd2_c, r_90_9 hR, bnd1_c, t_93, asrt_pos rfl, asrt_pos (vL0 (by decide)), wI_n (by omega), clamp0, (h2 0 (by omega)).2]
  unfold twt
  by_cases h : nI (w 0) ≤ dr10 (I 90 12)
  · rw [ifb_pos h, if_pos h, asrt_pos (vL0 (by decide)), asrt_pos (vL1 (by decide)), wI_n (by omega), show (1 : Int32).toNatClampNeg = 1 from by decide, (h2 1 (by omega)).2, nI_add]
    by_cases h' : nI (w 0 + w 1) ≤ dr10 (I 90 12)
    · rw [ifb_pos h', if_pos h']; rfl
    · rw [ifb_neg h', if_neg h']; rfl
  · rw [ifb_neg h, if_neg h]; rfl
end ST
