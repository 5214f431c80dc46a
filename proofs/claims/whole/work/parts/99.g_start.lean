/-! the world at the law's entry -/
set_option maxRecDepth 100000 in
theorem nestF_in : ∀ q ∈ nestF, Cond.fieldLinkNest q.1 q.2.1 q.2.2.1 q.2.2.2.1 q.2.2.2.2.1 q.2.2.2.2.2 ∈ lw_tbl := by decide +kernel
set_option maxRecDepth 100000 in
theorem nestM_in : ∀ q ∈ nestM, Cond.methodLinkNest q.1 q.2.1 q.2.2.1 q.2.2.2 ∈ lw_tbl := by decide +kernel
set_option maxRecDepth 100000 in
theorem inst_in : ∀ ci, ci < 13 → Cond.instantiable (clR ci) (cN ci) ∈ lw_tbl := by decide +kernel
theorem vkS_to {N : Nat} {len : List Nat} {byt : List (List Int32)} {a a' v v' : Nat → Nat} {A : Nat → Prop} {U : State} {H : Heap} (h : vk_S N len byt a v A U H) (ha : ∀ i, i < N → a' i = a i) (hv : ∀ i, i < N → v' i = v i) : vk_S N len byt a' v' A U H :=
  ⟨fun i hi => by rw [ha i hi, hv i hi]; exact h.1 i hi, fun i j hi hj e => h.2 i j hi hj (by rw [← ha i hi, ← ha j hj]; exact e)⟩
theorem known13 {s : State} {args : Array Value} (hts : ∀ w ∈ lw_tbl, w.before args s = true) : ∃ (dC : Nat → ClassId) (dI : Nat → Nat → Nat), ∀ (k : Nat) (q : vw_C), vwCl[k]? = some q → u_Kn s q.1 q.2.1 q.2.2 (dC k) (dI k) := by
  have h : ∀ ci, ∃ q : ClassId × (Nat → Nat), ci < 13 → u_Kn s (clR ci) (clT ci) (cN ci) q.1 q.2 := by
    intro ci
    by_cases hc : ci < 13
    · obtain ⟨a, b, h⟩ := u_known (C := clR ci) (T := clT ci) (N := cN ci) (n := cN ci) hts (cl_ok ci hc).2.1 (hts _ (inst_in ci hc))
      exact ⟨(a, b), fun _ => h⟩
    · exact ⟨((0 : Nat), fun _ => 0), fun z => absurd z hc⟩
  refine ⟨fun ci => (Classical.choose (h ci)).1, fun ci => (Classical.choose (h ci)).2, fun k q hq => ?_⟩
  have hk : k < 13 := (List.getElem?_eq_some_iff.mp hq).1
  rw [(cl_ok k hk).1] at hq
  cases hq
  exact Classical.choose_spec (h k) hk
theorem arrO {s : State} {args : Array Value} {C : String} (h : (Cond.arrayOver (.object C)).before args s = true) : ∃ c : ClassId, ArrOfT s c (.object C) ∧ va_RA s c (.object C) := by
  obtain ⟨comp, c, k, h1, h2, h3, h4, h5⟩ := Cond.arrayOver_spec h
  exact ⟨c, fun N z => ⟨(fun k h => by cases h), k, h3, comp, h4⟩, k, comp, h3, h4, h1, h5⟩
def strT (i : Nat) : Term := Term.string "GuideWalksLastModel" ([185, 219, 279].getD i 0)
theorem world {s : State} {b N : Nat} {xs : Nat → Int32} (l : Launch) (hflags : l.flags = flags0) (hts : ∀ w ∈ lw_tbl, w.before #[Value.ref b] s = true) (hX : va_X b N xs s s.heap) (hbl : b < s.heap.size) (hgv : (Jvm.Cond.and given_1 narrow_1).before #[Value.ref b] s = true) :
    ∃ E : Env, E.1 = l ∧ E.2.1 = s ∧ E.2.2.2 9 = b ∧ OKE E ∧ SCR E N xs ∧ VMok E s ∧ HB E s.heap ∧ WR E true (fun _ => (99, 0)) (fun _ _ => 0) (fun _ _ => 0) (fun _ _ => none) 0 s.heap := by
  have hs := flat_of_before _ hgv
  have hA : ∀ a : Nat, a < s.heap.size → ¬ (fun q => s.heap.size ≤ q) a := fun a ha z => absurd ha (Nat.not_lt.mpr z)
  obtain ⟨dC, dI, hKc⟩ := known13 hts
  obtain ⟨ci, ai, ri⟩ : ∃ c : ClassId, ArrOfT s c .int ∧ va_RA s c .int := by
    obtain ⟨c, k, comp, h1, h2, h3⟩ := Cond.arrayClass_spec (hts _ (tb_at (w := Cond.arrayClass .int) 48 (by decide +kernel)))
    exact ⟨c, fun N z => ⟨(fun k h => by cases h), k, h2, comp, h3⟩, h1⟩
  obtain ⟨cj, aj, rj⟩ : ∃ c : ClassId, ArrOfT s c .long ∧ va_RA s c .long := by
    obtain ⟨c, k, comp, h1, h2, h3⟩ := Cond.arrayClass_spec (hts _ (tb_at (w := Cond.arrayClass .long) 63 (by decide +kernel)))
    exact ⟨c, fun N z => ⟨(fun k h => by cases h), k, h2, comp, h3⟩, h1⟩
  obtain ⟨cz, az, rz⟩ : ∃ c : ClassId, ArrOfT s c .boolean ∧ va_RA s c .boolean := by
    obtain ⟨c, k, comp, h1, h2, h3⟩ := Cond.arrayClass_spec (hts _ (tb_at (w := Cond.arrayClass .boolean) 167 (by decide +kernel)))
    exact ⟨c, fun N z => ⟨(fun k h => by cases h), k, h2, comp, h3⟩, h1⟩
  have of := hts _ (tb_at (w := Cond.arrayOver (.object "GuideWalksLast$Fee")) 149 (by decide +kernel))
  have op := hts _ (tb_at (w := Cond.arrayOver (.object "GuideWalksLast$Party")) 71 (by decide +kernel))
  obtain ⟨cf, af, rf⟩ := arrO of
  obtain ⟨cp, ap, rp⟩ := arrO op
  obtain ⟨th, hth, hT⟩ := va_Tof (args := #[Value.ref b]) (s := s) (tm := Term.static "GuideWalksLast" "HUNDREDS" "[J") (ty := .long) (N := 9) (f := fun j => .long (hund j)) (A := fun q => s.heap.size ≤ q) (by decide) (hs _ (by decide +kernel)) (va_eqt (hs _ (by decide +kernel)))
    (fun j hj => by
      match j, hj with
      | 0, _ => exact va_eqtl (hs _ (by decide +kernel))
      | 1, _ => exact va_eqtl (hs _ (by decide +kernel))
      | 2, _ => exact va_eqtl (hs _ (by decide +kernel))
      | 3, _ => exact va_eqtl (hs _ (by decide +kernel))
      | 4, _ => exact va_eqtl (hs _ (by decide +kernel))
      | 5, _ => exact va_eqtl (hs _ (by decide +kernel))
      | 6, _ => exact va_eqtl (hs _ (by decide +kernel))
      | 7, _ => exact va_eqtl (hs _ (by decide +kernel))
      | 8, _ => exact va_eqtl (hs _ (by decide +kernel))
      | k + 9, h => exact absurd h (by omega)) hA
  have hZh := va_Zref (hts _ (tb_at (w := Cond.laysStatic "GuideWalksLast" "HUNDREDS" "[J") 714 (by decide +kernel))) (hts _ (tb_at (w := Cond.initialized "GuideWalksLast") 1 (by decide +kernel))) hth hA
  have hZc := va_Zof (hts _ (tb_at (w := Cond.laysStatic "java/lang/String" "COMPACT_STRINGS" "Z") 1294 (by decide +kernel))) (hts _ (tb_at (w := Cond.initialized "java/lang/String") 16 (by decide +kernel))) (va_eqt (hs (Cond.eq (Term.static "java/lang/String" "COMPACT_STRINGS" "Z") (Term.int 1)) (by decide +kernel))) hA
  have hZs := va_Zqof (hts _ (tb_at (w := Cond.laysStatic "jdk/internal/util/Preconditions" "SIOOBE_FORMATTER" "Ljava/util/function/BiFunction;") 1310 (by decide +kernel))) (hts _ (tb_at (w := Cond.initialized "jdk/internal/util/Preconditions") 18 (by decide +kernel))) (hs _ (by decide +kernel)) hA
  obtain ⟨f0, f1, hZf⟩ : ∃ f0 f1 : Nat, va_Z "jdk/internal/util/Preconditions" "SIOOBE_FORMATTER" "Ljava/util/function/BiFunction;" (if f1 = 0 then .null else .ref f0) (fun q => s.heap.size ≤ q) s s.heap := by
    rcases hZs with h | ⟨t, h⟩
    · exact ⟨0, 0, by rw [if_pos rfl]; exact h⟩
    · exact ⟨t, 1, by rw [if_neg (by decide)]; exact h⟩
  obtain ⟨aK, aV, hS, hev⟩ := vk_Sof (args := #[Value.ref b]) (s := s) (N := 3) (tm := strT) (len := [4, 4, 3]) (byt := [amL 6, amL 7, amL 8]) (A := fun q => s.heap.size ≤ q)
    (fun i hi => by
      match i, hi with
      | 0, _ => decide
      | 1, _ => decide
      | 2, _ => decide
      | k + 3, h => exact absurd h (by omega))
    (fun i hi => by
      match i, hi with
      | 0, _ => exact hs _ (by decide +kernel)
      | 1, _ => exact hs _ (by decide +kernel)
      | 2, _ => exact hs _ (by decide +kernel)
      | k + 3, h => exact absurd h (by omega))
    (fun i hi => by
      match i, hi with
      | 0, _ => exact hs _ (by decide +kernel)
      | 1, _ => exact hs _ (by decide +kernel)
      | 2, _ => exact hs _ (by decide +kernel)
      | k + 3, h => exact absurd h (by omega))
    (fun i hi => by
      match i, hi with
      | 0, _ => exact hs _ (by decide +kernel)
      | 1, _ => exact hs _ (by decide +kernel)
      | 2, _ => exact hs _ (by decide +kernel)
      | k + 3, h => exact absurd h (by omega))
    (fun i hi => by
      match i, hi with
      | 0, _ => exact hs _ (by decide +kernel)
      | 1, _ => exact hs _ (by decide +kernel)
      | 2, _ => exact hs _ (by decide +kernel)
      | k + 3, h => exact absurd h (by omega))
    (fun i hi j hj => by
      match i, hi, j, hj with
      | 0, _, 0, _ => exact hs _ (by decide +kernel)
      | 0, _, 1, _ => exact hs _ (by decide +kernel)
      | 0, _, 2, _ => exact hs _ (by decide +kernel)
      | 0, _, 3, _ => exact hs _ (by decide +kernel)
      | 0, _, k + 4, h => exact absurd h (by simp)
      | 1, _, 0, _ => exact hs _ (by decide +kernel)
      | 1, _, 1, _ => exact hs _ (by decide +kernel)
      | 1, _, 2, _ => exact hs _ (by decide +kernel)
      | 1, _, 3, _ => exact hs _ (by decide +kernel)
      | 1, _, k + 4, h => exact absurd h (by simp)
      | 2, _, 0, _ => exact hs _ (by decide +kernel)
      | 2, _, 1, _ => exact hs _ (by decide +kernel)
      | 2, _, 2, _ => exact hs _ (by decide +kernel)
      | 2, _, k + 3, h => exact absurd h (by simp)
      | k + 3, h, _, _ => exact absurd h (by omega))
    (fun i j hi hj hij => by
      match i, hi, j, hj, hij with
      | 0, _, 0, _, z => exact absurd rfl z
      | 0, _, 1, _, _ => exact Or.inl (hs _ (by decide +kernel))
      | 0, _, 2, _, _ => exact Or.inl (hs _ (by decide +kernel))
      | 1, _, 0, _, _ => exact Or.inr (hs _ (by decide +kernel))
      | 1, _, 1, _, z => exact absurd rfl z
      | 1, _, 2, _, _ => exact Or.inl (hs _ (by decide +kernel))
      | 2, _, 0, _, _ => exact Or.inr (hs _ (by decide +kernel))
      | 2, _, 1, _, _ => exact Or.inr (hs _ (by decide +kernel))
      | 2, _, 2, _, z => exact absurd rfl z
      | k + 3, h, _, _, _ => exact absurd h (by omega)
      | _, _, k + 3, h, _ => exact absurd h (by omega)) hA
  obtain ⟨G, g0, g1, g2, g3, g4, g5, gK, g9, gV, g20, g21⟩ : ∃ G : Nat → Nat, G 0 = ci ∧ G 1 = cj ∧ G 2 = cz ∧ G 3 = cf ∧ G 4 = cp ∧ G 5 = th ∧ (∀ i, i < 3 → G (i + 6) = aK i) ∧ G 9 = b ∧ (∀ i, i < 3 → G (i + 16) = aV i) ∧ G 20 = f0 ∧ G 21 = f1 := by
    refine ⟨fun i => if i < 6 then [ci, cj, cz, cf, cp, th].getD i 0 else if i < 9 then aK (i - 6) else if i = 9 then b else if i < 20 then aV (i - 16) else if i = 20 then f0 else f1, rfl, rfl, rfl, rfl, rfl, rfl, fun i hi => ?_, rfl, fun i hi => ?_, rfl, rfl⟩
    · show (if i + 6 < 6 then _ else if i + 6 < 9 then _ else _) = _
      rw [if_neg (by omega), if_pos (by omega), Nat.add_sub_cancel]
    · show (if i + 16 < 6 then _ else if i + 16 < 9 then _ else if i + 16 = 9 then _ else if i + 16 < 20 then _ else _) = _
      rw [if_neg (by omega), if_neg (by omega), if_neg (by omega), if_pos (by omega), Nat.add_sub_cancel]
  refine ⟨(l, s, (dC, dI), G), rfl, rfl, g9, ⟨?_, ?_, ?_, ?_, ?_, hflags, ?_, ?_⟩, ⟨?_, ?_⟩, ⟨⟨hKc, ?_⟩, fun q hq => va_Nw.of rfl (hts _ (nestF_in q hq)), fun q hq => va_Nw.of rfl (hts _ (nestM_in q hq)), ?_, va_AO.of of, va_AO.of op, Vm.Alike.refl _⟩, ⟨Nat.le_refl _, fun _ _ => rfl⟩, ⟨?_, ⟨Nat.le_refl _, fun _ _ => rfl⟩, fun a _ => by show 25 ≤ 99; omega, Nat.le_refl _, fun _ => rfl⟩⟩
  · show va_Z _ _ _ (.ref (G 5)) _ _ _
    rw [g5]; exact hZh
  · show va_T _ (G 5) _ _ _ _ _
    rw [g5]; exact hT
  · exact vkS_to hS gK gV
  · exact hZc
  · show va_Z _ _ _ (if G 21 = 0 then .null else .ref (G 20)) _ _ _
    rw [g20, g21]; exact hZf
  · show (Jvm.Cond.and given_1 narrow_1).before #[Value.ref (G 9)] s = true
    rw [g9]; exact hgv
  · show ∀ w ∈ lw_tbl, w.before #[Value.ref (G 9)] s = true
    rw [g9]; exact hts
  · show va_X (G 9) _ _ _ _
    rw [g9]; exact hX
  · show G 9 < s.heap.size
    rw [g9]; exact hbl
  · intro k q hk
    match k, hk with
    | 0, hk =>
      cases hk
      show ArrOfT s (G 0) .int ∧ va_RA s (G 0) .int
      rw [g0]; exact ⟨ai, ri⟩
    | 1, hk =>
      cases hk
      show ArrOfT s (G 1) .long ∧ va_RA s (G 1) .long
      rw [g1]; exact ⟨aj, rj⟩
    | 2, hk =>
      cases hk
      show ArrOfT s (G 2) .boolean ∧ va_RA s (G 2) .boolean
      rw [g2]; exact ⟨az, rz⟩
    | 3, hk =>
      cases hk
      show ArrOfT s (G 3) (.object "GuideWalksLast$Fee") ∧ va_RA s (G 3) (.object "GuideWalksLast$Fee")
      rw [g3]; exact ⟨af, rf⟩
    | 4, hk =>
      cases hk
      show ArrOfT s (G 4) (.object "GuideWalksLast$Party") ∧ va_RA s (G 4) (.object "GuideWalksLast$Party")
      rw [g4]; exact ⟨ap, rp⟩
    | k + 5, hk => simp [e_ty] at hk
  · have hv : ∀ (i : Nat) (hi : i < 3) (tx : String), Cond.stringRef "GuideWalksLastModel" ([185, 219, 279].getD i 0) tx ∈ lw_tbl → vk_R "GuideWalksLastModel" ([185, 219, 279].getD i 0) tx (G (i + 6)) s := fun i hi tx hm => by
      rw [gK i hi]
      exact vk_R.of (A := #[Value.ref b]) (hts _ hm) (hev i hi)
    intro q hq
    rcases List.mem_cons.mp hq with rfl | hq
    · exact hv 0 (by omega) ".o#H" (tb_at 1281 (by decide +kernel))
    rcases List.mem_cons.mp hq with rfl | hq
    · exact hv 1 (by omega) "hxsa" (tb_at 1350 (by decide +kernel))
    rcases List.mem_cons.mp hq with rfl | hq
    · exact hv 2 (by omega) "lor" (tb_at 1460 (by decide +kernel))
    cases hq
  · intro k q hk
    simp [memL] at hk
