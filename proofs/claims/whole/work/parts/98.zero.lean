/-! both memories behind their constructors are alike -/
def q0 : Nat → Int32 := fun i => if i = 2 then 9 else if i = 3 then 1 else if 7 ≤ i then -1 else 0
theorem q0_t (k : Nat) : q0 (7 + k) = -1 := by
  unfold q0
  rw [if_neg (by omega), if_neg (by omega), if_pos (by omega)]
theorem nxt_0 : ∀ s, s < 4 → 4 * nxt 1 1 (fun _ => 0) (s / 4) (s % 4) + s % 4 = s := by decide
theorem cp_0 {I : MI} {L : ML} {R : MR} (hI : FactI I) (hR : FactR R) : Cp 0 I L R := by
  obtain ⟨h1, h2, h3, h4⟩ := hI
  have t : ∀ (a k : Nat) (v : Int32), (a, k, v) ∈ tabI → I a k = v := fun a k v h => h1 _ h
  have m51 : ∀ i, i < 3 → (51, i, (0 : Int32)) ∈ tabI := by decide +kernel
  have m109 : ∀ i, i < 3 → (109, i, (0 : Int32)) ∈ tabI := by decide +kernel
  have m53 : ∀ i, i < 3 → (53, i, (-1 : Int32)) ∈ tabI := by decide +kernel
  have m121 : ∀ i, i < 3 → (121, i, (-1 : Int32)) ∈ tabI := by decide +kernel
  have m47 : ∀ i, i < 5 → (47, i, (0 : Int32)) ∈ tabI := by decide +kernel
  have m97 : ∀ i, i < 5 → (97, i, (0 : Int32)) ∈ tabI := by decide +kernel
  have m66 : ∀ i, i < 3 → (66, i, nI (if i = 1 then 10 else 0)) ∈ tabI ∧ (93, i, nI (if i = 1 then 10 else 0)) ∈ tabI := by decide +kernel
  refine ⟨⟨true, 75, hR⟩, ⟨0, fun _ => 0, by omega, t 1 1 _ (by decide +kernel), t 90 17 _ (by decide +kernel), fun k hk => absurd hk (by omega)⟩, ⟨0, fun _ => 0, by omega, t 3 1 _ (by decide +kernel), t 90 1 _ (by decide +kernel), fun k hk => absurd hk (by omega)⟩,
    ⟨fun i => if i = 1 then 10 else 0, 10, rfl, fun i hi => ⟨t _ _ _ (m66 i hi).1, t _ _ _ (m66 i hi).2⟩, by omega, t 0 6 _ (by decide +kernel), t 90 11 _ (by decide +kernel)⟩,
    ⟨fun _ => 0, fun i _ => (by decide : (-3000 : Int) ≤ 0 ∧ (0 : Int) ≤ 3000), ⟨fun i hi => t _ _ _ (m47 i hi), t 47 5 _ (by decide +kernel)⟩, fun i hi => t _ _ _ (m97 i hi)⟩,
    fun i hi => Or.inl ⟨t _ _ _ (m51 i hi), t _ _ _ (m109 i hi)⟩,
    ⟨fun _ => 0, fun k hk => ⟨Nat.zero_le _, (h4 k hk).1, (h4 k hk).2⟩⟩,
    1, 1, fun _ => 0, ⟨⟨by omega, by omega, fun _ => (by decide : 0 < 4), t 60 0 _ (by decide +kernel), t 60 1 _ (by decide +kernel), fun c hc => (h2 c (by omega)).1⟩, ⟨by omega, by omega, fun _ => (by decide : 0 < 4), t 90 3 _ (by decide +kernel), t 90 4 _ (by decide +kernel), fun c hc => (h2 c (by omega)).2.1⟩, fun s hs => ?_, Or.inl (t 60 5 _ (by decide +kernel))⟩,
    ⟨q0, ⟨⟨0, by omega, rfl⟩, ⟨0, by omega, rfl⟩, ⟨9, by omega, rfl⟩, fun k _ => Or.inl (q0_t k)⟩, ⟨⟨t 64 0 _ (by decide +kernel), t 64 1 _ (by decide +kernel), t 64 2 _ (by decide +kernel), t 64 3 _ (by decide +kernel), t 64 4 _ (by decide +kernel), t 64 5 _ (by decide +kernel)⟩, fun k hk => by rw [q0_t]; exact (h2 k hk).2.2.1⟩,
      ⟨⟨t 90 7 _ (by decide +kernel), t 90 8 _ (by decide +kernel), t 90 10 _ (by decide +kernel), t 90 12 _ (by decide +kernel), t 90 13 _ (by decide +kernel), t 90 14 _ (by decide +kernel)⟩, fun k hk => by rw [q0_t]; exact (h2 k hk).2.2.2⟩⟩,
    ⟨0, 0, fun _ => q0, by omega, by omega, t 5 1 _ (by decide +kernel), t 5 2 _ (by decide +kernel), t 90 23 _ (by decide +kernel), fun j hj => absurd hj (by omega)⟩,
    ⟨0, 0, fun _ => 0, by omega, by omega, t 77 6 _ (by decide +kernel), t 90 42 _ (by decide +kernel), fun z => absurd z (by omega), fun k hk => absurd hk (by omega)⟩,
    ⟨0, by omega, t 90 6 _ (by decide +kernel), fun i hi => ⟨Or.inl (t _ _ _ (m121 i hi)), Or.inl ⟨t _ _ _ (m53 i hi), by rw [t _ _ _ (m121 i hi)]; decide⟩⟩⟩⟩
  have := nxt_0 s (by omega)
  rw [this]
  exact h3 s (by omega)
theorem S_1 {S : MS} (h : FactS S) : S = S1 := by
  funext a
  unfold S1
  by_cases ha : a < 124
  · rw [if_pos ha]; exact h.1 a ha
  · rw [if_neg ha]; exact h.2 a (by omega)
