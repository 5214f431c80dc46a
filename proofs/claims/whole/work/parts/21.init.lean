section IN
variable {g n t : Nat} {S : MS} {R : MR} {I : MI} {L : ML}
/-- a row filled from its head on -/
def fI (I : MI) (a N : Nat) (v : Int32) : MI := fun b j => if b = a ∧ j < N then v else I b j
theorem fI_0 {a : Nat} {v : Int32} : fI I a 0 v = I := by funext b j; simp [fI]
theorem fI_s {a N : Nat} {v : Int32} : wI (fI I a N v) a N v = fI I a (N + 1) v := by
  funext b j
  simp only [wI, fI]
  by_cases h : b = a ∧ j = N
  · rw [if_pos h, if_pos ⟨h.1, by omega⟩]
  · rw [if_neg h]
    by_cases h2 : b = a ∧ j < N
    · rw [if_pos h2, if_pos ⟨h2.1, by omega⟩]
    · rw [if_neg h2, if_neg (fun q => by
        rcases Nat.lt_or_ge j N with z | z
        · exact h2 ⟨q.1, z⟩
        · exact h ⟨q.1, by omega⟩)]
theorem fill_l {a N : Nat} {v : Int32} (hS : S a = (20, N)) (hN : N < 2 ^ 31) : ∀ (f i : Nat), i ≤ N → N < i + f → l_JArr_fill_5 S a v (nI N) f (fI I a i v) (nI i) = some (fI I a N v) := by
  intro f
  induction f with
  | zero => intro i h1 h2; omega
  | succ f ih =>
    intro i h1 h2
    rw [l_JArr_fill_5]
    by_cases h : i = N
    · subst h
      rw [ifb_pos (nI_le (Nat.le_refl _) hN)]
    · have hlt : i < N := by omega
      rw [ifb_neg (nI_ge hlt hN), asrt_pos (by rw [hS]), asrt_pos (by rw [hS]; exact vp_in_nI hlt hN), lt_c, nI_clamp (by omega), fI_s, nI_1]
      exact ih (i + 1) (by omega) (by omega)
theorem fill_c {a N : Nat} {v : Int32} (hS : S a = (20, N)) (hN : N < 2 ^ 31) (hg : N < g) : f_JArr_fill g S I a v = some (fI I a N v) := by
  have h := fill_l (I := I) (v := v) hS hN g 0 (Nat.zero_le _) (by omega)
  rw [fI_0] at h
  simp only [f_JArr_fill, hS, asrt_t, lt_c]
  rw [show (Int32.ofNat N) = nI N from rfl, show (0 : Int32) = nI 0 from rfl, h]
  rfl
theorem n_Signs (h : (S t).1 = 8) (ht : t ≠ n) : f_Signs_new S R I L n t = some (zI I n, zL L n, wR (zR R n) t 0 (some n), wS S n (20, 80), n + 1) := by
  simp [f_Signs_new, lt_c, wS, ht, h, asrt_t]
theorem n_Numbers (h : (S t).1 = 4) (ht : t ≠ n) : f_Numbers_new S R I L n t = some (zI I n, zL L n, wR (zR R n) t 0 (some n), wS S n (21, 16), n + 1) := by
  simp [f_Numbers_new, lt_c, wS, ht, h, asrt_t]
theorem n_Party (h : (S t).1 = 5) (ht : t ≠ n) (hg : 1000 ≤ g) : f_Party_new g S R I L n t = some (fI (zI (wI (wI I t 2 9) t 3 1) n) n 36 (-1), zL L n, wR (zR R n) t 6 (some n), wS S n (20, 36), n + 1) := by
  simp only [f_Party_new, lt_c, wR_s, bnd1_c]
  rw [asrt_pos (by simp [wS, ht, h]), fill_c (N := 36) (by simp [wS]) (by decide) (by omega)]
  rfl
end IN
