noncomputable def f_Law_row (S : MS) (R : MR) (I : MI) (L : ML) (p1 : Nat) (p2 : Int32) (p3 : Nat) : Option (Int32 × ML) :=
  bnd1 (R p1 1) fun b =>
  asrt ((S p1).1 = 11 ∧ (S b).1 = 4 ∧ (S p3).1 = 21 ∧ 0 < (S p3).2) <|
  ifb (p2 < 0 ∨ I b 1 ≤ p2) (some (1, L)) <|
  bnd1 (f_Numbers_at S R I L b p2) fun v =>
  some (0, wL L p3 0 v)
theorem X.callRow {E : Env} (hE : OKE E) {d f pc x : Nat} (hd : 200 ≤ d) {o : List (Option Value)} {S : MS} {I : MI} {L : ML} {R : MR} {n : Nat} {K : KT} {p1 p3 : Nat} {p2 v : Int32} {L' : ML}
    (hv : f_Law_row S R I L p1 p2 p3 = some (v, L')) (hdec : decode b_Law_law pc = .ok (.invokestatic x, 3))
    (kk : X E y_Law_law b_Law_law 8 (some .boolean) false d f (f * 6) (pc + 3) o [.int v] S I L' R n K) :
    X E y_Law_law b_Law_law 8 (some .boolean) false d (f + 1) ((f + 1) * 6) pc o [.ref (e_b E + p3), .int p2, .ref (e_b E + p1)] S I L R n K := by
  sorry
