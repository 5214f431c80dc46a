/-! the memory of a run: by small addresses, above the heap at the law's entry -/
abbrev Env : Type := Launch × State × va_G × (Nat → Nat)
abbrev MI : Type := Nat → Nat → Int32
abbrev ML : Type := Nat → Nat → Int64
abbrev MR : Type := Nat → Nat → Option Nat
abbrev MS : Type := Nat → Nat × Nat
def e_b (E : Env) : Nat := E.2.1.heap.size
def wI (I : MI) (a k : Nat) (v : Int32) : MI := fun b j => if b = a ∧ j = k then v else I b j
def wL (L : ML) (a k : Nat) (v : Int64) : ML := fun b j => if b = a ∧ j = k then v else L b j
def wR (R : MR) (a k : Nat) (v : Option Nat) : MR := fun b j => if b = a ∧ j = k then v else R b j
def wS (S : MS) (a : Nat) (v : Nat × Nat) : MS := fun b => if b = a then v else S b
def zI (I : MI) (a : Nat) : MI := fun b j => if b = a then 0 else I b j
def zL (L : ML) (a : Nat) : ML := fun b j => if b = a then 0 else L b j
def zR (R : MR) (a : Nat) : MR := fun b j => if b = a then none else R b j
def wsG : List Cond := lw_tbl.filter goodWord
theorem wsG_mem {w : Cond} (h : w ∈ lw_tbl) (hg : goodWord w = true) : w ∈ wsG := List.mem_filter.mpr ⟨h, hg⟩
theorem wg {w : Cond} (i : Nat) (h : tables_1[i]? = some w) (hg : goodWord w = true) : w ∈ wsG := wsG_mem (tb_at i h) hg
theorem wp {q : MethodName × Nat} (h : q ∈ lw_privs) (hg : goodWord (.selects q.1.cls q.1 q.1) = true) : Cond.selects q.1.cls q.1 q.1 ∈ wsG := wsG_mem (List.mem_append_left _ (List.mem_map.mpr ⟨q, h, rfl⟩)) hg
theorem wsG_good : ∀ w ∈ wsG, (w.onTables && w.keeps) = true ∨ ∃ ty, w = .arrayClass ty := fun w h => good_of_word (List.mem_filter.mp h).2
theorem goodG (y : MethodName) (cc : ByteArray) (nL : Nat) (ret : Option FieldType) (h : Cond.code y cc nL ret ∈ wsG) : GoodIn wsG (Cond.code y cc nL ret :: wsG) := fun w hw => by
  rcases List.mem_cons.mp hw with rfl | hw
  · exact ⟨h, wsG_good _ h⟩
  · exact ⟨hw, wsG_good _ hw⟩
def rv (E : Env) (r : Option Nat) : Value := va_rf (r.map (fun b => e_b E + b))
def fv (E : Env) (I : MI) (L : ML) (R : MR) (a k : Nat) (ty : FieldType) : Value := match ty with
  | .long => .long (L a k)
  | .object _ => rv E (R a k)
  | .array _ => rv E (R a k)
  | _ => .int (I a k)
def cel (E : Env) (S : MS) (I : MI) (L : ML) (R : MR) (a : Nat) : va_E :=
  if (S a).1 < 20 then .inr ((S a).1, (List.range (cN (S a).1)).map (fun k => fv E I L R a k (cT (S a).1 k)))
  else if (S a).1 = 20 then .inl (E.2.2.2 0, (S a).2, .inl (I a))
  else if (S a).1 = 21 then .inl (E.2.2.2 1, (S a).2, .inr (.inl (L a)))
  else if (S a).1 = 22 then .inl (E.2.2.2 2, (S a).2, .inl (I a))
  else if (S a).1 = 23 then .inl (E.2.2.2 3, (S a).2, .inr (.inr (.inr (.inr (fun k => (R a k).map (fun b => e_b E + b))))))
  else .inl (E.2.2.2 4, (S a).2, .inr (.inr (.inr (.inr (fun k => (R a k).map (fun b => e_b E + b))))))
theorem cel_o {E : Env} {S : MS} {I : MI} {L : ML} {R : MR} {a ci : Nat} (h : (S a).1 = ci) (hc : ci < 20) : cel E S I L R a = .inr (ci, (List.range (cN ci)).map (fun k => fv E I L R a k (cT ci k))) := by simp [cel, h, hc]
theorem cel_20 {E : Env} {S : MS} {I : MI} {L : ML} {R : MR} {a : Nat} (h : (S a).1 = 20) : cel E S I L R a = .inl (E.2.2.2 0, (S a).2, .inl (I a)) := by simp [cel, h]
theorem cel_21 {E : Env} {S : MS} {I : MI} {L : ML} {R : MR} {a : Nat} (h : (S a).1 = 21) : cel E S I L R a = .inl (E.2.2.2 1, (S a).2, .inr (.inl (L a))) := by simp [cel, h]
theorem cel_22 {E : Env} {S : MS} {I : MI} {L : ML} {R : MR} {a : Nat} (h : (S a).1 = 22) : cel E S I L R a = .inl (E.2.2.2 2, (S a).2, .inl (I a)) := by simp [cel, h]
theorem cel_23 {E : Env} {S : MS} {I : MI} {L : ML} {R : MR} {a : Nat} (h : (S a).1 = 23) : cel E S I L R a = .inl (E.2.2.2 3, (S a).2, .inr (.inr (.inr (.inr (fun k => (R a k).map (fun b => e_b E + b)))))) := by simp [cel, h]
theorem cel_24 {E : Env} {S : MS} {I : MI} {L : ML} {R : MR} {a : Nat} (h : (S a).1 = 24) : cel E S I L R a = .inl (E.2.2.2 4, (S a).2, .inr (.inr (.inr (.inr (fun k => (R a k).map (fun b => e_b E + b)))))) := by simp [cel, h]
/-- a cell depends on its own row of the memory alone -/
theorem cel_eq {E : Env} {S S' : MS} {I I' : MI} {L L' : ML} {R R' : MR} {a : Nat} (hS : S' a = S a) (hI : I' a = I a) (hL : L' a = L a) (hR : R' a = R a) : cel E S' I' L' R' a = cel E S I L R a := by
  unfold cel fv
  rw [hS, hI, hL, hR]
def memL (E : Env) (S : MS) (I : MI) (L : ML) (R : MR) (n : Nat) : va_W := (List.range n).map (fun a => (e_b E + a, cel E S I L R a))
theorem memL_at {E : Env} {S : MS} {I : MI} {L : ML} {R : MR} {n a : Nat} (h : a < n) : (memL E S I L R n)[a]? = some (e_b E + a, cel E S I L R a) := by simp [memL, h]
theorem memL_get {E : Env} {S : MS} {I : MI} {L : ML} {R : MR} {n k : Nat} {q : Nat × va_E} (h : (memL E S I L R n)[k]? = some q) : k < n ∧ q = (e_b E + k, cel E S I L R k) := by
  have hk : k < n := by
    have := (List.getElem?_eq_some_iff.mp h).1
    simpa [memL] using this
  rw [memL_at hk] at h
  exact ⟨hk, (Option.some.inj h).symm⟩
theorem memL_D {E : Env} {S : MS} {I : MI} {L : ML} {R : MR} {n : Nat} : va_D (fun q => e_b E ≤ q) (memL E S I L R n) := by
  refine ⟨fun i j p q hi hj h => ?_, fun k q hk => ?_⟩
  · obtain ⟨-, rfl⟩ := memL_get hi
    obtain ⟨-, rfl⟩ := memL_get hj
    exact Nat.add_left_cancel h
  · obtain ⟨-, rfl⟩ := memL_get hk
    exact Nat.le_add_right _ _
theorem memL_set {E : Env} {S S' : MS} {I I' : MI} {L L' : ML} {R R' : MR} {n a : Nat} {e : va_E} (he : e = cel E S' I' L' R' a) (h : ∀ b, b ≠ a → cel E S' I' L' R' b = cel E S I L R b) :
    (memL E S I L R n).set a (e_b E + a, e) = memL E S' I' L' R' n := by
  subst he
  refine List.ext_getElem? fun k => ?_
  by_cases hk : k < n
  · by_cases hka : k = a
    · subst hka
      rw [List.getElem?_set_self (by simpa [memL] using hk), memL_at hk]
    · rw [List.getElem?_set_ne (fun z => hka z.symm), memL_at hk, memL_at hk, h k hka]
  · rw [List.getElem?_eq_none (by simp [memL]; omega), List.getElem?_eq_none (by simp [memL]; omega)]
theorem memL_push {E : Env} {S S' : MS} {I I' : MI} {L L' : ML} {R R' : MR} {n : Nat} {e : va_E} (he : e = cel E S' I' L' R' n) (h : ∀ b, b ≠ n → cel E S' I' L' R' b = cel E S I L R b) :
    memL E S I L R n ++ [(e_b E + n, e)] = memL E S' I' L' R' (n + 1) := by
  subst he
  unfold memL
  rw [List.range_succ, List.map_append]
  congr 1
  refine List.map_congr_left fun b hb => ?_
  rw [h b (by have := List.mem_range.mp hb; omega)]
/-! the tables at a frame -/
def nestF : List (String × Nat × String × String × String × String) := [("GuideWalksLast", 403, "GuideWalksLast$Numbers", "size", "I", "GuideWalksLast"), ("GuideWalksLast", 175, "GuideWalksLast$Party", "where", "I", "GuideWalksLast"), ("GuideWalksLast", 400, "GuideWalksLast$Party", "heading", "I", "GuideWalksLast"), ("GuideWalksLast", 181, "GuideWalksLast$Party", "voice", "I", "GuideWalksLast"), ("GuideWalksLast", 392, "GuideWalksLast$Party", "random", "I", "GuideWalksLast"), ("GuideWalksLast", 321, "GuideWalksLast$Party", "steps", "I", "GuideWalksLast"), ("GuideWalksLast", 213, "GuideWalksLast$Party", "asks", "I", "GuideWalksLast"), ("GuideWalksLast", 223, "GuideWalksLast$Past", "size", "I", "GuideWalksLast"), ("GuideWalksLast$Guide", 112, "GuideWalksLast$Fee", "steps", "I", "GuideWalksLast"), ("GuideWalksLast", 318, "GuideWalksLast$Fee", "steps", "I", "GuideWalksLast"), ("GuideWalksLast$Guide", 115, "GuideWalksLast$Fee", "asks", "I", "GuideWalksLast"), ("GuideWalksLast", 322, "GuideWalksLast$Fee", "asks", "I", "GuideWalksLast"), ("GuideWalksLast", 312, "GuideWalksLast$Fee", "spot", "I", "GuideWalksLast"), ("GuideWalksLast$Prints", 50, "GuideWalksLast$Land", "wide", "I", "GuideWalksLast"), ("GuideWalksLast", 397, "GuideWalksLast$Land", "wide", "I", "GuideWalksLast"), ("GuideWalksLast", 303, "GuideWalksLast$Guide", "choice", "I", "GuideWalksLast"), ("GuideWalksLast", 346, "GuideWalksLast$Trail", "last", "I", "GuideWalksLast"), ("GuideWalksLast", 339, "GuideWalksLast$Trail", "steps", "I", "GuideWalksLast"), ("GuideWalksLast", 340, "GuideWalksLast$Trail", "isRound", "Z", "GuideWalksLast"), ("GuideWalksLast", 362, "GuideWalksLast$Prints", "size", "I", "GuideWalksLast")]
def nestM : List (String × Nat × MethodName × String) := [("GuideWalksLast", 9, ⟨"GuideWalksLast$Signs", "<init>", "()V"⟩, "GuideWalksLast"), ("GuideWalksLast", 18, ⟨"GuideWalksLast$Numbers", "<init>", "()V"⟩, "GuideWalksLast"), ("GuideWalksLast", 36, ⟨"GuideWalksLast$Fee", "<init>", "()V"⟩, "GuideWalksLast"), ("GuideWalksLast", 67, ⟨"GuideWalksLast$Spread", "<init>", "()V"⟩, "GuideWalksLast"), ("GuideWalksLast", 74, ⟨"GuideWalksLast$Market", "<init>", "()V"⟩, "GuideWalksLast"), ("GuideWalksLast$Guide", 11, ⟨"GuideWalksLast$Spread", "<init>", "()V"⟩, "GuideWalksLast"), ("GuideWalksLast$Guide", 33, ⟨"GuideWalksLast$Fee", "<init>", "()V"⟩, "GuideWalksLast"), ("GuideWalksLast$Party", 64, ⟨"GuideWalksLast", "cellOf", "(I)I"⟩, "GuideWalksLast"), ("GuideWalksLast$Party", 51, ⟨"GuideWalksLast", "tenthsOf", "([II)I"⟩, "GuideWalksLast"), ("GuideWalksLast$Land", 59, ⟨"GuideWalksLast", "cellOf", "(I)I"⟩, "GuideWalksLast"), ("GuideWalksLast$Spread", 36, ⟨"GuideWalksLast", "cellOf", "(I)I"⟩, "GuideWalksLast"), ("GuideWalksLast$Guide", 83, ⟨"GuideWalksLast", "cellOf", "(I)I"⟩, "GuideWalksLast"), ("GuideWalksLast$Guide", 86, ⟨"GuideWalksLast", "hundreds", "(I)J"⟩, "GuideWalksLast"), ("GuideWalksLast$Guide", 124, ⟨"GuideWalksLast", "tenthsOf", "([II)I"⟩, "GuideWalksLast"), ("GuideWalksLast$Prints", 78, ⟨"GuideWalksLast", "cellOf", "(I)I"⟩, "GuideWalksLast"), ("GuideWalksLast$Prints", 87, ⟨"GuideWalksLast", "tenthsOf", "([II)I"⟩, "GuideWalksLast")]
def strK : List (String × Nat × String × Nat) := [("GuideWalksLastModel", 185, ".o#H", 6), ("GuideWalksLastModel", 219, "hxsa", 7), ("GuideWalksLastModel", 279, "lor", 8)]
def e_ty (E : Env) : List (ClassId × FieldType) := [(E.2.2.2 0, .int), (E.2.2.2 1, .long), (E.2.2.2 2, .boolean), (E.2.2.2 3, .object "GuideWalksLast$Fee"), (E.2.2.2 4, .object "GuideWalksLast$Party")]
def VMok (E : Env) (U : State) : Prop := va_K E.2.2.1 vwCl (e_ty E) U ∧ (∀ q ∈ nestF, va_Nw (.fieldLinkNest q.1 q.2.1 q.2.2.1 q.2.2.2.1 q.2.2.2.2.1 q.2.2.2.2.2) U) ∧ (∀ q ∈ nestM, va_Nw (.methodLinkNest q.1 q.2.1 q.2.2.1 q.2.2.2) U) ∧
  (∀ q ∈ strK, vk_R q.1 q.2.1 q.2.2.1 (E.2.2.2 q.2.2.2) U) ∧ va_AO "GuideWalksLast$Fee" U ∧ va_AO "GuideWalksLast$Party" U ∧ E.2.1.vm.Alike U.vm
theorem VMok.warm {E : Env} {s U : State} (hW : s.WarmedH U.vm) (h : VMok E s) : VMok E U := by
  obtain ⟨h1, h2, h3, h4, h5, h6, h7⟩ := h
  exact ⟨h1.moved hW.alike, fun q hq => (h2 q hq).warmF hW, fun q hq => (h3 q hq).warmM hW, fun q hq => (h4 q hq).warm hW, h5.moved hW.alike, h6.moved hW.alike, h7.trans hW.alike⟩
theorem VMok.same {E : Env} {s U : State} (hv : U.vm = s.vm) (h : VMok E s) : VMok E U := by
  obtain ⟨h1, h2, h3, h4, h5, h6, h7⟩ := h
  have al : s.vm.Alike U.vm := by rw [hv]; exact Vm.Alike.refl _
  exact ⟨h1.moved al, fun q hq => (h2 q hq).same rfl hv.symm, fun q hq => (h3 q hq).same rfl hv.symm, fun q hq => (h4 q hq).same hv, h5.moved al, h6.moved al, by rw [hv]; exact h7⟩
def HB (E : Env) (H : Heap) : Prop := e_b E ≤ H.size ∧ ∀ q, q < e_b E → H[q]? = E.2.1.heap[q]?
def WR (E : Env) (tg : Bool) (S : MS) (I : MI) (L : ML) (R : MR) (n : Nat) (H : Heap) : Prop :=
  va_P E.2.2.1 vwCl (memL E S I L R n) H ∧ HB E H ∧ (∀ a, n ≤ a → 25 ≤ (S a).1) ∧ e_b E + n ≤ H.size ∧ (tg = true → H.size = e_b E + n)
theorem WR.lt {E : Env} {tg : Bool} {S : MS} {I : MI} {L : ML} {R : MR} {n a ci : Nat} {H : Heap} (h : WR E tg S I L R n H) (hS : (S a).1 = ci) (hc : ci < 25) : a < n := by
  refine Nat.lt_of_not_le fun q => ?_
  have := h.2.2.1 a q
  omega
def aA (E : Env) : Nat → Prop := fun q => e_b E ≤ q
theorem HB.of {E : Env} {H H1 : Heap} (h : HB E H) (hz : H.size ≤ H1.size) (hq : ∀ q, q < e_b E → H1[q]? = H[q]?) : HB E H1 := ⟨Nat.le_trans h.1 hz, fun q h1 => (hq q h1).trans (h.2 q h1)⟩
/-! locals as a list -/
def asl : List (Option Value) → Nat → List (Nat × Value)
  | [], _ => []
  | none :: t, i => asl t (i + 1)
  | some v :: t, i => (i, v) :: asl t (i + 1)
theorem asl_mem : ∀ (o : List (Option Value)) (i : Nat) (q : Nat × Value), q ∈ asl o i ↔ ∃ j, q.1 = i + j ∧ o[j]? = some (some q.2)
  | [], i, q => by simp [asl]
  | none :: t, i, q => by
    rw [asl, asl_mem t (i + 1) q]
    constructor
    · rintro ⟨j, h1, h2⟩
      exact ⟨j + 1, by omega, by simpa using h2⟩
    · rintro ⟨j, h1, h2⟩
      cases j with
      | zero => simp at h2
      | succ j => exact ⟨j, by omega, by simpa using h2⟩
  | some v :: t, i, q => by
    rw [asl, List.mem_cons, asl_mem t (i + 1) q]
    constructor
    · rintro (rfl | ⟨j, h1, h2⟩)
      · exact ⟨0, rfl, rfl⟩
      · exact ⟨j + 1, by omega, by simpa using h2⟩
    · rintro ⟨j, h1, h2⟩
      cases j with
      | zero =>
        left
        simp at h2
        obtain ⟨a, b⟩ := q
        simp_all
      | succ j => exact Or.inr ⟨j, by omega, by simpa using h2⟩
def LH (ls : Array Slot) (nL : Nat) (o : List (Option Value)) : Prop := lv_has ls nL (asl o 0)
theorem LH.at {ls : Array Slot} {nL : Nat} {o : List (Option Value)} (h : LH ls nL o) {i : Nat} {v : Value} (hi : o[i]? = some (some v)) : ls[i]? = some (.val v) := h.2.2 (i, v) ((asl_mem o 0 (i, v)).mpr ⟨i, by simp, hi⟩)
theorem lv_has.mem {ls : Array Slot} {nL : Nat} {l l' : List (Nat × Value)} (h : lv_has ls nL l) (hs : ∀ q ∈ l', q ∈ l) : lv_has ls nL l' := ⟨h.1, h.2.1, fun q hq => h.2.2 q (hs q hq)⟩
def nlg : Option (Option Value) → Bool
  | some (some (.long _)) => false
  | some (some (.double _)) => false
  | _ => true
theorem nlg_cat {o : Option (Option Value)} {v : Value} (h : nlg o = true) (e : o = some (some v)) : v.category ≠ 2 := by
  subst e
  cases v <;> simp_all [nlg, Value.category]
/-- behind a store of one slot -/
theorem LH.st1 {ls' : Array Slot} {nL i : Nat} {o : List (Option Value)} {v : Value} (hg : i = 0 ∨ nlg o[i - 1]? = true)
    (h : lv_has ls' nL ((i, v) :: (asl o 0).filter (fun q => !(q.1 == i) && !(q.1 + 1 == i && q.2.category == 2)))) : LH ls' nL (o.set i (some v)) := by
  refine lv_has.mem h fun q hq => ?_
  obtain ⟨j, h1, h2⟩ := (asl_mem _ _ _).mp hq
  simp only [Nat.zero_add] at h1
  subst h1
  by_cases hj : q.1 = i
  · rw [hj] at h2
    have hlt : i < o.length := by
      have := (List.getElem?_eq_some_iff.mp h2).1
      simpa using this
    rw [List.getElem?_set_self hlt] at h2
    rw [List.mem_cons]
    left
    obtain ⟨a, b⟩ := q
    simp_all
  · rw [List.getElem?_set_ne (fun z => hj z.symm)] at h2
    rw [List.mem_cons]
    right
    refine List.mem_filter.mpr ⟨(asl_mem _ _ _).mpr ⟨q.1, by simp, h2⟩, ?_⟩
    simp only [Bool.and_eq_true, Bool.not_eq_true', beq_eq_false_iff_ne, ne_eq, Bool.and_eq_false_iff]
    refine ⟨hj, ?_⟩
    by_cases h3 : q.1 + 1 = i
    · right
      rcases hg with hg | hg
      · omega
      · exact nlg_cat hg (by rw [← h2]; congr 1; omega)
    · exact Or.inl h3
/-- behind a store of two slots -/
theorem LH.st2 {ls' : Array Slot} {nL i : Nat} {o : List (Option Value)} {v : Value} (hg : i = 0 ∨ nlg o[i - 1]? = true)
    (h : lv_has ls' nL ((i, v) :: (asl o 0).filter (fun q => !(q.1 == i) && (!(q.1 == i + 1) && !(q.1 + 1 == i && q.2.category == 2))))) : LH ls' nL ((o.set i (some v)).set (i + 1) none) := by
  refine lv_has.mem h fun q hq => ?_
  obtain ⟨j, h1, h2⟩ := (asl_mem _ _ _).mp hq
  simp only [Nat.zero_add] at h1
  subst h1
  have hn1 : q.1 ≠ i + 1 := by
    intro z
    rw [z, List.getElem?_set] at h2
    simp at h2
  rw [List.getElem?_set_ne (fun z => hn1 z.symm)] at h2
  by_cases hj : q.1 = i
  · rw [hj] at h2
    have hlt : i < o.length := by
      have := (List.getElem?_eq_some_iff.mp h2).1
      simpa using this
    rw [List.getElem?_set_self hlt] at h2
    rw [List.mem_cons]
    left
    obtain ⟨a, b⟩ := q
    simp_all
  · rw [List.getElem?_set_ne (fun z => hj z.symm)] at h2
    rw [List.mem_cons]
    right
    refine List.mem_filter.mpr ⟨(asl_mem _ _ _).mpr ⟨q.1, by simp, h2⟩, ?_⟩
    simp only [Bool.and_eq_true, Bool.not_eq_true', beq_eq_false_iff_ne, ne_eq, Bool.and_eq_false_iff]
    refine ⟨hj, hn1, ?_⟩
    by_cases h3 : q.1 + 1 = i
    · right
      rcases hg with hg | hg
      · omega
      · exact nlg_cat hg (by rw [← h2]; congr 1; omega)
    · exact Or.inl h3
