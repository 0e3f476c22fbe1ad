/-! bits: sets of calls -/
theorem ca_bit (x : Int32) {i : Nat} (hi : i < 32) : ((x >>> (nI i &&& 31)) &&& 1 = 1) ↔ bt x i = true := by
  have h := b_sshr i hi x (i := 0) (by omega)
  rw [if_pos (by omega), Nat.add_zero] at h
  rw [← h]
  generalize x >>> (nI i &&& 31) = y
  rw [pk_and y (m := 1) 1 (by decide)]
  show nI (y.toBitVec.toNat % 2 ^ 1) = nI 1 ↔ y.toBitVec.toNat.testBit 0 = true
  rw [nI_eq (by omega) (by omega), Nat.testBit_zero, decide_eq_true_iff]
theorem ca_neg (x : Int32) {i : Nat} (hi : i < 32) : bt (-x) i = (bt x i ^^ ca_ex (bt x) i) := by
  have e : bt (-x) i = (bt x i ^^ decide (i < 32) && decide (∃ j, j < i ∧ bt x j = true)) := by
    unfold bt
    rw [Int32.toBitVec_neg]
    exact BitVec.getLsbD_neg
  rw [e, decide_eq_true hi, Bool.true_and]
  unfold ca_ex
  rw [decide_eq_decide.mpr (ca_ct_pos (F := bt x) (n := i)).symm]
theorem ca_first (f : Int32) {i : Nat} (hi : i < 32) : bt (f &&& -f) i = (bt f i && !ca_ex (bt f) i) := by
  rw [b_and, ca_neg f hi]
  cases bt f i <;> cases ca_ex (bt f) i <;> rfl
theorem ca_first_ex (f : Int32) {i : Nat} (hi : i ≤ 32) : ca_ex (bt (f &&& -f)) i = ca_ex (bt f) i := by
  induction i with
  | zero => rfl
  | succ i ih =>
    rw [ca_ex_s, ca_ex_s, ih (by omega), ca_first f (by omega)]
    cases bt f i <;> cases ca_ex (bt f) i <;> rfl
theorem ca_from (f : Int32) {i : Nat} (hi : i < 32) : bt (-(f &&& -f)) i = ca_ex (bt f) (i + 1) := by
  rw [ca_neg _ hi, ca_first f hi, ca_first_ex f (by omega), ca_ex_s]
  cases bt f i <;> cases ca_ex (bt f) i <;> rfl
theorem ca_not (x : Int32) {i : Nat} (hi : i < 32) : bt (x ^^^ (-1)) i = !bt x i := by
  rw [b_xor, b_m1 i hi]
  cases bt x i <;> rfl
theorem ca_all : ∀ s, s < 21 → ∀ j, j < 32 → bt (((1 : Int32) <<< (nI s &&& 31)) - 1) j = decide (j < s) := by decide +kernel
theorem ca_p2 : ∀ s, s < 32 → ∀ j, j < 32 → bt ((1 : Int32) <<< (nI s &&& 31)) j = decide (j = s) := by decide +kernel
/-- one call put into a set -/
theorem ca_put (x : Int32) {s j : Nat} (hs : s < 32) (hj : j < 32) : bt (x ||| ((1 : Int32) <<< (nI s &&& 31))) j = (bt x j || decide (j = s)) := by
  rw [b_or, ca_p2 s hs j hj]
/-- x holds what F holds at, of the first n calls, and no others -/
def ca_is (x : Int32) (F : Nat → Bool) (n : Nat) : Prop := ∀ j, j < 32 → bt x j = (decide (j < n) && F j)
theorem ca_is_0 (F : Nat → Bool) : ca_is 0 F 0 := fun j _ => by
  rw [b_0]
  rfl
theorem ca_is_t {x : Int32} {F : Nat → Bool} {n : Nat} (hn : n < 32) (h : ca_is x F n) (e : F n = true) : ca_is (x ||| ((1 : Int32) <<< (nI n &&& 31))) F (n + 1) := fun j hj => by
  rw [ca_put x hn hj, h j hj]
  by_cases q : j = n
  · rw [q, e, decide_eq_true rfl, decide_eq_true (Nat.lt_succ_self n), Bool.or_true]
    rfl
  · rw [decide_eq_false q, Bool.or_false, show decide (j < n) = decide (j < n + 1) from decide_eq_decide.mpr (by omega)]
theorem ca_is_f {x : Int32} {F : Nat → Bool} {n : Nat} (h : ca_is x F n) (e : F n = false) : ca_is x F (n + 1) := fun j hj => by
  rw [h j hj]
  by_cases q : j = n
  · rw [q, e, Bool.and_false, Bool.and_false]
  · rw [show decide (j < n) = decide (j < n + 1) from decide_eq_decide.mpr (by omega)]
theorem ca_is_bt {x : Int32} {F : Nat → Bool} {n j : Nat} (h : ca_is x F n) (hn : n ≤ 32) (hj : j < n) : bt x j = F j := by
  rw [h j (by omega), decide_eq_true hj, Bool.true_and]
