section
def bt (x : Int32) (i : Nat) : Bool := x.toBitVec.getLsbD i
theorem b_ext {x y : Int32} (h : ∀ i, i < 32 → bt x i = bt y i) : x = y := Int32.toBitVec_inj.mp (BitVec.eq_of_getLsbD_eq (fun i hi => h i hi))
theorem b_or (x y : Int32) (i : Nat) : bt (x ||| y) i = (bt x i || bt y i) := by unfold bt; rw [Int32.toBitVec_or, BitVec.getLsbD_or]
theorem b_and (x y : Int32) (i : Nat) : bt (x &&& y) i = (bt x i && bt y i) := by unfold bt; rw [Int32.toBitVec_and, BitVec.getLsbD_and]
theorem b_xor (x y : Int32) (i : Nat) : bt (x ^^^ y) i = (bt x i ^^ bt y i) := by unfold bt; rw [Int32.toBitVec_xor, BitVec.getLsbD_xor]
theorem b_big {x : Int32} {i : Nat} (h : 32 ≤ i) : bt x i = false := BitVec.getLsbD_of_ge _ _ h
theorem b_m1 : ∀ i, i < 32 → bt (-1) i = true := by decide +kernel
theorem b_0 (i : Nat) : bt 0 i = false := BitVec.getLsbD_zero
theorem s_l : ∀ n, n < 32 → ((nI n &&& 31).toBitVec.smod 32).toNat = n := by decide +kernel
theorem b_shl (n : Nat) (hn : n < 32) (x : Int32) {i : Nat} (hi : i < 32) : bt (x <<< (nI n &&& 31)) i = (decide (n ≤ i) && bt x (i - n)) := by
  unfold bt
  rw [Int32.toBitVec_shiftLeft]
  show (x.toBitVec <<< ((nI n &&& 31).toBitVec.smod 32).toNat).getLsbD i = _
  rw [s_l n hn, BitVec.getLsbD_shiftLeft]
  rcases Nat.lt_or_ge i n with h | h
  · simp [h, Nat.not_le.mpr h]
  · simp [hi, h, Nat.not_lt.mpr h]
theorem b_sshr (n : Nat) (hn : n < 32) (x : Int32) {i : Nat} (hi : i < 32) : bt (x >>> (nI n &&& 31)) i = if n + i < 32 then bt x (n + i) else bt x 31 := by
  unfold bt
  rw [Int32.toBitVec_shiftRight]
  show (x.toBitVec.sshiftRight ((nI n &&& 31).toBitVec.smod 32).toNat).getLsbD i = _
  rw [s_l n hn, BitVec.getLsbD_sshiftRight, BitVec.msb_eq_getLsbD_last]
  simp [hi]
theorem pk_us {f : Nat → Int32} {k : Nat} {x : Int32} : upd f k x k = x := if_pos rfl
theorem pk_un {f : Nat → Int32} {k j : Nat} {x : Int32} (h : j ≠ k) : upd f k x j = f j := if_neg h
theorem pk_sub {a b : Nat} (h : b ≤ a) : nI a - nI b = nI (a - b) := by
  obtain ⟨c, rfl⟩ : ∃ c, a = c + b := ⟨a - b, by omega⟩
  rw [← nI_add, Int32.add_sub_cancel, Nat.add_sub_cancel]
theorem pk_m1 (n : Nat) : nI (n + 1) + (-1) = nI n := by
  rw [← nI_1, Int32.add_assoc, show (1 : Int32) + (-1) = 0 from rfl, Int32.add_zero]
theorem pk_mul (a b : Nat) : nI a * nI b = nI (a * b) := (Int32.ofNat_mul a b).symm
theorem pk_div {a d : Nat} (ha : a < 2 ^ 31) (h0 : 0 < d) (hd : d < 2 ^ 31) : nI a / nI d = nI (a / d) := by
  apply Int32.toInt_inj.mp
  rw [lg_idiv_nonneg (by rw [nI_toInt ha]; omega) (by rw [nI_toInt hd]; omega), nI_toInt ha, nI_toInt hd, nI_toInt (Nat.lt_of_le_of_lt (Nat.div_le_self a d) ha)]
  first | rfl | exact (Int.natCast_ediv _ _).symm
theorem pk_rem {a d : Nat} (ha : a < 2 ^ 31) (h0 : 0 < d) (hd : d < 2 ^ 31) : nI a - nI a / nI d * nI d = nI (a % d) := by
  rw [pk_div ha h0 hd, pk_mul, pk_sub (Nat.div_mul_le_self a d)]
  exact congrArg nI (by have := Nat.div_add_mod' a d; omega)
theorem pk_ix (x : Int32) {n : Nat} (hn : n < 2 ^ 31) : x < 0 ∨ nI n ≤ x ∨ ∃ j : Nat, j < n ∧ x = nI j := by
  by_cases h : x < 0
  · exact Or.inl h
  · obtain ⟨j, hj, rfl⟩ := nI_of h
    by_cases h2 : j < n
    · exact Or.inr (Or.inr ⟨j, h2, rfl⟩)
    · exact Or.inr (Or.inl (nI_le (by omega) hj))
theorem pk_tn {n : Nat} (h : n < 2 ^ 32) : (nI n).toBitVec.toNat = n := Nat.mod_eq_of_lt h
theorem pk_and (x : Int32) {m : Int32} (k : Nat) (hm : m.toBitVec.toNat = 2 ^ k - 1) : x &&& m = nI (x.toBitVec.toNat % 2 ^ k) := by
  apply Int32.toBitVec_inj.mp
  apply BitVec.eq_of_toNat_eq
  rw [Int32.toBitVec_and, BitVec.toNat_and, hm, Nat.and_two_pow_sub_one_eq_mod]
  show _ = (BitVec.ofNat 32 _).toNat
  rw [BitVec.toNat_ofNat]
  exact (Nat.mod_eq_of_lt (Nat.lt_of_le_of_lt (Nat.mod_le _ _) x.toBitVec.isLt)).symm
theorem pk_andN {n : Nat} (h : n < 2 ^ 32) {m : Int32} (k : Nat) (hm : m.toBitVec.toNat = 2 ^ k - 1) : nI n &&& m = nI (n % 2 ^ k) := by
  rw [pk_and _ k hm, pk_tn h]
end
section
/-! pure: booleans, counts, since, tokens, values of formulas -/
def ca_b (b : Bool) : Int32 := cond b 1 0
theorem ca_b_z (b : Bool) : ca_b b = 0 ↔ b = false := by cases b <;> decide
theorem ca_b_1 (b : Bool) : ca_b b = 1 ↔ b = true := by cases b <;> decide
theorem ca_b_n (b : Bool) : narrow .boolean (.int (ca_b b)) = .int (ca_b b) := by cases b <;> rfl
theorem ca_b_v (b : Bool) : vp_nar .boolean (ca_b b) = ca_b b := by cases b <;> rfl

/-- how many of the first n calls F holds at -/
def ca_ct (F : Nat → Bool) : Nat → Nat
  | 0 => 0
  | n + 1 => if F n = true then ca_ct F n + 1 else ca_ct F n
theorem ca_ct_t {F : Nat → Bool} {n : Nat} (h : F n = true) : ca_ct F (n + 1) = ca_ct F n + 1 := if_pos h
theorem ca_ct_f {F : Nat → Bool} {n : Nat} (h : F n = false) : ca_ct F (n + 1) = ca_ct F n := if_neg (by rw [h]; decide)
theorem ca_ct_le (F : Nat → Bool) (n : Nat) : ca_ct F n ≤ n := by
  induction n with
  | zero => exact Nat.le_refl 0
  | succ n ih =>
    cases e : F n with
    | false => rw [ca_ct_f e]; omega
    | true => rw [ca_ct_t e]; omega
theorem ca_ct_congr {F G : Nat → Bool} {n : Nat} (h : ∀ j, j < n → F j = G j) : ca_ct F n = ca_ct G n := by
  induction n with
  | zero => rfl
  | succ n ih =>
    have e := h n (Nat.lt_succ_self n)
    have i := ih (fun j hj => h j (by omega))
    cases q : F n with
    | false => rw [ca_ct_f q, ca_ct_f (e.symm.trans q), i]
    | true => rw [ca_ct_t q, ca_ct_t (e.symm.trans q), i]
theorem ca_ct_pos {F : Nat → Bool} {n : Nat} : 0 < ca_ct F n ↔ ∃ j, j < n ∧ F j = true := by
  induction n with
  | zero => exact ⟨fun z => absurd z (Nat.lt_irrefl 0), fun ⟨j, hj, _⟩ => absurd hj (Nat.not_lt_zero j)⟩
  | succ n ih =>
    cases e : F n with
    | true =>
      rw [ca_ct_t e]
      exact ⟨fun _ => ⟨n, Nat.lt_succ_self n, e⟩, fun _ => Nat.succ_pos _⟩
    | false =>
      rw [ca_ct_f e, ih]
      constructor
      · rintro ⟨j, hj, q⟩
        exact ⟨j, by omega, q⟩
      · rintro ⟨j, hj, q⟩
        refine ⟨j, ?_, q⟩
        have z : j ≠ n := fun z => by
          rw [z, e] at q
          exact absurd q (by decide)
        omega
/-- F holds at some call below n -/
def ca_ex (F : Nat → Bool) (n : Nat) : Bool := decide (0 < ca_ct F n)
theorem ca_ex_0 (F : Nat → Bool) : ca_ex F 0 = false := rfl
theorem ca_ex_s (F : Nat → Bool) (n : Nat) : ca_ex F (n + 1) = (F n || ca_ex F n) := by
  unfold ca_ex
  cases e : F n with
  | false => rw [ca_ct_f e, Bool.false_or]
  | true => rw [ca_ct_t e, Bool.true_or]; exact decide_eq_true (Nat.succ_pos _)
theorem ca_one (F : Nat → Bool) (n : Nat) : (F n && decide (ca_ct F (n + 1) = 1)) = (F n && !ca_ex F n) := by
  cases e : F n with
  | false => rfl
  | true =>
    rw [ca_ct_t e]
    unfold ca_ex
    generalize ca_ct F n = c
    cases c with
    | zero => rfl
    | succ c => rw [decide_eq_false (by omega), decide_eq_true (Nat.succ_pos c)]; rfl

/-- SINCE, over the first n calls -/
def ca_sn (F G : Nat → Bool) : Nat → Bool
  | 0 => false
  | n + 1 => G n || (F n && ca_sn F G n)
theorem ca_sn_congr {F G F' G' : Nat → Bool} {n : Nat} (hF : ∀ j, j < n → F j = F' j) (hG : ∀ j, j < n → G j = G' j) : ca_sn F G n = ca_sn F' G' n := by
  induction n with
  | zero => rfl
  | succ n ih =>
    show (G n || (F n && ca_sn F G n)) = (G' n || (F' n && ca_sn F' G' n))
    rw [hF n (Nat.lt_succ_self n), hG n (Nat.lt_succ_self n), ih (fun j hj => hF j (by omega)) (fun j hj => hG j (by omega))]

/-- how many formulas a token takes -/
def ca_tk (k : Int32) : Nat := if k < 6 then 0 else if k = 8 ∨ k = 11 ∨ k = 12 then 2 else 1
theorem ca_tk_le (k : Int32) : ca_tk k ≤ 2 := by
  unfold ca_tk
  split
  · omega
  · split <;> omega

/-- the value of a token that takes formulas, at call i -/
def ca_op (k a : Int32) (F G : Nat → Bool) (i : Nat) : Bool :=
  if k = 6 then ca_ex F (i + 1) else if k = 7 then ca_ex F i else if k = 8 then ca_sn F G (i + 1)
  else if k = 9 then decide (a ≤ nI (ca_ct F (i + 1))) else if k = 10 then !F i else if k = 11 then F i && G i
  else if k = 12 then F i || G i else F i && !ca_ex F i
theorem ca_op_congr (k a : Int32) {F G F' G' : Nat → Bool} {i : Nat} (hF : ∀ j, j ≤ i → F j = F' j) (hG : ∀ j, j ≤ i → G j = G' j) : ca_op k a F G i = ca_op k a F' G' i := by
  have c1 : ca_ct F (i + 1) = ca_ct F' (i + 1) := ca_ct_congr (fun j hj => hF j (by omega))
  have c0 : ca_ct F i = ca_ct F' i := ca_ct_congr (fun j hj => hF j (by omega))
  have s1 : ca_sn F G (i + 1) = ca_sn F' G' (i + 1) := ca_sn_congr (fun j hj => hF j (by omega)) (fun j hj => hG j (by omega))
  unfold ca_op ca_ex
  rw [c1, c0, s1, hF i (Nat.le_refl i), hG i (Nat.le_refl i)]
/-- a token that takes one formula doesn't look at G -/
theorem ca_op_g {k : Int32} (a : Int32) (F G G' : Nat → Bool) (i : Nat) (h : ca_tk k = 1) : ca_op k a F G i = ca_op k a F G' i := by
  have h8 : ¬ k = 8 := fun z => by rw [z] at h; exact absurd h (by decide)
  have h11 : ¬ k = 11 := fun z => by rw [z] at h; exact absurd h (by decide)
  have h12 : ¬ k = 12 := fun z => by rw [z] at h; exact absurd h (by decide)
  unfold ca_op
  rw [if_neg h8, if_neg h8, if_neg h11, if_neg h11, if_neg h12, if_neg h12]

/-- k is under o; P the parents -/
def ca_un (P : Nat → Int32) (o : Int32) : Nat → Int32 → Bool
  | 0, _ => false
  | n + 1, k => if k < 0 then false else if k = o then true else ca_un P o n (P k.toNatClampNeg)
/-- every parent is none, or has a lesser number -/
def ca_Par (P : Nat → Int32) : Prop := ∀ m, m < 8 → P m = -1 ∨ ∃ q, q < m ∧ P m = nI q
theorem ca_un_neg (P : Nat → Int32) (o : Int32) (n : Nat) : ca_un P o n (-1) = false := by
  cases n with
  | zero => rfl
  | succ n => exact if_pos (by decide)
/-- below o's number there is nothing to find -/
theorem ca_un_lt {P : Nat → Int32} (hP : ca_Par P) {o : Nat} (ho : o < 8) : ∀ n m : Nat, m < o → ca_un P (nI o) n (nI m) = false := by
  intro n
  induction n with
  | zero => intro m _; rfl
  | succ n ih =>
    intro m hm
    show (if nI m < 0 then false else if nI m = nI o then true else ca_un P (nI o) n (P (nI m).toNatClampNeg)) = false
    rw [if_neg (nI_pos (by omega)), if_neg (fun z => by rw [nI_eq (by omega) (by omega)] at z; omega), nI_clamp (by omega)]
    rcases hP m (by omega) with h | ⟨q, hq, h⟩
    · rw [h]; exact ca_un_neg P _ n
    · rw [h]; exact ih q (by omega)

/-- the value of a token that takes no formula, at call i: P parents, C of which sort, N names, M marks, S the stack -/
def ca_tr (P C N M S : Nat → Int32) (k a : Int32) (i : Nat) : Bool :=
  if k = 0 then decide (N (S i).toNatClampNeg = a)
  else if k = 1 then decide (C (S i).toNatClampNeg = a)
  else if k = 2 then ca_un P a 9 (C (S i).toNatClampNeg)
  else if k = 3 then decide ((M (S i).toNatClampNeg >>> (a &&& 31)) &&& 1 = 1)
  else if k = 4 then decide (0 < i) && ca_un P a 9 (C (S (i - 1)).toNatClampNeg)
  else decide (a ≤ nI i)

/-- the draft's height after n tokens of K -/
def ca_h (K : Nat → Int32) : Nat → Nat
  | 0 => 0
  | n + 1 => ca_h K n - ca_tk (K n) + 1
/-- n tokens that the draft takes -/
def ca_wf (K A : Nat → Int32) (n : Nat) : Prop :=
  ∀ t, t < n → (∃ d, d < 14 ∧ K t = nI d) ∧ ((K t = 2 ∨ K t = 4) → ∃ o, o < 8 ∧ A t = nI o) ∧ ca_tk (K t) ≤ ca_h K t ∧ ca_h K (t + 1) ≤ 6
theorem ca_h_congr {K K' : Nat → Int32} {n : Nat} (h : ∀ t, t < n → K t = K' t) : ca_h K n = ca_h K' n := by
  induction n with
  | zero => rfl
  | succ n ih =>
    show ca_h K n - ca_tk (K n) + 1 = ca_h K' n - ca_tk (K' n) + 1
    rw [h n (Nat.lt_succ_self n), ih (fun t ht => h t (by omega))]
theorem ca_wf_congr {K A K' A' : Nat → Int32} {n : Nat} (hK : ∀ t, t < n → K t = K' t) (hA : ∀ t, t < n → A t = A' t) (h : ca_wf K A n) : ca_wf K' A' n := by
  intro t ht
  obtain ⟨h1, h2, h3, h4⟩ := h t ht
  rw [ca_h_congr (n := t) (fun s hs => hK s (by omega)), hK t ht] at h3
  rw [ca_h_congr (n := t + 1) (fun s hs => hK s (by omega))] at h4
  rw [hK t ht] at h1 h2
  rw [hA t ht] at h2
  exact ⟨h1, h2, h3, h4⟩
theorem ca_wf_le {K A : Nat → Int32} {n : Nat} (h : ca_wf K A n) : ca_h K n ≤ 6 := by
  cases n with
  | zero => exact Nat.zero_le 6
  | succ n => exact (h n (Nat.lt_succ_self n)).2.2.2

/-- what stands on the stack of formulas after n tokens: place q, call i -/
def ca_v (T : Int32 → Int32 → Nat → Bool) (K A : Nat → Int32) : Nat → Nat → Nat → Bool
  | 0 => fun _ _ => false
  | n + 1 => fun q i =>
    if q = ca_h K n - ca_tk (K n) then
      (if ca_tk (K n) = 0 then T (K n) (A n) i else ca_op (K n) (A n) (ca_v T K A n q) (ca_v T K A n (q + 1)) i)
    else ca_v T K A n q i
theorem ca_v_0 {T : Int32 → Int32 → Nat → Bool} {K A : Nat → Int32} {n q i : Nat} (hq : q = ca_h K n - ca_tk (K n)) (h : ca_tk (K n) = 0) : ca_v T K A (n + 1) q i = T (K n) (A n) i := by
  show (if q = ca_h K n - ca_tk (K n) then (if ca_tk (K n) = 0 then _ else _) else _) = _
  rw [if_pos hq, if_pos h]
theorem ca_v_op {T : Int32 → Int32 → Nat → Bool} {K A : Nat → Int32} {n q i : Nat} (hq : q = ca_h K n - ca_tk (K n)) (h : ¬ ca_tk (K n) = 0) : ca_v T K A (n + 1) q i = ca_op (K n) (A n) (ca_v T K A n q) (ca_v T K A n (q + 1)) i := by
  show (if q = ca_h K n - ca_tk (K n) then (if ca_tk (K n) = 0 then _ else _) else _) = _
  rw [if_pos hq, if_neg h]
theorem ca_v_n {T : Int32 → Int32 → Nat → Bool} {K A : Nat → Int32} {n q i : Nat} (hq : ¬ q = ca_h K n - ca_tk (K n)) : ca_v T K A (n + 1) q i = ca_v T K A n q i := by
  show (if q = ca_h K n - ca_tk (K n) then _ else _) = _
  rw [if_neg hq]
end
section
/-! bits: sets of calls -/
theorem ca_bit (x : Int32) {i : Nat} (hi : i < 32) : ((x >>> (nI i &&& 31)) &&& 1 = 1) ↔ bt x i = true := by
  have h := b_sshr i hi x (i := 0) (by omega)
  rw [if_pos (by omega), Nat.add_zero] at h
  rw [← h]
  generalize x >>> (nI i &&& 31) = y
  rw [pk_and y (m := 1) 1 (by decide)]
  show nI (y.toBitVec.toNat % 2 ^ 1) = nI 1 ↔ y.toBitVec.toNat.testBit 0 = true
  rw [nI_eq (by omega) (by omega), Nat.testBit_zero, decide_eq_true_iff]
theorem ca_neg (x : Int32) {i : Nat} (hi : i < 32) : bt (-x) i = (bt x i ^^ ca_ex (bt x) i) := by
  have e : bt (-x) i = (bt x i ^^ decide (i < 32) && decide (∃ j, j < i ∧ bt x j = true)) := by
    unfold bt
    rw [Int32.toBitVec_neg]
    exact BitVec.getLsbD_neg
  rw [e, decide_eq_true hi, Bool.true_and]
  unfold ca_ex
  rw [decide_eq_decide.mpr (ca_ct_pos (F := bt x) (n := i)).symm]
theorem ca_first (f : Int32) {i : Nat} (hi : i < 32) : bt (f &&& -f) i = (bt f i && !ca_ex (bt f) i) := by
  rw [b_and, ca_neg f hi]
  cases bt f i <;> cases ca_ex (bt f) i <;> rfl
theorem ca_first_ex (f : Int32) {i : Nat} (hi : i ≤ 32) : ca_ex (bt (f &&& -f)) i = ca_ex (bt f) i := by
  induction i with
  | zero => rfl
  | succ i ih =>
    rw [ca_ex_s, ca_ex_s, ih (by omega), ca_first f (by omega)]
    cases bt f i <;> cases ca_ex (bt f) i <;> rfl
theorem ca_from (f : Int32) {i : Nat} (hi : i < 32) : bt (-(f &&& -f)) i = ca_ex (bt f) (i + 1) := by
  rw [ca_neg _ hi, ca_first f hi, ca_first_ex f (by omega), ca_ex_s]
  cases bt f i <;> cases ca_ex (bt f) i <;> rfl
theorem ca_not (x : Int32) {i : Nat} (hi : i < 32) : bt (x ^^^ (-1)) i = !bt x i := by
  rw [b_xor, b_m1 i hi]
  cases bt x i <;> rfl
theorem ca_all : ∀ s, s < 21 → ∀ j, j < 32 → bt (((1 : Int32) <<< (nI s &&& 31)) - 1) j = decide (j < s) := by decide +kernel
theorem ca_p2 : ∀ s, s < 32 → ∀ j, j < 32 → bt ((1 : Int32) <<< (nI s &&& 31)) j = decide (j = s) := by decide +kernel
/-- one call put into a set -/
theorem ca_put (x : Int32) {s j : Nat} (hs : s < 32) (hj : j < 32) : bt (x ||| ((1 : Int32) <<< (nI s &&& 31))) j = (bt x j || decide (j = s)) := by
  rw [b_or, ca_p2 s hs j hj]
/-- x holds what F holds at, of the first n calls, and no others -/
def ca_is (x : Int32) (F : Nat → Bool) (n : Nat) : Prop := ∀ j, j < 32 → bt x j = (decide (j < n) && F j)
theorem ca_is_0 (F : Nat → Bool) : ca_is 0 F 0 := fun j _ => by
  rw [b_0]
  rfl
theorem ca_is_t {x : Int32} {F : Nat → Bool} {n : Nat} (hn : n < 32) (h : ca_is x F n) (e : F n = true) : ca_is (x ||| ((1 : Int32) <<< (nI n &&& 31))) F (n + 1) := fun j hj => by
  rw [ca_put x hn hj, h j hj]
  by_cases q : j = n
  · rw [q, e, decide_eq_true rfl, decide_eq_true (Nat.lt_succ_self n), Bool.or_true]
    rfl
  · rw [decide_eq_false q, Bool.or_false, show decide (j < n) = decide (j < n + 1) from decide_eq_decide.mpr (by omega)]
theorem ca_is_f {x : Int32} {F : Nat → Bool} {n : Nat} (h : ca_is x F n) (e : F n = false) : ca_is x F (n + 1) := fun j hj => by
  rw [h j hj]
  by_cases q : j = n
  · rw [q, e, Bool.and_false, Bool.and_false]
  · rw [show decide (j < n) = decide (j < n + 1) from decide_eq_decide.mpr (by omega)]
theorem ca_is_bt {x : Int32} {F : Nat → Bool} {n j : Nat} (h : ca_is x F n) (hn : n ≤ 32) (hj : j < n) : bt x j = F j := by
  rw [h j (by omega), decide_eq_true hj, Bool.true_and]
end
section
/-! numbers and branches -/
theorem ca_rng {v : Int32} (n : Nat) (hn : n < 2 ^ 31) (h0 : ¬ v < 0) (h1 : ¬ nI n ≤ v) : ∃ m, m < n ∧ v = nI m := by
  rcases pk_ix v hn with z | z | z
  · exact absurd z h0
  · exact absurd z h1
  · exact z
theorem ca_56 (k : Int32) : 5 < k ↔ ¬ k < 6 := by
  rw [Int32.lt_iff_toInt_lt, Int32.lt_iff_toInt_lt, show (5 : Int32).toInt = 5 by decide, show (6 : Int32).toInt = 6 by decide]
  omega
theorem ca_66 (k : Int32) : 6 ≤ k ↔ ¬ k < 6 := Int32.not_lt.symm
/-- hi1 is hi + 1 -/
theorem ca_nle {hi hi1 : Int32} (h : hi1.toInt = hi.toInt + 1) (x : Int32) : hi1 ≤ x ↔ ¬ x ≤ hi := by
  rw [Int32.le_iff_toInt_le, Int32.le_iff_toInt_le, h]
  omega
theorem ca_nlt {hi hi1 : Int32} (h : hi1.toInt = hi.toInt + 1) (x : Int32) : hi1 ≤ x ↔ hi < x := by
  rw [Int32.le_iff_toInt_le, Int32.lt_iff_toInt_lt, h]
  omega
theorem ca_m1 {o : Nat} (h : o < 2 ^ 31) : ¬ (-1 : Int32) = nI o := fun e => by
  have z := nI_pos h
  rw [← e] at z
  exact z (by decide)
theorem ca_m1le {o : Nat} (h : o < 2 ^ 31) : (-1 : Int32) ≤ nI o := by
  rw [Int32.le_iff_toInt_le, nI_toInt h, show (-1 : Int32).toInt = -1 by decide]
  omega
theorem ca_neg1 {x : Int32} (h : ¬ x < -1) (h0 : x < 0) : x = -1 := by
  apply Int32.toInt_inj.mp
  rw [Int32.lt_iff_toInt_lt, show (-1 : Int32).toInt = -1 by decide] at h
  rw [Int32.lt_iff_toInt_lt, show (0 : Int32).toInt = 0 by decide] at h0
  rw [show (-1 : Int32).toInt = -1 by decide]
  omega
theorem ca_if {b : Bool} {A B : Prop} (h0 : b = false → A) (h1 : b = true → B) : (ca_b b = 0 → A) ∧ (¬ ca_b b = 0 → B) := by
  cases b with
  | false => exact br_t rfl (h0 rfl)
  | true => exact br_f (by decide) (h1 rfl)
theorem ca_if1 {b : Bool} {post : Int32 → Prop} (hp : post (ca_b b)) : (ca_b b = 0 → post 0) ∧ (¬ ca_b b = 0 → post 1) := by
  cases b with
  | false => exact br_t rfl hp
  | true => exact br_f (by decide) hp
theorem ca_dec {c : Prop} {hc : Decidable c} {post : Int32 → Prop} (hp : post (ca_b (@decide c hc))) : (c → post 1) ∧ (¬ c → post 0) := by
  by_cases h : c
  · rw [decide_eq_true h] at hp
    exact br_t h hp
  · rw [decide_eq_false h] at hp
    exact br_f h hp
theorem ca_decl {x y : Int32} {post : Int32 → Prop} (hp : post (ca_b (decide (y ≤ x)))) : (x < y → post 0) ∧ (¬ x < y → post 1) := by
  by_cases h : x < y
  · rw [decide_eq_false (Int32.not_le.mpr h)] at hp
    exact br_t h hp
  · rw [decide_eq_true (Int32.not_lt.mp h)] at hp
    exact br_f h hp
theorem ca_pos0 {n : Nat} (hn : n < 2 ^ 31) {post : Int32 → Prop} (hp : post (ca_b (decide (0 < n)))) : (nI n ≤ 0 → post 0) ∧ (¬ nI n ≤ 0 → post 1) := by
  by_cases h : 0 < n
  · rw [decide_eq_true h] at hp
    exact br_f (nI_nle h hn) hp
  · rw [decide_eq_false h] at hp
    have e : n = 0 := by omega
    subst e
    exact br_t (Int32.le_refl _) hp
theorem ca_is1 {n : Nat} (hn : n < 2 ^ 31) {post : Int32 → Prop} (hp : post (ca_b (decide (n = 1)))) : (nI n = 1 → post 1) ∧ (¬ nI n = 1 → post 0) := by
  by_cases h : n = 1
  · rw [decide_eq_true h] at hp
    subst h
    exact br_t rfl hp
  · rw [decide_eq_false h] at hp
    exact br_f (fun z => h ((nI_eq (b := 1) hn (by decide)).mp z)) hp
theorem ca_tk_0 {k : Int32} (h : k < 6) : ca_tk k = 0 := if_pos h
theorem ca_tk_2 {k : Int32} (h : ¬ k < 6) (h2 : k = 8 ∨ k = 11 ∨ k = 12) : ca_tk k = 2 := (if_neg h).trans (if_pos h2)
theorem ca_tk_1 {k : Int32} (h : ¬ k < 6) (h2 : ¬ (k = 8 ∨ k = 11 ∨ k = 12)) : ca_tk k = 1 := (if_neg h).trans (if_neg h2)
theorem ca_k0 : ∀ d, d < 14 → ca_tk (nI d) = 0 → (nI d = 0 ∨ nI d = 1 ∨ nI d = 2 ∨ nI d = 3 ∨ nI d = 4 ∨ nI d = 5) := by decide +kernel
theorem ca_k1 : ∀ d, d < 14 → ca_tk (nI d) = 1 → (nI d = 6 ∨ nI d = 7 ∨ nI d = 9 ∨ nI d = 10 ∨ nI d = 13) := by decide +kernel
theorem ca_k2 : ∀ d, d < 14 → ca_tk (nI d) = 2 → (nI d = 8 ∨ nI d = 11 ∨ nI d = 12) := by decide +kernel
theorem ca_k12 : ∀ d, d < 14 → ¬ ca_tk (nI d) = 0 → (nI d = 6 ∨ nI d = 7 ∨ nI d = 8 ∨ nI d = 9 ∨ nI d = 10 ∨ nI d = 11 ∨ nI d = 12 ∨ nI d = 13) := by decide +kernel
theorem ca_k14 : ∀ d, d < 14 → (nI d = 0 ∨ nI d = 1 ∨ nI d = 2 ∨ nI d = 3 ∨ nI d = 4 ∨ nI d = 5 ∨ nI d = 6 ∨ nI d = 7 ∨ nI d = 8 ∨ nI d = 9 ∨ nI d = 10 ∨ nI d = 11 ∨ nI d = 12 ∨ nI d = 13) := by decide +kernel
theorem ca_op_6 {a : Int32} {F G : Nat → Bool} {i : Nat} : ca_op 6 a F G i = ca_ex F (i + 1) := if_pos rfl
theorem ca_op_7 {a : Int32} {F G : Nat → Bool} {i : Nat} : ca_op 7 a F G i = ca_ex F i := (if_neg (by decide)).trans (if_pos rfl)
theorem ca_op_8 {a : Int32} {F G : Nat → Bool} {i : Nat} : ca_op 8 a F G i = ca_sn F G (i + 1) := (if_neg (by decide)).trans ((if_neg (by decide)).trans (if_pos rfl))
theorem ca_op_9 {a : Int32} {F G : Nat → Bool} {i : Nat} : ca_op 9 a F G i = decide (a ≤ nI (ca_ct F (i + 1))) := (if_neg (by decide)).trans ((if_neg (by decide)).trans ((if_neg (by decide)).trans (if_pos rfl)))
theorem ca_op_10 {a : Int32} {F G : Nat → Bool} {i : Nat} : ca_op 10 a F G i = !F i := (if_neg (by decide)).trans ((if_neg (by decide)).trans ((if_neg (by decide)).trans ((if_neg (by decide)).trans (if_pos rfl))))
theorem ca_op_11 {a : Int32} {F G : Nat → Bool} {i : Nat} : ca_op 11 a F G i = (F i && G i) := (if_neg (by decide)).trans ((if_neg (by decide)).trans ((if_neg (by decide)).trans ((if_neg (by decide)).trans ((if_neg (by decide)).trans (if_pos rfl)))))
theorem ca_op_12 {a : Int32} {F G : Nat → Bool} {i : Nat} : ca_op 12 a F G i = (F i || G i) := (if_neg (by decide)).trans ((if_neg (by decide)).trans ((if_neg (by decide)).trans ((if_neg (by decide)).trans ((if_neg (by decide)).trans ((if_neg (by decide)).trans (if_pos rfl))))))
theorem ca_op_13 {a : Int32} {F G : Nat → Bool} {i : Nat} : ca_op 13 a F G i = (F i && !ca_ex F i) := (if_neg (by decide)).trans ((if_neg (by decide)).trans ((if_neg (by decide)).trans ((if_neg (by decide)).trans ((if_neg (by decide)).trans ((if_neg (by decide)).trans (if_neg (by decide)))))))
theorem ca_tr_0 {P C N M S : Nat → Int32} {a : Int32} {i : Nat} : ca_tr P C N M S 0 a i = decide (N (S i).toNatClampNeg = a) := if_pos rfl
theorem ca_tr_1 {P C N M S : Nat → Int32} {a : Int32} {i : Nat} : ca_tr P C N M S 1 a i = decide (C (S i).toNatClampNeg = a) := (if_neg (by decide)).trans (if_pos rfl)
theorem ca_tr_2 {P C N M S : Nat → Int32} {a : Int32} {i : Nat} : ca_tr P C N M S 2 a i = ca_un P a 9 (C (S i).toNatClampNeg) := (if_neg (by decide)).trans ((if_neg (by decide)).trans (if_pos rfl))
theorem ca_tr_3 {P C N M S : Nat → Int32} {a : Int32} {i : Nat} : ca_tr P C N M S 3 a i = decide ((M (S i).toNatClampNeg >>> (a &&& 31)) &&& 1 = 1) := (if_neg (by decide)).trans ((if_neg (by decide)).trans ((if_neg (by decide)).trans (if_pos rfl)))
theorem ca_tr_4 {P C N M S : Nat → Int32} {a : Int32} {i : Nat} : ca_tr P C N M S 4 a i = (decide (0 < i) && ca_un P a 9 (C (S (i - 1)).toNatClampNeg)) := (if_neg (by decide)).trans ((if_neg (by decide)).trans ((if_neg (by decide)).trans ((if_neg (by decide)).trans (if_pos rfl))))
theorem ca_tr_5 {P C N M S : Nat → Int32} {a : Int32} {i : Nat} : ca_tr P C N M S 5 a i = decide (a ≤ nI i) := (if_neg (by decide)).trans ((if_neg (by decide)).trans ((if_neg (by decide)).trans ((if_neg (by decide)).trans (if_neg (by decide)))))
theorem ca_hs {H k : Nat} (hk : k ≤ 2) (h : k ≤ H) : nI H + (1 - nI k) = nI (H - k + 1) := by
  rcases (by omega : k = 0 ∨ k = 1 ∨ k = 2) with rfl | rfl | rfl
  · rw [show (1 : Int32) - nI 0 = 1 by decide, nI_1]
    rfl
  · rw [show (1 : Int32) - nI 1 = 0 by decide, Int32.add_zero, show H - 1 + 1 = H by omega]
  · obtain ⟨q, rfl⟩ : ∃ q, H = q + 2 := ⟨H - 2, by omega⟩
    rw [show (1 : Int32) - nI 2 = -1 by decide, show q + 2 - 2 + 1 = q + 1 by omega]
    exact pk_m1 (q + 1)
theorem ca_20 (f j : Nat) : (20 : Int32) * nI f + nI j = nI (20 * f + j) := (congrArg (fun x => x + nI j) (pk_mul 20 f)).trans (nI_add _ _)
theorem ca_16 (f j : Nat) : (16 : Int32) * nI f + nI j = nI (16 * f + j) := (congrArg (fun x => x + nI j) (pk_mul 16 f)).trans (nI_add _ _)
/-- the number below n, from the top down: -1 behind 0 -/
def ca_dn : Nat → Int32
  | 0 => -1
  | n + 1 => nI n
theorem ca_dn_p (n : Nat) : nI n + (-1) = ca_dn n := by
  cases n with
  | zero => decide
  | succ n => exact pk_m1 n
theorem ca_dn_m (n : Nat) : nI n - 1 = ca_dn n := by
  cases n with
  | zero => decide
  | succ n => exact nI_pred n
def ca_Cls (C : Nat → Int32) : Prop := ∀ m, ∃ q, q < 8 ∧ C m = nI q
def ca_Stk (S : Nat → Int32) : Prop := ∀ i, ∃ m, m < 16 ∧ S i = nI m
theorem ca_Stk_u {S : Nat → Int32} {i m : Nat} (h : ca_Stk S) (hm : m < 16) : ca_Stk (upd S i (nI m)) := fun j => by
  by_cases e : j = i
  · subst e
    exact ⟨m, hm, pk_us⟩
  · rw [pk_un e]
    exact h j
theorem ca_Cls_u {C : Nat → Int32} {i q : Nat} (h : ca_Cls C) (hq : q < 8) : ca_Cls (upd C i (nI q)) := fun j => by
  by_cases e : j = i
  · subst e
    exact ⟨q, hq, pk_us⟩
  · rw [pk_un e]
    exact h j
end
section
section XW
variable {fc ft fh fp fg tp : Int32} {pa cl nm mk st dk da pk ag pt ti cn li se tr pr : Nat → Int32}
theorem cx_isMethod {post : Int32 → Prop} (v : Int32) (h0 : v < 0 → post 0) (h1 : ¬ v < 0 → 16 ≤ v → post 0) (h2 : ∀ m, m < 16 → v = nI m → post 1) : wpX_isMethod post (fc, ft, fh, fp, fg, pa, cl, nm, mk, st, dk, da, pk, ag, pt, ti, cn, li, se) v := by
  unfold wpX_isMethod
  refine br_c h0 (fun a => br_c (h1 a) (fun b => ?_))
  obtain ⟨m, hm, e⟩ := ca_rng 16 (by decide) a b
  exact h2 m hm e
theorem cx_taken {post : Int32 → Prop} (k : Int32) (hp : post (nI (ca_tk k))) : wpX_formulasTaken post (fc, ft, fh, fp, fg, pa, cl, nm, mk, st, dk, da, pk, ag, pt, ti, cn, li, se) k := by
  unfold wpX_formulasTaken
  by_cases a : 5 < k
  · have a6 : ¬ k < 6 := (ca_56 k).mp a
    refine br_t a (br_c (fun b => ?_) (fun b8 => br_c (fun b => ?_) (fun b11 => br_c (fun b => ?_) (fun b12 => ?_))))
    · rw [ca_tk_2 a6 (Or.inl b)] at hp
      exact hp
    · rw [ca_tk_2 a6 (Or.inr (Or.inl b))] at hp
      exact hp
    · rw [ca_tk_2 a6 (Or.inr (Or.inr b))] at hp
      exact hp
    · rw [ca_tk_1 a6 (fun z => z.elim b8 (fun z => z.elim b11 b12))] at hp
      exact hp
  · rw [ca_tk_0 (Decidable.byContradiction fun z => a ((ca_56 k).mpr z))] at hp
    exact br_f a hp
theorem cx_has {post : Int32 → Prop} (x : Int32) {y : Int32} {i : Nat} (hi : i < 32) (hy : y = nI i) (hp : post (ca_b (bt x i))) : wpX_hasCall post (fc, ft, fh, fp, fg, pa, cl, nm, mk, st, dk, da, pk, ag, pt, ti, cn, li, se) x y := by
  subst hy
  unfold wpX_hasCall
  cases e : bt x i with
  | true =>
    rw [e] at hp
    exact br_t ((ca_bit x hi).mpr e) hp
  | false =>
    rw [e] at hp
    exact br_f (fun z => by rw [(ca_bit x hi).mp z] at e; exact absurd e (by decide)) hp
theorem cx_under5 {post : Int32 → Prop} (hP : ca_Par pa) {o : Nat} (ho : o < 8) : ∀ (n s : Nat) (k : Int32), n + s = 8 → (k = -1 ∨ ∃ m, m + s ≤ 7 ∧ k = nI m) → post (ca_b (ca_un pa (nI o) (n + 1) k)) → wX_isUnder_5 post (nI o) fc ft fh fp fg pa cl nm mk st dk da pk ag pt ti cn li se (n + 1) k (nI s) := by
  intro n
  induction n with
  | zero =>
    intro s k hs hk hp
    have h8 : (8 : Int32) ≤ nI s := nI_le (a := 8) (by omega) (by omega)
    rcases hk with hk | ⟨m, hm, _⟩
    · subst hk
      rw [ca_un_neg] at hp
      exact br_t h8 (br_f (ca_m1 (by omega)) hp)
    · omega
  | succ n ih =>
    intro s k hs hk hp
    have h8 : ¬ (8 : Int32) ≤ nI s := nI_ge (b := 8) (by omega) (by decide)
    rcases hk with hk | ⟨m, hm, hk⟩
    · subst hk
      rw [ca_un_neg] at hp
      exact br_f h8 (br_t (ca_m1le (by omega)) (br_f (ca_m1 (by omega)) hp))
    · subst hk
      rcases Nat.lt_trichotomy m o with hmo | hmo | hmo
      · rw [ca_un_lt hP ho _ m hmo] at hp
        exact br_f h8 (br_t (nI_le (by omega) (by omega)) (br_f (fun z => absurd ((nI_eq (by omega) (by omega)).mp z) (by omega)) hp))
      · subst hmo
        have e : ca_un pa (nI m) (n + 1 + 1) (nI m) = true := by
          show (if nI m < 0 then false else if nI m = nI m then true else _) = true
          rw [if_neg (nI_pos (by omega)), if_pos rfl]
        rw [e] at hp
        exact br_f h8 (br_t (Int32.le_refl _) (br_t rfl hp))
      · have e : ca_un pa (nI o) (n + 1 + 1) (nI m) = ca_un pa (nI o) (n + 1) (pa m) := by
          show (if nI m < 0 then false else if nI m = nI o then true else ca_un pa (nI o) (n + 1) (pa (nI m).toNatClampNeg)) = _
          rw [if_neg (nI_pos (by omega)), if_neg (fun z => absurd ((nI_eq (by omega) (by omega)).mp z) (by omega)), nI_clamp (by omega)]
        rw [e] at hp
        refine br_f h8 (br_f (nI_ge hmo (by omega)) ⟨vp_in_nI (by omega) (by decide), nm_r (e' := pa m) (by rw [nI_clamp (by omega)]) (nm_r (nI_1 s) (ih (s + 1) (pa m) (by omega) ?_ hp))⟩)
        rcases hP m (by omega) with q | ⟨q, hq, e⟩
        · exact Or.inl q
        · exact Or.inr ⟨q, by omega, e⟩
theorem cx_under {post : Int32 → Prop} (hP : ca_Par pa) {o m : Nat} (ho : o < 8) (hm : m < 8) (hp : post (ca_b (ca_un pa (nI o) 9 (nI m)))) : wpX_isUnder post (fc, ft, fh, fp, fg, pa, cl, nm, mk, st, dk, da, pk, ag, pt, ti, cn, li, se) (nI m) (nI o) := by
  unfold wpX_isUnder
  exact ⟨9, cx_under5 hP ho 8 0 (nI m) rfl (Or.inr ⟨m, by omega, rfl⟩) hp⟩
theorem cx_trait {post : Int32 → Prop} (hP : ca_Par pa) (hC : ca_Cls cl) (hS : ca_Stk st) {k a : Int32} (hk : k = 0 ∨ k = 1 ∨ k = 2 ∨ k = 3 ∨ k = 4 ∨ k = 5) (ha : (k = 2 ∨ k = 4) → ∃ o, o < 8 ∧ a = nI o) {i : Nat} (hi : i < 20) (hp : post (ca_b (ca_tr pa cl nm mk st k a i))) : wpX_hasTrait post (fc, ft, fh, fp, fg, pa, cl, nm, mk, st, dk, da, pk, ag, pt, ti, cn, li, se) k a (nI i) := by
  obtain ⟨m, hm, em⟩ := hS i
  have hin : vp_in (st i) 16 := by
    rw [em]
    exact vp_in_nI hm (by decide)
  unfold wpX_hasTrait
  refine ⟨vp_in_nI hi (by decide), nm_r (e' := st i) (by rw [nI_clamp (by omega)]) ?_⟩
  rcases hk with rfl | rfl | rfl | rfl | rfl | rfl
  · rw [ca_tr_0] at hp
    exact br_f (by decide) (br_f (by decide) (br_t rfl ⟨hin, ca_dec hp⟩))
  · rw [ca_tr_1] at hp
    exact br_f (by decide) (br_f (by decide) (br_f (by decide) (br_t rfl ⟨hin, ca_dec hp⟩)))
  · rw [ca_tr_2] at hp
    obtain ⟨o, ho, rfl⟩ := ha (Or.inl rfl)
    obtain ⟨q, hq, eq⟩ := hC (st i).toNatClampNeg
    rw [eq] at hp
    refine br_f (by decide) (br_f (by decide) (br_f (by decide) (br_f (by decide) (br_t rfl ⟨hin, ?_⟩))))
    rw [eq]
    exact cx_under hP ho hq ⟨ca_b_n _, hp⟩
  · rw [ca_tr_3] at hp
    exact br_f (by decide) (br_f (by decide) (br_f (by decide) (br_f (by decide) (br_f (by decide) (br_t rfl ⟨hin, ca_dec hp⟩)))))
  · rw [ca_tr_4] at hp
    obtain ⟨o, ho, rfl⟩ := ha (Or.inr rfl)
    refine br_f (by decide) (br_f (by decide) (br_f (by decide) (br_f (by decide) (br_f (by decide) (br_f (by decide) (br_t rfl ?_))))))
    cases i with
    | zero => exact br_t (by decide) hp
    | succ j =>
      obtain ⟨q, hq, eq⟩ := hC (st j).toNatClampNeg
      obtain ⟨m', hm', em'⟩ := hS j
      rw [decide_eq_true (Nat.succ_pos j), Bool.true_and, Nat.add_sub_cancel, eq] at hp
      refine br_f (nI_nle (by omega) (by omega)) ?_
      rw [nI_pred j, nI_clamp (show j < 2 ^ 31 by omega), eq]
      exact ⟨vp_in_nI (by omega) (by decide), by rw [em']; exact vp_in_nI hm' (by decide), cx_under hP ho hq (ca_if1 hp)⟩
  · rw [ca_tr_5] at hp
    exact br_f (by decide) (br_t (by decide) (ca_decl hp))
theorem cx_traits {post : Int32 → Prop} (hP : ca_Par pa) (hC : ca_Cls cl) (hS : ca_Stk st) {k a : Int32} (hk : k = 0 ∨ k = 1 ∨ k = 2 ∨ k = 3 ∨ k = 4 ∨ k = 5) (ha : (k = 2 ∨ k = 4) → ∃ o, o < 8 ∧ a = nI o) {s : Nat} (hs : s ≤ 20) (hp : ∀ r, ca_is r (ca_tr pa cl nm mk st k a) s → post r) : wpX_callsWithTrait post (fc, ft, fh, fp, fg, pa, cl, nm, mk, st, dk, da, pk, ag, pt, ti, cn, li, se) k a (nI s) := by
  have L : ∀ (n i : Nat) (x : Int32), i + n = s → ca_is x (ca_tr pa cl nm mk st k a) i → wX_callsWithTrait_6 post k a (nI s) fc ft fh fp fg pa cl nm mk st dk da pk ag pt ti cn li se (n + 1) x (nI i) := by
    intro n
    induction n with
    | zero =>
      intro i x e hx
      have e' : i = s := e
      rw [e'] at hx
      exact br_t (nI_le (by omega) (by omega)) (hp x hx)
    | succ n ih =>
      intro i x e hx
      refine br_f (nI_ge (by omega) (by omega)) (cx_trait hP hC hS hk ha (by omega) ?_)
      exact ca_if (fun q => nm_r (nI_1 i) (ih (i + 1) x (by omega) (ca_is_f hx q))) (fun q => nm_e (nm_r (nI_1 i) (ih (i + 1) _ (by omega) (ca_is_t (by omega) hx q))))
  unfold wpX_callsWithTrait
  exact ⟨s + 1, L s 0 0 (by omega) (ca_is_0 _)⟩
theorem cx_atleast {post : Int32 → Prop} {a f : Int32} {s : Nat} (hs : s ≤ 20) (hp : ∀ r, ca_is r (fun j => decide (a ≤ nI (ca_ct (bt f) (j + 1)))) s → post r) : wpX_callsAtLeast post (fc, ft, fh, fp, fg, pa, cl, nm, mk, st, dk, da, pk, ag, pt, ti, cn, li, se) a f (nI s) := by
  have L : ∀ (n i : Nat) (x : Int32), i + n = s → ca_is x (fun j => decide (a ≤ nI (ca_ct (bt f) (j + 1)))) i → wX_callsAtLeast_9 post a f (nI s) fc ft fh fp fg pa cl nm mk st dk da pk ag pt ti cn li se (n + 1) x (nI (ca_ct (bt f) i)) (nI i) := by
    intro n
    induction n with
    | zero =>
      intro i x e hx
      have e' : i = s := e
      rw [e'] at hx
      exact br_t (nI_le (by omega) (by omega)) (hp x hx)
    | succ n ih =>
      intro i x e hx
      have K : ∀ y, y = nI (ca_ct (bt f) (i + 1)) → wX_callsAtLeast_28 post (wX_callsAtLeast_9 post a f (nI s) fc ft fh fp fg pa cl nm mk st dk da pk ag pt ti cn li se (n + 1)) a f (nI s) x y (nI i) fc ft fh fp fg pa cl nm mk st dk da pk ag pt ti cn li se := by
        intro y ey
        subst ey
        unfold wX_callsAtLeast_28
        by_cases q : nI (ca_ct (bt f) (i + 1)) < a
        · exact br_t q (nm_r (nI_1 i) (ih (i + 1) x (by omega) (ca_is_f hx (decide_eq_false (Int32.not_le.mpr q)))))
        · exact br_f q (nm_e (nm_r (nI_1 i) (ih (i + 1) _ (by omega) (ca_is_t (by omega) hx (decide_eq_true (Int32.not_lt.mp q))))))
      refine br_f (nI_ge (by omega) (by omega)) (cx_has f (by omega) rfl ?_)
      exact ca_if (fun q => K _ (by rw [ca_ct_f q])) (fun q => nm_r (nI_1 _) (K _ (by rw [ca_ct_t q])))
  unfold wpX_callsAtLeast
  exact ⟨s + 1, L s 0 0 (by omega) (ca_is_0 _)⟩
theorem cx_one {post : Int32 → Prop} {k a f : Int32} (hk : k = 6 ∨ k = 7 ∨ k = 9 ∨ k = 10 ∨ k = 13) {s : Nat} (hs : s ≤ 20) (G : Nat → Bool) (hp : ∀ r, (∀ j, j < s → bt r j = ca_op k a (bt f) G j) → post r) : wpX_callsFromOne post (fc, ft, fh, fp, fg, pa, cl, nm, mk, st, dk, da, pk, ag, pt, ti, cn, li, se) k a f (nI s) := by
  have hall : ∀ j, j < s → bt (((1 : Int32) <<< (nI s &&& 31)) - 1) j = true := fun j hj => by
    rw [ca_all s (by omega) j (by omega)]
    exact decide_eq_true hj
  unfold wpX_callsFromOne
  refine nm_e (nm_e (nm_e ?_))
  rcases hk with rfl | rfl | rfl | rfl | rfl
  · refine br_f (by decide) (br_f (by decide) (br_t rfl (hp _ fun j hj => ?_)))
    rw [b_and, hall j hj, Bool.and_true, ca_from f (by omega), ca_op_6]
  · refine br_f (by decide) (br_f (by decide) (br_f (by decide) (br_t rfl (hp _ fun j hj => ?_))))
    rw [b_and, b_and, hall j hj, Bool.and_true, ca_not _ (by omega), ca_from f (by omega), ca_first f (by omega), ca_op_7, ca_ex_s]
    cases bt f j <;> cases ca_ex (bt f) j <;> rfl
  · refine br_f (by decide) (br_f (by decide) (br_f (by decide) (br_f (by decide) (br_f (by decide) (br_t rfl (cx_atleast hs fun r hr => hp r fun j hj => ?_))))))
    rw [ca_op_9]
    exact ca_is_bt hr (by omega) hj
  · refine br_f (by decide) (br_f (by decide) (br_f (by decide) (br_f (by decide) (br_f (by decide) (br_f (by decide) (br_t rfl (hp _ fun j hj => ?_)))))))
    rw [b_and, hall j hj, Bool.and_true, ca_not _ (by omega), ca_op_10]
  · refine br_f (by decide) (br_t (by decide) (hp _ fun j hj => ?_))
    rw [ca_first f (by omega), ca_op_13]
theorem cx_since {post : Int32 → Prop} {f g : Int32} {s : Nat} (hs : s ≤ 20) (hp : ∀ r, ca_is r (fun j => ca_sn (bt f) (bt g) (j + 1)) s → post r) : wpX_callsSince post (fc, ft, fh, fp, fg, pa, cl, nm, mk, st, dk, da, pk, ag, pt, ti, cn, li, se) f g (nI s) := by
  have L : ∀ (n i : Nat) (x : Int32), i + n = s → ca_is x (fun j => ca_sn (bt f) (bt g) (j + 1)) i → wX_callsSince_9 post f g (nI s) fc ft fh fp fg pa cl nm mk st dk da pk ag pt ti cn li se (n + 1) x (ca_b (ca_sn (bt f) (bt g) i)) (nI i) := by
    intro n
    induction n with
    | zero =>
      intro i x e hx
      have e' : i = s := e
      rw [e'] at hx
      exact br_t (nI_le (by omega) (by omega)) (hp x hx)
    | succ n ih =>
      intro i x e hx
      have K : ∀ z, z = ca_b (ca_sn (bt f) (bt g) (i + 1)) → wX_callsSince_45 post (wX_callsSince_9 post f g (nI s) fc ft fh fp fg pa cl nm mk st dk da pk ag pt ti cn li se (n + 1)) f g (nI s) x (nI i) z fc ft fh fp fg pa cl nm mk st dk da pk ag pt ti cn li se := by
        intro z ez
        subst ez
        unfold wX_callsSince_45
        exact ca_if (fun q => nm_r (nI_1 i) (ih (i + 1) x (by omega) (ca_is_f hx q))) (fun q => nm_e (nm_r (nI_1 i) (ih (i + 1) _ (by omega) (ca_is_t (by omega) hx q))))
      have es : ca_sn (bt f) (bt g) (i + 1) = (bt g i || (bt f i && ca_sn (bt f) (bt g) i)) := rfl
      refine br_f (nI_ge (by omega) (by omega)) (cx_has g (by omega) rfl ?_)
      refine ca_if (fun qg => ?_) (fun qg => ?_)
      · refine ca_if (fun qs => ?_) (fun qs => ?_)
        · exact K 0 (by rw [es, qg, qs, Bool.and_false]; rfl)
        · refine cx_has f (by omega) rfl (ca_if (fun qf => ?_) (fun qf => ?_))
          · exact K 0 (by rw [es, qg, qf]; rfl)
          · exact K 1 (by rw [es, qg, qf, qs]; rfl)
      · exact K 1 (by rw [es, qg]; rfl)
  unfold wpX_callsSince
  exact ⟨s + 1, L s 0 0 (by omega) (ca_is_0 _)⟩
theorem cx_two {post : Int32 → Prop} {k f g : Int32} (a : Int32) (hk : k = 8 ∨ k = 11 ∨ k = 12) {s : Nat} (hs : s ≤ 20) (hp : ∀ r, (∀ j, j < s → bt r j = ca_op k a (bt f) (bt g) j) → post r) : wpX_callsFromTwo post (fc, ft, fh, fp, fg, pa, cl, nm, mk, st, dk, da, pk, ag, pt, ti, cn, li, se) k f g (nI s) := by
  unfold wpX_callsFromTwo
  rcases hk with rfl | rfl | rfl
  · refine br_f (by decide) (br_f (by decide) (cx_since hs fun r hr => hp r fun j hj => ?_))
    rw [ca_op_8]
    exact ca_is_bt hr (by omega) hj
  · exact br_t rfl (hp _ fun j _ => by rw [ca_op_11, b_and])
  · exact br_f (by decide) (br_t rfl (hp _ fun j _ => by rw [ca_op_12, b_or]))
theorem cx_step {sx : Nat → Int32} {T : Int32 → Int32 → Nat → Bool} {K A : Nat → Int32} {t s : Nat} {r : Int32} (H : ∀ q, q < ca_h K t → ∀ j, j < s → bt (sx q) j = ca_v T K A t q j) (hr : ∀ j, j < s → bt r j = ca_v T K A (t + 1) (ca_h K t - ca_tk (K t)) j) : ∀ q, q < ca_h K (t + 1) → ∀ j, j < s → bt (upd sx (ca_h K t - ca_tk (K t)) r q) j = ca_v T K A (t + 1) q j := by
  intro q hq j hj
  by_cases e : q = ca_h K t - ca_tk (K t)
  · subst e
    rw [pk_us]
    exact hr j hj
  · rw [pk_un e, ca_v_n e]
    have e2 : ca_h K (t + 1) = ca_h K t - ca_tk (K t) + 1 := rfl
    exact H q (by omega) j hj
theorem cx_where {post : Int32 → SX → Prop} {K A : Nat → Int32} {q n s : Nat} (hP : ca_Par pa) (hC : ca_Cls cl) (hS : ca_Stk st) (hq : q < 6) (hn : n ≤ 16) (hpt : pt q = nI n) (hK : ∀ t, pk (16 * q + t) = K t) (hA : ∀ t, ag (16 * q + t) = A t) (hw : ca_wf K A n) (h1 : ca_h K n = 1) (hs : s ≤ 20)
    (hp : ∀ r sx, (∀ j, j < s → bt r j = ca_v (ca_tr pa cl nm mk st) K A n 0 j) → post r (fc, ft, fh, fp, fg, pa, cl, nm, mk, st, dk, da, pk, ag, pt, ti, cn, li, sx)) : wpX_callsWhereHolds post (fc, ft, fh, fp, fg, pa, cl, nm, mk, st, dk, da, pk, ag, pt, ti, cn, li, se) (nI q) (nI s) := by
  have L : ∀ (m t : Nat) (sx : Nat → Int32), t + m = n → (∀ z, z < ca_h K t → ∀ j, j < s → bt (sx z) j = ca_v (ca_tr pa cl nm mk st) K A t z j) → wX_callsWhereHolds_21 post (nI s) (nI (16 * q + n)) fc ft fh fp fg (m + 1) (nI (ca_h K t)) (nI (16 * q + t)) pa cl nm mk st dk da pk ag pt ti cn li sx := by
    intro m
    induction m with
    | zero =>
      intro t sx e H
      have e' : t = n := e
      subst e'
      exact br_t (Int32.le_refl _) (hp (sx 0) sx (H 0 (by omega)))
    | succ m ih =>
      intro t sx e H
      obtain ⟨⟨d, hd, ed⟩, ha, htk, h6⟩ := hw t (by omega)
      have hle := ca_tk_le (K t)
      have e2 : ca_h K (t + 1) = ca_h K t - ca_tk (K t) + 1 := rfl
      have hH : ca_h K t ≤ 6 := ca_wf_le (A := A) (n := t) (fun z hz => hw z (by omega))
      have hcl : (nI (ca_h K t - ca_tk (K t))).toNatClampNeg = ca_h K t - ca_tk (K t) := nI_clamp (by omega)
      have hin : vp_in (nI (ca_h K t - ca_tk (K t))) 6 := vp_in_nI (by omega) (by decide)
      have ei : (nI (16 * q + t)).toNatClampNeg = 16 * q + t := nI_clamp (by omega)
      have h96 : vp_in (nI (16 * q + t)) 96 := vp_in_nI (by omega) (by decide)
      refine br_f (nI_ge (by omega) (by omega)) ⟨h96, nm_r (e' := K t) (by rw [ei, hK]) ⟨h96, nm_r (e' := A t) (by rw [ei, hA]) (cx_taken (K t) (nm_r (ca_hs hle htk) (nm_r (nI_pred _) ?_)))⟩⟩
      rw [hcl]
      rcases (by omega : ca_tk (K t) = 0 ∨ ca_tk (K t) = 1 ∨ ca_tk (K t) = 2) with ek | ek | ek
      · refine br_t (by rw [ek]; rfl) (cx_traits hP hC hS (by rw [ed] at ek ⊢; exact ca_k0 d hd ek) ha hs fun r hr => ⟨hin, nm_e (nm_r (nI_1 _) (ih (t + 1) _ (by omega) (cx_step H fun j hj => ?_)))⟩)
        rw [ca_v_0 rfl ek]
        exact ca_is_bt hr (by omega) hj
      · refine br_f (by rw [ek]; decide) (br_t (by rw [ek]; rfl) ⟨hin, cx_one (by rw [ed] at ek ⊢; exact ca_k1 d hd ek) hs (ca_v (ca_tr pa cl nm mk st) K A t (ca_h K t - ca_tk (K t) + 1)) fun r hr => ⟨hin, nm_e (nm_r (nI_1 _) (ih (t + 1) _ (by omega) (cx_step H fun j hj => ?_)))⟩⟩)
        rw [ca_v_op rfl (by omega), hr j hj]
        exact ca_op_congr _ _ (fun i hi => H _ (by omega) i (by omega)) (fun i _ => rfl)
      · refine br_f (by rw [ek]; decide) (br_f (by rw [ek]; decide) ?_)
        rw [nI_1 (ca_h K t - ca_tk (K t)), nI_clamp (show ca_h K t - ca_tk (K t) + 1 < 2 ^ 31 by omega)]
        refine ⟨hin, vp_in_nI (by omega) (by decide), cx_two (A t) (by rw [ed] at ek ⊢; exact ca_k2 d hd ek) hs fun r hr => ⟨hin, nm_e (nm_r (nI_1 _) (ih (t + 1) _ (by omega) (cx_step H fun j hj => ?_)))⟩⟩
        rw [ca_v_op rfl (by omega), hr j hj]
        exact ca_op_congr _ _ (fun i hi => H _ (by omega) i (by omega)) (fun i hi => H _ (by omega) i (by omega))
  unfold wpX_callsWhereHolds
  exact nm_r (e' := nI (16 * q)) ((pk_mul q 16).trans (by rw [Nat.mul_comm])) ⟨vp_in_nI hq (by decide), nm_r (e' := nI (16 * q + n)) (by rw [nI_clamp (by omega), hpt, nI_add]) ⟨n + 1, L n 0 se (by omega) (fun z hz => absurd hz (Nat.not_lt_zero _))⟩⟩
end XW
end
section
section YW
variable {fc ft fh fp fg tp : Int32} {pa cl nm mk st dk da pk ag pt ti cn li se tr pr : Nat → Int32}
theorem cy_taken {post : Int32 → Prop} (k : Int32) (hp : post (nI (ca_tk k))) : wpY_takes post (fc, ft, fh, fp, fg, tp, pa, cl, nm, mk, st, dk, da, pt, ti, cn, pk, ag, li, tr, pr) k := by
  unfold wpY_takes
  by_cases a : 6 ≤ k
  · have a6 : ¬ k < 6 := (ca_66 k).mp a
    refine br_t a (br_c (fun b => ?_) (fun b8 => br_c (fun b => ?_) (fun b11 => br_c (fun b => ?_) (fun b12 => ?_))))
    · rw [ca_tk_2 a6 (Or.inl b)] at hp
      exact hp
    · rw [ca_tk_2 a6 (Or.inr (Or.inl b))] at hp
      exact hp
    · rw [ca_tk_2 a6 (Or.inr (Or.inr b))] at hp
      exact hp
    · rw [ca_tk_1 a6 (fun z => z.elim b8 (fun z => z.elim b11 b12))] at hp
      exact hp
  · rw [ca_tk_0 (Decidable.byContradiction fun z => a ((ca_66 k).mpr z))] at hp
    exact br_f a hp
theorem cy_under2 {post : Int32 → Prop} (hP : ca_Par pa) {o : Nat} (ho : o < 8) : ∀ (n : Nat) (k : Int32), (k = -1 ∨ ∃ m, m + 1 ≤ n ∧ m < 8 ∧ k = nI m) → post (ca_b (ca_un pa (nI o) (n + 1) k)) → wY_isUnder_2 post (nI o) fc ft fh fp fg tp pa cl nm mk st dk da pt ti cn pk ag li tr pr (n + 1) k := by
  intro n
  induction n with
  | zero =>
    intro k hk hp
    rcases hk with hk | ⟨m, hm, _⟩
    · subst hk
      rw [ca_un_neg] at hp
      exact br_t (by decide) (br_f (ca_m1 (by omega)) hp)
    · omega
  | succ n ih =>
    intro k hk hp
    rcases hk with hk | ⟨m, hm, hm8, hk⟩
    · subst hk
      rw [ca_un_neg] at hp
      exact br_t (by decide) (br_f (ca_m1 (by omega)) hp)
    · subst hk
      by_cases hmo : m = o
      · subst hmo
        have e : ca_un pa (nI m) (n + 1 + 1) (nI m) = true := by
          show (if nI m < 0 then false else if nI m = nI m then true else _) = true
          rw [if_neg (nI_pos (by omega)), if_pos rfl]
        rw [e] at hp
        exact br_f (nI_pos (by omega)) (br_t rfl (br_t rfl hp))
      · have hne : ¬ nI m = nI o := fun z => hmo ((nI_eq (by omega) (by omega)).mp z)
        have e : ca_un pa (nI o) (n + 1 + 1) (nI m) = ca_un pa (nI o) (n + 1) (pa m) := by
          show (if nI m < 0 then false else if nI m = nI o then true else ca_un pa (nI o) (n + 1) (pa (nI m).toNatClampNeg)) = _
          rw [if_neg (nI_pos (by omega)), if_neg hne, nI_clamp (by omega)]
        rw [e] at hp
        refine br_f (nI_pos (by omega)) (br_f hne ⟨vp_in_nI hm8 (by decide), nm_r (e' := pa m) (by rw [nI_clamp (by omega)]) (ih (pa m) ?_ hp)⟩)
        rcases hP m hm8 with q | ⟨q, hq, e⟩
        · exact Or.inl q
        · exact Or.inr ⟨q, by omega, by omega, e⟩
theorem cy_under {post : Int32 → Prop} (hP : ca_Par pa) {o m : Nat} (ho : o < 8) (hm : m < 8) (hp : post (ca_b (ca_un pa (nI o) 9 (nI m)))) : wpY_isUnder post (fc, ft, fh, fp, fg, tp, pa, cl, nm, mk, st, dk, da, pt, ti, cn, pk, ag, li, tr, pr) (nI m) (nI o) := by
  unfold wpY_isUnder
  exact ⟨9, cy_under2 hP ho 8 (nI m) (Or.inr ⟨m, by omega, hm, rfl⟩) hp⟩
theorem cy_simple {post : Int32 → Prop} (hP : ca_Par pa) (hC : ca_Cls cl) (hS : ca_Stk st) {k a : Int32} (hk : k = 0 ∨ k = 1 ∨ k = 2 ∨ k = 3 ∨ k = 4 ∨ k = 5) (ha : (k = 2 ∨ k = 4) → ∃ o, o < 8 ∧ a = nI o) {i : Nat} (hi : i < 20) (hp : post (ca_b (ca_tr pa cl nm mk st k a i))) : wpY_simple post (fc, ft, fh, fp, fg, tp, pa, cl, nm, mk, st, dk, da, pt, ti, cn, pk, ag, li, tr, pr) k a (nI i) := by
  obtain ⟨m, hm, em⟩ := hS i
  have hin : vp_in (st i) 16 := by
    rw [em]
    exact vp_in_nI hm (by decide)
  unfold wpY_simple
  refine ⟨vp_in_nI hi (by decide), nm_r (e' := st i) (by rw [nI_clamp (by omega)]) ?_⟩
  rcases hk with rfl | rfl | rfl | rfl | rfl | rfl
  · rw [ca_tr_0] at hp
    exact br_f (by decide) (br_f (by decide) (br_t rfl ⟨hin, ca_dec hp⟩))
  · rw [ca_tr_1] at hp
    exact br_f (by decide) (br_f (by decide) (br_f (by decide) (br_t rfl ⟨hin, ca_dec hp⟩)))
  · rw [ca_tr_2] at hp
    obtain ⟨o, ho, rfl⟩ := ha (Or.inl rfl)
    obtain ⟨q, hq, eq⟩ := hC (st i).toNatClampNeg
    rw [eq] at hp
    refine br_f (by decide) (br_f (by decide) (br_f (by decide) (br_f (by decide) (br_t rfl ⟨hin, ?_⟩))))
    rw [eq]
    exact cy_under hP ho hq ⟨ca_b_n _, hp⟩
  · rw [ca_tr_3] at hp
    exact br_f (by decide) (br_f (by decide) (br_f (by decide) (br_f (by decide) (br_f (by decide) (br_t rfl ⟨hin, ca_dec hp⟩)))))
  · rw [ca_tr_4] at hp
    obtain ⟨o, ho, rfl⟩ := ha (Or.inr rfl)
    refine br_f (by decide) (br_f (by decide) (br_f (by decide) (br_f (by decide) (br_f (by decide) (br_f (by decide) (br_t rfl ?_))))))
    cases i with
    | zero => exact br_t (by decide) hp
    | succ j =>
      obtain ⟨q, hq, eq⟩ := hC (st j).toNatClampNeg
      obtain ⟨m', hm', em'⟩ := hS j
      rw [decide_eq_true (Nat.succ_pos j), Bool.true_and, Nat.add_sub_cancel, eq] at hp
      refine br_f (nI_nle (by omega) (by omega)) ?_
      rw [nI_pred j, nI_clamp (show j < 2 ^ 31 by omega), eq]
      exact ⟨vp_in_nI (by omega) (by decide), by rw [em']; exact vp_in_nI hm' (by decide), cy_under hP ho hq (ca_if1 hp)⟩
  · rw [ca_tr_5] at hp
    exact br_f (by decide) (br_t (by decide) (ca_decl hp))
theorem cy_often {post : Int32 → Prop} {F : Nat → Bool} {f e : Nat} {x : Int32} (hf : f < 16) (he : e ≤ 20) (hx : ∀ j, j ≤ 20 → (x < nI j ↔ e ≤ j)) (hT : ∀ j, j < e → tr (20 * f + j) = ca_b (F j)) (hp : post (nI (ca_ct F e))) : wpY_often post (fc, ft, fh, fp, fg, tp, pa, cl, nm, mk, st, dk, da, pt, ti, cn, pk, ag, li, tr, pr) (nI f) x := by
  have L : ∀ n j : Nat, j + n = e → wY_often_5 post (nI f) x fc ft fh fp fg tp pa cl nm mk st dk da pt ti cn pk ag li tr pr (n + 1) (nI (ca_ct F j)) (nI j) := by
    intro n
    induction n with
    | zero =>
      intro j ej
      have ej' : j = e := ej
      rw [ej']
      exact br_t ((hx e he).mpr (Nat.le_refl e)) hp
    | succ n ih =>
      intro j ej
      refine br_f (fun z => absurd ((hx j (by omega)).mp z) (by omega)) ?_
      rw [ca_20 f j, nI_clamp (show 20 * f + j < 2 ^ 31 by omega), hT j (by omega)]
      refine ⟨vp_in_nI (by omega) (by decide), ca_if (fun q => nm_r (nI_1 j) ?_) (fun q => nm_r (nI_1 _) (nm_r (nI_1 j) ?_))⟩
      · rw [← ca_ct_f q]
        exact ih (j + 1) (by omega)
      · rw [← ca_ct_t q]
        exact ih (j + 1) (by omega)
  unfold wpY_often
  exact ⟨e + 1, L e 0 (by omega)⟩
theorem cy_since {post : Int32 → Prop} {F G : Nat → Bool} {f g : Nat} (hf : f < 16) (hg : g < 16) {i : Nat} (hi : i < 20) (hF : ∀ j, j ≤ i → tr (20 * f + j) = ca_b (F j)) (hG : ∀ j, j ≤ i → tr (20 * g + j) = ca_b (G j)) (hp : post (ca_b (ca_sn F G (i + 1)))) : wpY_since post (fc, ft, fh, fp, fg, tp, pa, cl, nm, mk, st, dk, da, pt, ti, cn, pk, ag, li, tr, pr) (nI f) (nI g) (nI i) := by
  have L : ∀ n : Nat, n ≤ i + 1 → post (ca_b (ca_sn F G n)) → wY_since_3 post (nI f) (nI g) fc ft fh fp fg tp pa cl nm mk st dk da pt ti cn pk ag li tr pr (n + 1) (ca_dn n) := by
    intro n
    induction n with
    | zero =>
      intro _ hq
      exact br_t (by decide) hq
    | succ n ih =>
      intro hn hq
      have es : ca_sn F G (n + 1) = (G n || (F n && ca_sn F G n)) := rfl
      rw [es] at hq
      show wY_since_3 post (nI f) (nI g) fc ft fh fp fg tp pa cl nm mk st dk da pt ti cn pk ag li tr pr (n + 1 + 1) (nI n)
      refine br_f (nI_pos (by omega)) ?_
      rw [ca_20 f n, ca_20 g n, nI_clamp (show 20 * f + n < 2 ^ 31 by omega), nI_clamp (show 20 * g + n < 2 ^ 31 by omega), hF n (by omega), hG n (by omega)]
      refine ⟨vp_in_nI (by omega) (by decide), ca_if (fun qg => ⟨vp_in_nI (by omega) (by decide), ca_if (fun qf => ?_) (fun qf => nm_r (ca_dn_p n) ?_)⟩) (fun qg => ?_)⟩
      · rw [qg, qf] at hq
        exact hq
      · rw [qg, qf] at hq
        exact ih (by omega) hq
      · rw [qg] at hq
        exact hq
  unfold wpY_since
  exact ⟨i + 1 + 1, L (i + 1) (Nat.le_refl _) hp⟩
theorem cy_rd {f i : Nat} {b : Int32} (hf : f < 16) (hi : i < 20) (h : tr (20 * f + i) = b) : tr ((20 : Int32) * nI f + nI i).toNatClampNeg = b := by
  rw [ca_20, nI_clamp (by omega), h]
theorem cy_in {f i : Nat} (hf : f < 16) (hi : i < 20) : vp_in ((20 : Int32) * nI f + nI i) 320 := by
  rw [ca_20]
  exact vp_in_nI (by omega) (by decide)
theorem cy_x0 {i : Nat} (hi : i < 20) : ∀ j, j ≤ 20 → (nI i < nI j ↔ i + 1 ≤ j) := fun j hj => by
  rw [nI_ltI (by omega) (by omega)]
  omega
theorem cy_x1 {i : Nat} (hi : i < 20) : ∀ j, j ≤ 20 → (nI i - 1 < nI j ↔ i ≤ j) := fun j hj => by
  cases i with
  | zero => exact ⟨fun _ => Nat.zero_le j, fun _ => by
      rw [Int32.lt_iff_toInt_lt, nI_toInt (show j < 2 ^ 31 by omega), show (nI 0 - 1).toInt = -1 by decide]
      omega⟩
  | succ i =>
    rw [nI_pred, nI_ltI (by omega) (by omega)]
    omega
theorem cy_joined {post : Int32 → Prop} {F G : Nat → Bool} {k a : Int32} (hk : k = 6 ∨ k = 7 ∨ k = 8 ∨ k = 9 ∨ k = 10 ∨ k = 11 ∨ k = 12 ∨ k = 13) {f g : Nat} (hf : f < 16) (hg : g < 16) {i : Nat} (hi : i < 20) (hF : ∀ j, j ≤ i → tr (20 * f + j) = ca_b (F j)) (hG : ∀ j, j ≤ i → tr (20 * g + j) = ca_b (G j)) (hp : post (ca_b (ca_op k a F G i))) : wpY_joined post (fc, ft, fh, fp, fg, tp, pa, cl, nm, mk, st, dk, da, pt, ti, cn, pk, ag, li, tr, pr) k a (nI f) (nI g) (nI i) := by
  have hle := ca_ct_le F (i + 1)
  have hle0 := ca_ct_le F i
  unfold wpY_joined
  refine ⟨cy_in hf hi, nm_r (cy_rd hf hi (hF i (Nat.le_refl i))) ⟨cy_in hg hi, nm_r (cy_rd hg hi (hG i (Nat.le_refl i))) ?_⟩⟩
  rcases hk with rfl | rfl | rfl | rfl | rfl | rfl | rfl | rfl
  · rw [ca_op_6] at hp
    exact br_f (by decide) (br_f (by decide) (br_t rfl (cy_often (F := F) (e := i + 1) hf (by omega) (cy_x0 hi) (fun j hj => hF j (by omega)) (ca_pos0 (by omega) hp))))
  · rw [ca_op_7] at hp
    exact br_f (by decide) (br_f (by decide) (br_f (by decide) (br_t rfl (cy_often (F := F) (e := i) hf (by omega) (cy_x1 hi) (fun j hj => hF j (by omega)) (ca_pos0 (by omega) hp)))))
  · rw [ca_op_8] at hp
    exact br_f (by decide) (br_f (by decide) (br_f (by decide) (br_f (by decide) (br_t rfl (cy_since hf hg hi hF hG ⟨ca_b_n _, hp⟩)))))
  · rw [ca_op_9] at hp
    exact br_f (by decide) (br_f (by decide) (br_f (by decide) (br_f (by decide) (br_f (by decide) (br_t rfl (cy_often (F := F) (e := i + 1) hf (by omega) (cy_x0 hi) (fun j hj => hF j (by omega)) (ca_decl hp)))))))
  · rw [ca_op_10] at hp
    refine br_f (by decide) (br_f (by decide) (br_f (by decide) (br_f (by decide) (br_f (by decide) (br_f (by decide) (br_t rfl (ca_if (fun q => ?_) (fun q => ?_))))))))
    · rw [q] at hp
      exact hp
    · rw [q] at hp
      exact hp
  · rw [ca_op_11] at hp
    refine br_f (by decide) (br_f (by decide) (br_f (by decide) (br_f (by decide) (br_f (by decide) (br_f (by decide) (br_f (by decide) (br_t rfl (ca_if (fun q => ?_) (fun q => ?_)))))))))
    · rw [q] at hp
      exact hp
    · rw [q, Bool.true_and] at hp
      exact ca_if1 hp
  · rw [ca_op_12] at hp
    refine br_f (by decide) (br_f (by decide) (br_f (by decide) (br_f (by decide) (br_f (by decide) (br_f (by decide) (br_f (by decide) (br_f (by decide) (br_t rfl (ca_if (fun q => ?_) (fun q => ?_))))))))))
    · rw [q, Bool.false_or] at hp
      exact ca_if1 hp
    · rw [q] at hp
      exact hp
  · rw [ca_op_13, ← ca_one] at hp
    refine br_f (by decide) (br_t (by decide) (ca_if (fun q => ?_) (fun q => ?_)))
    · rw [q] at hp
      exact hp
    · rw [q, Bool.true_and] at hp
      exact cy_often (F := F) (e := i + 1) hf (by omega) (cy_x0 hi) (fun j hj => hF j (by omega)) (ca_is1 (by omega) hp)
theorem cy_inner {post : Int32 → SY → Prop} {J7 : Int32 → Int32 → (Nat → Int32) → (Nat → Int32) → (Nat → Int32) → (Nat → Int32) → (Nat → Int32) → (Nat → Int32) → (Nat → Int32) → (Nat → Int32) → (Nat → Int32) → (Nat → Int32) → (Nat → Int32) → (Nat → Int32) → (Nat → Int32) → (Nat → Int32) → (Nat → Int32) → Prop} {x1 k a x6 x7 : Int32} {i t : Nat} {V : Nat → Bool} (hi : i < 20) (ht : t < 16)
    (hv : ∀ tx : Nat → Int32, (∀ j, j < 20 * t → tx j = tr j) → ∀ j, j ≤ i → ∀ Q : Int32 → Prop, Q (ca_b (V j)) → wpY_takes (fun r => (r = 0 → wpY_simple Q (fc, ft, fh, fp, fg, tp, pa, cl, nm, mk, st, dk, da, pt, ti, cn, pk, ag, li, tx, pr) k a (nI j)) ∧ (¬ r = 0 → wpY_joined Q (fc, ft, fh, fp, fg, tp, pa, cl, nm, mk, st, dk, da, pt, ti, cn, pk, ag, li, tx, pr) k a x6 x7 (nI j))) (fc, ft, fh, fp, fg, tp, pa, cl, nm, mk, st, dk, da, pt, ti, cn, pk, ag, li, tx, pr) k)
    (hJ : ∀ tx : Nat → Int32, (∀ j, j < 20 * t → tx j = tr j) → (∀ j, j ≤ i → tx (20 * t + j) = ca_b (V j)) → vp_in tp 8 ∧ ∀ px, px = upd pr tp.toNatClampNeg (nI t) → ∀ ty, ty = tp + 1 → ∀ z, z = nI t + 1 → J7 z ty pa cl nm mk st dk da pt ti cn pk ag li tx px) :
    ∃ n, wY_isTrue_113 post J7 x1 (nI i) (nI t) k a x6 x7 fc ft fh fp fg tp n 0 pa cl nm mk st dk da pt ti cn pk ag li tr pr := by
  have L : ∀ (n j : Nat) (tx : Nat → Int32), j + n = i + 1 → (∀ z, z < 20 * t → tx z = tr z) → (∀ z, z < j → tx (20 * t + z) = ca_b (V z)) → wY_isTrue_113 post J7 x1 (nI i) (nI t) k a x6 x7 fc ft fh fp fg tp (n + 1) (nI j) pa cl nm mk st dk da pt ti cn pk ag li tx pr := by
    intro n
    induction n with
    | zero =>
      intro j tx ej h1 h2
      exact br_t (nI_lt (by omega) (by omega)) (hJ tx h1 (fun z hz => h2 z (by omega)))
    | succ n ih =>
      intro j tx ej h1 h2
      refine br_f (nI_nlt (by omega) (by omega)) (hv tx h1 j (by omega) _ ⟨cy_in ht (by omega), nm_r (e' := upd tx (20 * t + j) (ca_b (V j))) (by rw [ca_20, nI_clamp (by omega), ca_b_v]) (nm_r (nI_1 j) (ih (j + 1) _ (by omega) (fun z hz => ?_) (fun z hz => ?_)))⟩)
      · rw [pk_un (by omega)]
        exact h1 z hz
      · by_cases e : z = j
        · subst e
          exact pk_us
        · rw [pk_un (by omega)]
          exact h2 z (by omega)
  exact ⟨i + 1 + 1, L (i + 1) 0 tr (by omega) (fun _ _ => rfl) (fun z hz => absurd hz (Nat.not_lt_zero z))⟩
def cy_I (T : Int32 → Int32 → Nat → Bool) (K A : Nat → Int32) (i t : Nat) (tx px : Nat → Int32) : Prop :=
  (∀ z, z < ca_h K t → ∃ y, y < t ∧ px z = nI y ∧ ∀ j, j ≤ i → tx (20 * y + j) = ca_b (ca_v T K A t z j)) ∧ (0 < t → px (ca_h K t - 1) = nI (t - 1))
theorem cy_I_s {T : Int32 → Int32 → Nat → Bool} {K A : Nat → Int32} {i t : Nat} {tx px ty : Nat → Int32} (hi : i < 20) (H : cy_I T K A i t tx px) (h1 : ∀ j, j < 20 * t → ty j = tx j) (h2 : ∀ j, j ≤ i → ty (20 * t + j) = ca_b (ca_v T K A (t + 1) (ca_h K t - ca_tk (K t)) j)) : cy_I T K A i (t + 1) ty (upd px (ca_h K t - ca_tk (K t)) (nI t)) := by
  have e2 : ca_h K (t + 1) = ca_h K t - ca_tk (K t) + 1 := rfl
  refine ⟨fun z hz => ?_, fun _ => ?_⟩
  · by_cases e : z = ca_h K t - ca_tk (K t)
    · subst e
      exact ⟨t, Nat.lt_succ_self t, pk_us, h2⟩
    · obtain ⟨y, hy, ey, hv⟩ := H.1 z (by omega)
      refine ⟨y, by omega, by rw [pk_un e, ey], fun j hj => ?_⟩
      rw [h1 _ (by omega), ca_v_n e]
      exact hv j hj
  · rw [e2, Nat.add_sub_cancel, Nat.add_sub_cancel]
    exact pk_us
theorem cy_true {post : Int32 → SY → Prop} {K A : Nat → Int32} {q n i : Nat} (hP : ca_Par pa) (hC : ca_Cls cl) (hS : ca_Stk st) (hq : q < 6) (hn : n ≤ 16) (hpt : pt q = nI n) (hK : ∀ t, pk (16 * q + t) = K t) (hA : ∀ t, ag (16 * q + t) = A t) (hw : ca_wf K A n) (h1 : ca_h K n = 1) (hi : i < 20)
    (hp : ∀ ty tx px, post (ca_b (ca_v (ca_tr pa cl nm mk st) K A n 0 i)) (fc, ft, fh, fp, fg, ty, pa, cl, nm, mk, st, dk, da, pt, ti, cn, pk, ag, li, tx, px)) : wpY_isTrue post (fc, ft, fh, fp, fg, tp, pa, cl, nm, mk, st, dk, da, pt, ti, cn, pk, ag, li, tr, pr) (nI q) (nI i) := by
  have hcq : (nI q).toNatClampNeg = q := nI_clamp (by omega)
  have hqin : vp_in (nI q) 6 := vp_in_nI hq (by decide)
  have L : ∀ (m t : Nat) (tx px : Nat → Int32), t + m = n → cy_I (ca_tr pa cl nm mk st) K A i t tx px → wY_isTrue_7 post (nI q) (nI i) fc ft fh fp fg (m + 1) (nI t) (nI (ca_h K t)) pa cl nm mk st dk da pt ti cn pk ag li tx px := by
    intro m
    induction m with
    | zero =>
      intro t tx px e H
      have e' : t = n := e
      subst e'
      have h0 : 0 < t := by
        rcases Nat.eq_zero_or_pos t with z | z
        · rw [z] at h1
          exact absurd h1 (show ¬ (0 : Nat) = 1 by decide)
        · exact z
      obtain ⟨y, hy, ey, hv⟩ := H.1 0 (by omega)
      have hl := H.2 h0
      rw [h1] at hl
      have ey' : y = t - 1 := (nI_eq (by omega) (by omega)).mp (ey.symm.trans hl)
      have eix : ((20 : Int32) * nI t - 20) + nI i = nI (20 * y + i) := by
        have e1 : (20 : Int32) * nI t - 20 = nI (20 * t - 20) := (congrArg (fun x => x - 20) (pk_mul 20 t)).trans (pk_sub (b := 20) (by omega))
        rw [e1, nI_add]
        exact congrArg nI (by omega)
      have ev : tx (nI (20 * y + i)).toNatClampNeg = ca_b (ca_v (ca_tr pa cl nm mk st) K A t 0 i) := by
        rw [nI_clamp (by omega)]
        exact hv i (Nat.le_refl i)
      refine ⟨hqin, ?_⟩
      rw [hcq, hpt, eix, ev]
      exact br_t (Int32.le_refl _) ⟨hqin, vp_in_nI (by omega) (by decide), ca_b_n _, hp _ _ _⟩
    | succ m ih =>
      intro t tx px e H
      obtain ⟨⟨d, hd, ed⟩, ha, htk, h6⟩ := hw t (by omega)
      have hle := ca_tk_le (K t)
      have e2 : ca_h K (t + 1) = ca_h K t - ca_tk (K t) + 1 := rfl
      have hH : ca_h K t ≤ 6 := ca_wf_le (A := A) (n := t) (fun z hz => hw z (by omega))
      have hcl : (nI (ca_h K t - ca_tk (K t))).toNatClampNeg = ca_h K t - ca_tk (K t) := nI_clamp (by omega)
      have h8 : vp_in (nI (ca_h K t - ca_tk (K t))) 8 := vp_in_nI (by omega) (by decide)
      have ei : ((16 : Int32) * nI q + nI t).toNatClampNeg = 16 * q + t := by rw [ca_16, nI_clamp (by omega)]
      have h96 : vp_in ((16 : Int32) * nI q + nI t) 96 := by
        rw [ca_16]
        exact vp_in_nI (by omega) (by decide)
      have hJ : ∀ ty : Nat → Int32, (∀ j, j < 20 * t → ty j = tx j) → (∀ j, j ≤ i → ty (20 * t + j) = ca_b (ca_v (ca_tr pa cl nm mk st) K A (t + 1) (ca_h K t - ca_tk (K t)) j)) → vp_in (nI (ca_h K t - ca_tk (K t))) 8 ∧ ∀ pz, pz = upd px (nI (ca_h K t - ca_tk (K t))).toNatClampNeg (nI t) → ∀ tz, tz = nI (ca_h K t - ca_tk (K t)) + 1 → ∀ z, z = nI t + 1 → wY_isTrue_7 post (nI q) (nI i) fc ft fh fp fg (m + 1) z tz pa cl nm mk st dk da pt ti cn pk ag li ty pz := by
        intro ty h3 h4
        rw [hcl]
        exact ⟨h8, nm_e (nm_r (nI_1 _) (nm_r (nI_1 t) (ih (t + 1) ty _ (by omega) (cy_I_s hi H h3 h4))))⟩
      refine ⟨hqin, ?_⟩
      rw [hcq, hpt]
      refine br_f (nI_ge (by omega) (by omega)) ⟨h96, nm_r (e' := K t) (by rw [ei, hK]) ⟨h96, nm_r (e' := A t) (by rw [ei, hA]) (cy_taken (K t) (nm_r (pk_sub htk) (cy_taken (K t) ?_)))⟩⟩
      rcases (by omega : ca_tk (K t) = 0 ∨ ca_tk (K t) = 1 ∨ ca_tk (K t) = 2) with ek | ek | ek
      · refine br_t (by rw [ek]; decide) ?_
        unfold wY_isTrue_80
        refine cy_taken (K t) (br_t (by rw [ek]; decide) (cy_inner (V := fun j => ca_v (ca_tr pa cl nm mk st) K A (t + 1) (ca_h K t - ca_tk (K t)) j) hi (by omega) (fun ty h3 j hj Q hQ => ?_) hJ))
        refine cy_taken (K t) (br_t (by rw [ek]; rfl) (cy_simple hP hC hS (by rw [ed] at ek ⊢; exact ca_k0 d hd ek) ha (by omega) ?_))
        rw [ca_v_0 rfl ek] at hQ
        exact hQ
      · obtain ⟨y, hy, ey, hv⟩ := H.1 (ca_h K t - ca_tk (K t)) (by omega)
        refine br_f (by rw [ek]; decide) ⟨h8, ?_⟩
        rw [hcl, ey]
        unfold wY_isTrue_80
        refine cy_taken (K t) (br_t (by rw [ek]; decide) (cy_inner (V := fun j => ca_v (ca_tr pa cl nm mk st) K A (t + 1) (ca_h K t - ca_tk (K t)) j) hi (by omega) (fun ty h3 j hj Q hQ => ?_) hJ))
        refine cy_taken (K t) (br_f (by rw [ek]; decide) (cy_joined (F := ca_v (ca_tr pa cl nm mk st) K A t (ca_h K t - ca_tk (K t))) (G := ca_v (ca_tr pa cl nm mk st) K A t (ca_h K t - ca_tk (K t))) (by rw [ed] at ek ⊢; exact ca_k12 d hd (by omega)) (by omega) (by omega) (by omega) (fun z hz => ?_) (fun z hz => ?_) ?_))
        · rw [h3 _ (by omega)]
          exact hv z (by omega)
        · rw [h3 _ (by omega)]
          exact hv z (by omega)
        · rw [ca_v_op rfl (by omega), ca_op_g _ _ _ (ca_v (ca_tr pa cl nm mk st) K A t (ca_h K t - ca_tk (K t))) _ ek] at hQ
          exact hQ
      · obtain ⟨y, hy, ey, hv⟩ := H.1 (ca_h K t - ca_tk (K t)) (by omega)
        obtain ⟨y2, hy2, ey2, hv2⟩ := H.1 (ca_h K t - ca_tk (K t) + 1) (by omega)
        refine br_f (by rw [ek]; decide) ⟨h8, ?_⟩
        rw [hcl, ey]
        unfold wY_isTrue_80
        refine cy_taken (K t) (br_f (by rw [ek]; decide) ⟨by rw [nI_1]; exact vp_in_nI (by omega) (by decide), nm_r (e' := nI y2) (by rw [nI_1, nI_clamp (by omega), ey2]) (cy_inner (V := fun j => ca_v (ca_tr pa cl nm mk st) K A (t + 1) (ca_h K t - ca_tk (K t)) j) hi (by omega) (fun ty h3 j hj Q hQ => ?_) hJ)⟩)
        refine cy_taken (K t) (br_f (by rw [ek]; decide) (cy_joined (F := ca_v (ca_tr pa cl nm mk st) K A t (ca_h K t - ca_tk (K t))) (G := ca_v (ca_tr pa cl nm mk st) K A t (ca_h K t - ca_tk (K t) + 1)) (by rw [ed] at ek ⊢; exact ca_k12 d hd (by omega)) (by omega) (by omega) (by omega) (fun z hz => ?_) (fun z hz => ?_) ?_))
        · rw [h3 _ (by omega)]
          exact hv z (by omega)
        · rw [h3 _ (by omega)]
          exact hv2 z (by omega)
        · rw [ca_v_op rfl (by omega)] at hQ
          exact hQ
  unfold wpY_isTrue
  exact ⟨n + 1, L n 0 tr pr (by omega) ⟨fun z hz => absurd hz (Nat.not_lt_zero z), fun z => absurd z (Nat.lt_irrefl 0)⟩⟩
end YW
end
section
section GV
variable {fc ft fh fp fg tp : Int32} {pa cl nm mk st dk da pk ag pt ti cn li se tr pr : Nat → Int32}
def ca_pc (pk ag pt : Nat → Int32) (q : Nat) : Prop := ∃ n, n ≤ 16 ∧ pt q = nI n ∧ ca_wf (fun t => pk (16 * q + t)) (fun t => ag (16 * q + t)) n ∧ ca_h (fun t => pk (16 * q + t)) n = 1
/-- a piece's formula at call i -/
def ca_val (T : Int32 → Int32 → Nat → Bool) (pk ag pt : Nat → Int32) (q i : Nat) : Bool := ca_v T (fun t => pk (16 * q + t)) (fun t => ag (16 * q + t)) (pt q).toNatClampNeg 0 i
theorem cx_val {post : Int32 → SX → Prop} {q s : Nat} (hP : ca_Par pa) (hC : ca_Cls cl) (hS : ca_Stk st) (hq : q < 6) (hpc : ca_pc pk ag pt q) (hs : s ≤ 20)
    (hp : ∀ r sx, (∀ j, j < s → bt r j = ca_val (ca_tr pa cl nm mk st) pk ag pt q j) → post r (fc, ft, fh, fp, fg, pa, cl, nm, mk, st, dk, da, pk, ag, pt, ti, cn, li, sx)) : wpX_callsWhereHolds post (fc, ft, fh, fp, fg, pa, cl, nm, mk, st, dk, da, pk, ag, pt, ti, cn, li, se) (nI q) (nI s) := by
  obtain ⟨n, hn, hpt, hw, h1⟩ := hpc
  have e : (pt q).toNatClampNeg = n := by rw [hpt, nI_clamp (by omega)]
  refine cx_where hP hC hS hq hn hpt (fun _ => rfl) (fun _ => rfl) hw h1 hs (fun r sx hr => hp r sx (fun j hj => ?_))
  unfold ca_val
  rw [e]
  exact hr j hj
theorem cy_val {post : Int32 → SY → Prop} {q i : Nat} (hP : ca_Par pa) (hC : ca_Cls cl) (hS : ca_Stk st) (hq : q < 6) (hpc : ca_pc pk ag pt q) (hi : i < 20)
    (hp : ∀ ty tx px, post (ca_b (ca_val (ca_tr pa cl nm mk st) pk ag pt q i)) (fc, ft, fh, fp, fg, ty, pa, cl, nm, mk, st, dk, da, pt, ti, cn, pk, ag, li, tx, px)) : wpY_isTrue post (fc, ft, fh, fp, fg, tp, pa, cl, nm, mk, st, dk, da, pt, ti, cn, pk, ag, li, tr, pr) (nI q) (nI i) := by
  obtain ⟨n, hn, hpt, hw, h1⟩ := hpc
  have e : (pt q).toNatClampNeg = n := by rw [hpt, nI_clamp (by omega)]
  refine cy_true hP hC hS hq hn hpt (fun _ => rfl) (fun _ => rfl) hw h1 hi (fun ty tx px => ?_)
  have z := hp ty tx px
  unfold ca_val at z
  rw [e] at z
  exact z
/-- one piece given, if w says so: how many were given, the list, the counts -/
def ca_st (w : Nat → Bool) (q : Nat) (s : Nat × (Nat → Int32) × (Nat → Int32)) : Nat × (Nat → Int32) × (Nat → Int32) :=
  if w q = true then (s.1 + 1, upd s.2.1 (s.1 % 64) (nI q), upd s.2.2 q (s.2.2 q + 1)) else s
theorem ca_st_t {w : Nat → Bool} {q : Nat} {s : Nat × (Nat → Int32) × (Nat → Int32)} (h : w q = true) : ca_st w q s = (s.1 + 1, upd s.2.1 (s.1 % 64) (nI q), upd s.2.2 q (s.2.2 q + 1)) := if_pos h
theorem ca_st_f {w : Nat → Bool} {q : Nat} {s : Nat × (Nat → Int32) × (Nat → Int32)} (h : w q = false) : ca_st w q s = s := if_neg (by rw [h]; decide)
theorem ca_st_le (w : Nat → Bool) (q : Nat) (s : Nat × (Nat → Int32) × (Nat → Int32)) : (ca_st w q s).1 ≤ s.1 + 1 := by
  cases e : w q with
  | false => rw [ca_st_f e]; omega
  | true => rw [ca_st_t e]; exact Nat.le_refl _
/-- m pieces from q on -/
def ca_gu (w : Nat → Bool) : Nat → Nat → Nat × (Nat → Int32) × (Nat → Int32) → Nat × (Nat → Int32) × (Nat → Int32)
  | 0, _, s => s
  | m + 1, q, s => ca_gu w m (q + 1) (ca_st w q s)
/-- the pieces below m, from the top down -/
def ca_gd (w : Nat → Bool) : Nat → Nat × (Nat → Int32) × (Nat → Int32) → Nat × (Nat → Int32) × (Nat → Int32)
  | 0, s => s
  | m + 1, s => ca_gd w m (ca_st w m s)
theorem ca_gu_le (w : Nat → Bool) : ∀ (m q : Nat) (s : Nat × (Nat → Int32) × (Nat → Int32)), (ca_gu w m q s).1 ≤ s.1 + m := by
  intro m
  induction m with
  | zero => intro q s; exact Nat.le_refl _
  | succ m ih =>
    intro q s
    have h1 := ih (q + 1) (ca_st w q s)
    have h2 := ca_st_le w q s
    show (ca_gu w m (q + 1) (ca_st w q s)).1 ≤ s.1 + (m + 1)
    omega
theorem ca_gd_le (w : Nat → Bool) : ∀ (m : Nat) (s : Nat × (Nat → Int32) × (Nat → Int32)), (ca_gd w m s).1 ≤ s.1 + m := by
  intro m
  induction m with
  | zero => intro s; exact Nat.le_refl _
  | succ m ih =>
    intro s
    have h1 := ih (ca_st w m s)
    have h2 := ca_st_le w m s
    show (ca_gd w m (ca_st w m s)).1 ≤ s.1 + (m + 1)
    omega
theorem ca_63 {g : Nat} (h : g < 2 ^ 31) : nI g &&& 63 = nI (g % 64) := pk_andN (by omega) 6 (by decide)
theorem ca_r64 {g : Nat} (h : g < 2 ^ 31) : nI g - nI g / 64 * 64 = nI (g % 64) := pk_rem (d := 64) h (by decide) (by decide)
theorem ca_i1 (x y : Int32) : x - y + 1 = x + 1 - y := by
  rw [Int32.sub_eq_add_neg, Int32.sub_eq_add_neg, Int32.add_assoc, Int32.add_comm (-y), ← Int32.add_assoc]
theorem cx_give {post : SX → Prop} {g q : Nat} (hg : g < 2 ^ 31) (hq : q < 6) (hp : post (fc, ft, fh, fp, nI (g + 1), pa, cl, nm, mk, st, dk, da, pk, ag, pt, ti, upd cn q (cn q + 1), upd li (g % 64) (nI q), se)) : wpX_give post (fc, ft, fh, fp, nI g, pa, cl, nm, mk, st, dk, da, pk, ag, pt, ti, cn, li, se) (nI q) := by
  have hm : g % 64 < 64 := Nat.mod_lt _ (by decide)
  have hq6 : vp_in (nI q) 6 := vp_in_nI hq (by decide)
  have hcq : (nI q).toNatClampNeg = q := nI_clamp (by omega)
  unfold wpX_give
  exact ⟨by rw [ca_63 hg]; exact vp_in_nI hm (by decide), nm_r (e' := upd li (g % 64) (nI q)) (by rw [ca_63 hg, nI_clamp (by omega)]) (nm_r (nI_1 g) ⟨hq6, hq6, nm_r (e' := upd cn q (cn q + 1)) (by rw [hcq]) hp⟩)⟩
theorem cy_giveIf {post : Int32 → SY → Prop} {q c g : Nat} {tm : Int32} {w : Bool} (hP : ca_Par pa) (hC : ca_Cls cl) (hS : ca_Stk st) (hq : q < 6) (hpc : ca_pc pk ag pt q) (hc : c < 20) (hg : g < 2 ^ 31)
    (hw : w = (decide (ti q = tm) && ca_val (ca_tr pa cl nm mk st) pk ag pt q c))
    (h0 : w = false → ∀ ty tx px, post 0 (nI (c + 1), ft, fh, fp, nI g, ty, pa, cl, nm, mk, st, dk, da, pt, ti, cn, pk, ag, li, tx, px))
    (h1 : w = true → ∀ ty tx px, post 1 (nI (c + 1), ft, fh, fp, nI (g + 1), ty, pa, cl, nm, mk, st, dk, da, pt, ti, upd cn q (cn q + 1), pk, ag, upd li (g % 64) (nI q), tx, px)) :
    wpY_giveIf post (nI (c + 1), ft, fh, fp, nI g, tp, pa, cl, nm, mk, st, dk, da, pt, ti, cn, pk, ag, li, tr, pr) (nI q) tm := by
  have hm : g % 64 < 64 := Nat.mod_lt _ (by decide)
  have hq6 : vp_in (nI q) 6 := vp_in_nI hq (by decide)
  have hcq : (nI q).toNatClampNeg = q := nI_clamp (by omega)
  unfold wpY_giveIf
  refine ⟨hq6, ?_⟩
  rw [hcq, nI_pred c]
  by_cases ht : ti q = tm
  · rw [decide_eq_true ht, Bool.true_and] at hw
    refine br_t ht (cy_val hP hC hS hq hpc hc (fun ty tx px => ca_if (fun e => h0 (hw.trans e) ty tx px) (fun e => ⟨by decide, ?_⟩)))
    exact ⟨by rw [ca_r64 hg]; exact vp_in_nI hm (by decide), nm_r (e' := upd li (g % 64) (nI q)) (by rw [ca_r64 hg, nI_clamp (by omega)]) (nm_r (nI_1 g) ⟨hq6, hq6, nm_e (h1 (hw.trans e) ty tx px)⟩)⟩
  · rw [decide_eq_false ht, Bool.false_and] at hw
    exact br_f ht (h0 hw _ _ _)
theorem cx_callL {post : Int32 → SX → Prop} {w : Nat → Bool} {c p : Nat} {x2 : Int32} (hP : ca_Par pa) (hC : ca_Cls cl) (hS : ca_Stk st) (hp6 : p ≤ 6) (hc : c < 20) (hpc : ∀ q, q < p → ca_pc pk ag pt q) (hw : ∀ q, q < p → w q = (decide (ti q = 0) && ca_val (ca_tr pa cl nm mk st) pk ag pt q c)) :
    ∀ (m q g : Nat) (li cn se : Nat → Int32), q + m = p → g + m < 2 ^ 31 → (∀ sx, post (nI (ca_gu w m q (g, li, cn)).1 - x2) (nI (c + 1), ft, fh, nI p, nI (ca_gu w m q (g, li, cn)).1, pa, cl, nm, mk, st, dk, da, pk, ag, pt, ti, (ca_gu w m q (g, li, cn)).2.2, (ca_gu w m q (g, li, cn)).2.1, sx)) → wX_call_49 post x2 (m + 1) (nI q) (nI (c + 1)) ft fh (nI p) (nI g) pa cl nm mk st dk da pk ag pt ti cn li se := by
  intro m
  induction m with
  | zero =>
    intro q g li cn se e hg hp
    exact br_t (nI_le (by omega) (by omega)) (hp se)
  | succ m ih =>
    intro q g li cn se e hg hp
    have hwq := hw q (by omega)
    refine br_f (nI_ge (by omega) (by omega)) (cx_val hP hC hS (by omega) (hpc q (by omega)) (by omega) (fun r sx hr => ⟨vp_in_nI (by omega) (by decide), ?_⟩))
    rw [nI_clamp (show q < 2 ^ 31 by omega)]
    have hs : ca_gu w (m + 1) q (g, li, cn) = ca_gu w m (q + 1) (ca_st w q (g, li, cn)) := rfl
    rw [hs] at hp
    by_cases ht : ti q = 0
    · rw [decide_eq_true ht, Bool.true_and, ← hr c (by omega)] at hwq
      refine br_t ht (cx_has r (by omega) (nI_pred c) (ca_if (fun z => nm_r (nI_1 q) (ih (q + 1) g li cn sx (by omega) (by omega) ?_)) (fun z => cx_give (by omega) (by omega) (nm_r (nI_1 q) (ih (q + 1) (g + 1) _ _ sx (by omega) (by omega) ?_)))))
      · rw [ca_st_f (hwq.trans z)] at hp
        exact hp
      · rw [ca_st_t (hwq.trans z)] at hp
        exact hp
    · rw [decide_eq_false ht, Bool.false_and] at hwq
      rw [ca_st_f hwq] at hp
      exact br_f ht (nm_r (nI_1 q) (ih (q + 1) g li cn sx (by omega) (by omega) hp))
theorem cy_callL {post : Int32 → SY → Prop} {w : Nat → Bool} {c p : Nat} {x0 : Int32} (hP : ca_Par pa) (hC : ca_Cls cl) (hS : ca_Stk st) (hp6 : p ≤ 6) (hc : c < 20) (hpc : ∀ q, q < p → ca_pc pk ag pt q) (hw : ∀ q, q < p → w q = (decide (ti q = 0) && ca_val (ca_tr pa cl nm mk st) pk ag pt q c)) :
    ∀ (m q g : Nat) (x tp : Int32) (li cn tr pr : Nat → Int32), q + m = p → g + m < 2 ^ 31 → x = nI g - x0 → (∀ ty tx px, post (nI (ca_gu w m q (g, li, cn)).1 - x0) (nI (c + 1), ft, fh, nI p, nI (ca_gu w m q (g, li, cn)).1, ty, pa, cl, nm, mk, st, dk, da, pt, ti, (ca_gu w m q (g, li, cn)).2.2, pk, ag, (ca_gu w m q (g, li, cn)).2.1, tx, px)) → wY_call_48 post (m + 1) x (nI q) (nI (c + 1)) ft fh (nI p) (nI g) tp pa cl nm mk st dk da pt ti cn pk ag li tr pr := by
  intro m
  induction m with
  | zero =>
    intro q g x tp li cn tr pr e hg ex hp
    subst ex
    exact br_t (nI_le (by omega) (by omega)) (hp tp tr pr)
  | succ m ih =>
    intro q g x tp li cn tr pr e hg ex hp
    subst ex
    have hs : ca_gu w (m + 1) q (g, li, cn) = ca_gu w m (q + 1) (ca_st w q (g, li, cn)) := rfl
    rw [hs] at hp
    refine br_f (nI_ge (by omega) (by omega)) (cy_giveIf hP hC hS (by omega) (hpc q (by omega)) hc (by omega) (hw q (by omega)) (fun z ty tx px => ?_) (fun z ty tx px => ?_))
    · rw [ca_st_f z] at hp
      exact br_t rfl (nm_r (nI_1 q) (ih (q + 1) g _ ty li cn tx px (by omega) (by omega) rfl hp))
    · rw [ca_st_t z] at hp
      exact br_f (by decide) (nm_r (e' := nI (g + 1) - x0) (by rw [ca_i1, nI_1]) (nm_r (nI_1 q) (ih (q + 1) (g + 1) _ ty _ _ tx px (by omega) (by omega) rfl hp)))
theorem cx_backL {post : Int32 → SX → Prop} {w : Nat → Bool} {c p : Nat} {x2 : Int32} (hP : ca_Par pa) (hC : ca_Cls cl) (hS : ca_Stk st) (hp6 : p ≤ 6) (hc : c < 20) (hpc : ∀ q, q < p → ca_pc pk ag pt q) (hw : ∀ q, q < p → w q = (decide (ti q = 1) && ca_val (ca_tr pa cl nm mk st) pk ag pt q c)) :
    ∀ (m g : Nat) (li cn se : Nat → Int32), m ≤ p → g + m < 2 ^ 31 → (∀ sx, post (nI (ca_gd w m (g, li, cn)).1 - x2) (nI c, ft, fh, nI p, nI (ca_gd w m (g, li, cn)).1, pa, cl, nm, mk, st, dk, da, pk, ag, pt, ti, (ca_gd w m (g, li, cn)).2.2, (ca_gd w m (g, li, cn)).2.1, sx)) → wX_giveBack_21 post x2 (m + 1) (ca_dn m) (nI (c + 1)) ft fh (nI p) (nI g) pa cl nm mk st dk da pk ag pt ti cn li se := by
  intro m
  induction m with
  | zero =>
    intro g li cn se e hg hp
    exact br_t (by decide) (nm_r (nI_pred c) (hp se))
  | succ m ih =>
    intro g li cn se e hg hp
    have hwq := hw m (by omega)
    show wX_giveBack_21 post x2 (m + 1 + 1) (nI m) (nI (c + 1)) ft fh (nI p) (nI g) pa cl nm mk st dk da pk ag pt ti cn li se
    refine br_f (nI_pos (by omega)) (cx_val hP hC hS (by omega) (hpc m (by omega)) (by omega) (fun r sx hr => ⟨vp_in_nI (by omega) (by decide), ?_⟩))
    rw [nI_clamp (show m < 2 ^ 31 by omega)]
    have hs : ca_gd w (m + 1) (g, li, cn) = ca_gd w m (ca_st w m (g, li, cn)) := rfl
    rw [hs] at hp
    by_cases ht : ti m = 1
    · rw [decide_eq_true ht, Bool.true_and, ← hr c (by omega)] at hwq
      refine br_t ht (cx_has r (by omega) (nI_pred c) (ca_if (fun z => nm_r (ca_dn_p m) (ih g li cn sx (by omega) (by omega) ?_)) (fun z => cx_give (by omega) (by omega) (nm_r (ca_dn_p m) (ih (g + 1) _ _ sx (by omega) (by omega) ?_)))))
      · rw [ca_st_f (hwq.trans z)] at hp
        exact hp
      · rw [ca_st_t (hwq.trans z)] at hp
        exact hp
    · rw [decide_eq_false ht, Bool.false_and] at hwq
      rw [ca_st_f hwq] at hp
      exact br_f ht (nm_r (ca_dn_p m) (ih g li cn sx (by omega) (by omega) hp))
theorem cy_backL {post : Int32 → SY → Prop} {w : Nat → Bool} {c p : Nat} {x0 : Int32} (hP : ca_Par pa) (hC : ca_Cls cl) (hS : ca_Stk st) (hp6 : p ≤ 6) (hc : c < 20) (hpc : ∀ q, q < p → ca_pc pk ag pt q) (hw : ∀ q, q < p → w q = (decide (ti q = 1) && ca_val (ca_tr pa cl nm mk st) pk ag pt q c)) :
    ∀ (m g : Nat) (x tp : Int32) (li cn tr pr : Nat → Int32), m ≤ p → g + m < 2 ^ 31 → x = nI g - x0 → (∀ ty tx px, post (nI (ca_gd w m (g, li, cn)).1 - x0) (nI c, ft, fh, nI p, nI (ca_gd w m (g, li, cn)).1, ty, pa, cl, nm, mk, st, dk, da, pt, ti, (ca_gd w m (g, li, cn)).2.2, pk, ag, (ca_gd w m (g, li, cn)).2.1, tx, px)) → wY_giveBack_18 post (m + 1) x (ca_dn m) (nI (c + 1)) ft fh (nI p) (nI g) tp pa cl nm mk st dk da pt ti cn pk ag li tr pr := by
  intro m
  induction m with
  | zero =>
    intro g x tp li cn tr pr e hg ex hp
    subst ex
    exact br_t (by decide) (nm_r (nI_pred c) (hp tp tr pr))
  | succ m ih =>
    intro g x tp li cn tr pr e hg ex hp
    subst ex
    have hs : ca_gd w (m + 1) (g, li, cn) = ca_gd w m (ca_st w m (g, li, cn)) := rfl
    rw [hs] at hp
    show wY_giveBack_18 post (m + 1 + 1) (nI g - x0) (nI m) (nI (c + 1)) ft fh (nI p) (nI g) tp pa cl nm mk st dk da pt ti cn pk ag li tr pr
    refine br_f (nI_pos (by omega)) (cy_giveIf hP hC hS (by omega) (hpc m (by omega)) hc (by omega) (hw m (by omega)) (fun z ty tx px => ?_) (fun z ty tx px => ?_))
    · rw [ca_st_f z] at hp
      exact br_t rfl (nm_r (ca_dn_p m) (ih g _ ty li cn tx px (by omega) (by omega) rfl hp))
    · rw [ca_st_t z] at hp
      exact br_f (by decide) (nm_r (e' := nI (g + 1) - x0) (by rw [ca_i1, nI_1]) (nm_r (ca_dn_p m) (ih (g + 1) _ ty _ _ tx px (by omega) (by omega) rfl hp)))
/-- would: the set so far and the stack, n methods from m on -/
def ca_wo (T : (Nat → Int32) → Bool) (c : Nat) : Nat → Nat → Int32 × (Nat → Int32) → Int32 × (Nat → Int32)
  | 0, _, s => s
  | n + 1, m, s => ca_wo T c n (m + 1) ((if T (upd s.2 c (nI m)) = true then s.1 ||| ((1 : Int32) <<< (nI m &&& 31)) else s.1), upd s.2 c (nI m))
theorem ca_wo_stk (T : (Nat → Int32) → Bool) (c : Nat) : ∀ (n m : Nat) (s : Int32 × (Nat → Int32)), m + n = 16 → ca_Stk s.2 → ca_Stk (ca_wo T c n m s).2 := by
  intro n
  induction n with
  | zero => intro m s _ h; exact h
  | succ n ih =>
    intro m s e h
    exact ih (m + 1) _ (by omega) (ca_Stk_u h (by omega))
theorem cx_wouldL {post : Int32 → SX → Prop} {c q : Nat} (hP : ca_Par pa) (hC : ca_Cls cl) (hq : q < 6) (hpc : ca_pc pk ag pt q) (hc : c < 20) :
    ∀ (n m : Nat) (x : Int32) (st se : Nat → Int32), m + n = 16 → ca_Stk st → (∀ sx, post (ca_wo (fun S => ca_val (ca_tr pa cl nm mk S) pk ag pt q c) c n m (x, st)).1 (nI c, ft, fh, fp, fg, pa, cl, nm, mk, (ca_wo (fun S => ca_val (ca_tr pa cl nm mk S) pk ag pt q c) c n m (x, st)).2, dk, da, pk, ag, pt, ti, cn, li, sx)) → wX_would_26 post (nI q) (n + 1) x (nI m) (nI c) ft fh fp fg pa cl nm mk st dk da pk ag pt ti cn li se := by
  intro n
  induction n with
  | zero =>
    intro m x st se e hS hp
    exact br_t (nI_le (a := 16) (by omega) (by omega)) (hp se)
  | succ n ih =>
    intro m x st se e hS hp
    have hS' : ca_Stk (upd st c (nI m)) := ca_Stk_u hS (by omega)
    have hs : ca_wo (fun S => ca_val (ca_tr pa cl nm mk S) pk ag pt q c) c (n + 1) m (x, st) = ca_wo (fun S => ca_val (ca_tr pa cl nm mk S) pk ag pt q c) c n (m + 1) ((if ca_val (ca_tr pa cl nm mk (upd st c (nI m))) pk ag pt q c = true then x ||| ((1 : Int32) <<< (nI m &&& 31)) else x), upd st c (nI m)) := rfl
    rw [hs] at hp
    refine br_f (nI_ge (b := 16) (by omega) (by decide)) ⟨vp_in_nI hc (by decide), nm_r (e' := upd st c (nI m)) (by rw [nI_clamp (by omega)]) ?_⟩
    rw [nI_1 c]
    refine cx_val hP hC hS' hq hpc (by omega) (fun r sx hr => cx_has r (by omega) rfl (ca_if (fun z => nm_r (nI_1 m) (ih (m + 1) x _ sx (by omega) hS' ?_)) (fun z => nm_e (nm_r (nI_1 m) (ih (m + 1) _ _ sx (by omega) hS' ?_)))))
    · rw [if_neg (by rw [← hr c (by omega), z]; decide)] at hp
      exact hp
    · rw [if_pos (by rw [← hr c (by omega), z])] at hp
      exact hp
theorem cy_wouldL {post : Int32 → SY → Prop} {c q : Nat} (hP : ca_Par pa) (hC : ca_Cls cl) (hq : q < 6) (hpc : ca_pc pk ag pt q) (hc : c < 20) :
    ∀ (n m : Nat) (x tp : Int32) (st tr pr : Nat → Int32), m + n = 16 → ca_Stk st → (∀ ty tx px, post (ca_wo (fun S => ca_val (ca_tr pa cl nm mk S) pk ag pt q c) c n m (x, st)).1 (nI c, ft, fh, fp, fg, ty, pa, cl, nm, mk, (ca_wo (fun S => ca_val (ca_tr pa cl nm mk S) pk ag pt q c) c n m (x, st)).2, dk, da, pt, ti, cn, pk, ag, li, tx, px)) → wY_would_26 post (nI q) (n + 1) x (nI m) (nI c) ft fh fp fg tp pa cl nm mk st dk da pt ti cn pk ag li tr pr := by
  intro n
  induction n with
  | zero =>
    intro m x tp st tr pr e hS hp
    exact br_t (nI_le (a := 16) (by omega) (by omega)) (hp tp tr pr)
  | succ n ih =>
    intro m x tp st tr pr e hS hp
    have hS' : ca_Stk (upd st c (nI m)) := ca_Stk_u hS (by omega)
    have hs : ca_wo (fun S => ca_val (ca_tr pa cl nm mk S) pk ag pt q c) c (n + 1) m (x, st) = ca_wo (fun S => ca_val (ca_tr pa cl nm mk S) pk ag pt q c) c n (m + 1) ((if ca_val (ca_tr pa cl nm mk (upd st c (nI m))) pk ag pt q c = true then x ||| ((1 : Int32) <<< (nI m &&& 31)) else x), upd st c (nI m)) := rfl
    rw [hs] at hp
    refine br_f (nI_ge (b := 16) (by omega) (by decide)) ⟨vp_in_nI hc (by decide), nm_r (e' := upd st c (nI m)) (by rw [nI_clamp (by omega)]) ?_⟩
    refine cy_val hP hC hS' hq hpc hc (fun ty tx px => ca_if (fun z => nm_r (nI_1 m) (ih (m + 1) x ty _ tx px (by omega) hS' ?_)) (fun z => nm_e (nm_r (nI_1 m) (ih (m + 1) _ ty _ tx px (by omega) hS' ?_))))
    · rw [if_neg (by rw [z]; decide)] at hp
      exact hp
    · rw [if_pos z] at hp
      exact hp
end GV
end
section
/-! the relation -/
def ca_Inv (k c t p g : Nat) (pa cl st dk da pk ag pt : Nat → Int32) : Prop :=
  c ≤ 20 ∧ t ≤ 16 ∧ p ≤ 6 ∧ g ≤ 2 * k ∧ ca_Par pa ∧ ca_Cls cl ∧ ca_Stk st ∧ ca_wf dk da t ∧ ∀ q, q < p → ca_pc pk ag pt q
/-- both keep the same tables, stack, draft, pieces, counts and list; X's sets and Y's top, truth, parts are scratch -/
def i_Rel (k : Nat) (u : SX) (v : SY) : Prop :=
  ∃ (c t p g : Nat) (pa cl nm mk st dk da pk ag pt ti cn li se : Nat → Int32) (tp : Int32) (tr pr : Nat → Int32),
    u = (nI c, nI t, nI (ca_h dk t), nI p, nI g, pa, cl, nm, mk, st, dk, da, pk, ag, pt, ti, cn, li, se) ∧ v = (nI c, nI t, nI (ca_h dk t), nI p, nI g, tp, pa, cl, nm, mk, st, dk, da, pt, ti, cn, pk, ag, li, tr, pr) ∧ ca_Inv k c t p g pa cl st dk da pk ag pt
section RL
variable {fc ft fh fp fg tp : Int32} {pa cl nm mk st dk da pk ag pt ti cn li se tr pr : Nat → Int32}
theorem ca_rel {k : Nat} (c t p g : Nat) (H : ca_Inv k c t p g pa cl st dk da pk ag pt) : i_Rel k (nI c, nI t, nI (ca_h dk t), nI p, nI g, pa, cl, nm, mk, st, dk, da, pk, ag, pt, ti, cn, li, se) (nI c, nI t, nI (ca_h dk t), nI p, nI g, tp, pa, cl, nm, mk, st, dk, da, pt, ti, cn, pk, ag, li, tr, pr) :=
  ⟨c, t, p, g, pa, cl, nm, mk, st, dk, da, pk, ag, pt, ti, cn, li, se, tp, tr, pr, rfl, rfl, H⟩
theorem i_up {k : Nat} {u : SX} {v : SY} (h : i_Rel k u v) : i_Rel (k + 5) u v := by
  obtain ⟨c, t, p, g, pa, cl, nm, mk, st, dk, da, pk, ag, pt, ti, cn, li, se, tp, tr, pr, rfl, rfl, hc, ht, hp6, hg, H⟩ := h
  exact ca_rel c t p g ⟨hc, ht, hp6, by omega, H⟩
def ca_in : Nat → Nat → Int32
  | 0 => fun _ => 0
  | n + 1 => upd (ca_in n) n (-1)
theorem ca_in_8 : ∀ m, m < 8 → ca_in 8 m = -1 := by decide +kernel
theorem cx_init {post : SX → Prop} : ∀ n j : Nat, j + n = 8 → post (fc, ft, fh, fp, fg, ca_in 8, cl, nm, mk, st, dk, da, pk, ag, pt, ti, cn, li, se) → wX_init_118 post fc ft fh fp fg (n + 1) (nI j) (ca_in j) cl nm mk st dk da pk ag pt ti cn li se := by
  intro n
  induction n with
  | zero =>
    intro j e hp
    have e' : j = 8 := e
    subst e'
    exact br_t (Int32.le_refl _) hp
  | succ n ih =>
    intro j e hp
    exact br_f (nI_ge (b := 8) (by omega) (by decide)) ⟨vp_in_nI (by omega) (by decide), nm_r (e' := ca_in (j + 1)) (by rw [nI_clamp (by omega)]; rfl) (nm_r (nI_1 j) (ih (j + 1) (by omega) hp))⟩
theorem cy_init {post : SY → Prop} : ∀ n j : Nat, j + n = 8 → post (fc, ft, fh, fp, fg, tp, ca_in 8, cl, nm, mk, st, dk, da, pt, ti, cn, pk, ag, li, tr, pr) → wY_init_127 post fc ft fh fp fg tp (n + 1) (nI j) (ca_in j) cl nm mk st dk da pt ti cn pk ag li tr pr := by
  intro n
  induction n with
  | zero =>
    intro j e hp
    have e' : j = 8 := e
    subst e'
    exact br_t (Int32.le_refl _) hp
  | succ n ih =>
    intro j e hp
    exact br_f (nI_ge (b := 8) (by omega) (by decide)) ⟨vp_in_nI (by omega) (by decide), nm_r (e' := ca_in (j + 1)) (by rw [nI_clamp (by omega)]; rfl) (nm_r (nI_1 j) (ih (j + 1) (by omega) hp))⟩
theorem i_vc0 : wpX_init (fun u => wpY_init (fun v => i_Rel 0 u v)) := by
  unfold wpX_init
  refine ⟨9, cx_init 8 0 rfl ?_⟩
  unfold wpY_init
  refine ⟨9, cy_init 8 0 rfl ?_⟩
  exact ca_rel 0 0 0 0 ⟨by omega, by omega, by omega, by omega, fun m hm => Or.inl (ca_in_8 m hm), fun _ => ⟨0, by omega, rfl⟩, fun _ => ⟨0, by omega, rfl⟩, fun t ht => absurd ht (Nat.not_lt_zero t), fun q hq => absurd hq (Nat.not_lt_zero q)⟩
end RL
end
section
/-! the methods that walk no formula -/
section V1
variable {fc ft fh fp fg tp : Int32} {pa cl nm mk st dk da pk ag pt ti cn li se tr pr : Nat → Int32}
theorem i_vc_derive {k : Nat} {u : SX} {v : SY} (I : i_Rel k u v) (hk : k + 5 ≤ 2560) (v1 : Int32) (v2 : Int32) : wpX_derive (fun r u' => wpY_derive (fun r' v' => r' = r ∧ i_Rel (k + 5) u' v') v v1 v2) u v1 v2 := by
  have R := i_up I
  obtain ⟨c, t, p, g, pa, cl, nm, mk, st, dk, da, pk, ag, pt, ti, cn, li, se, tp, tr, pr, rfl, rfl, hc, ht, hp6, hg, hP, hC, hS, hD, hQ⟩ := I
  unfold wpX_derive wpY_derive
  by_cases a1 : v1 < 0
  · exact br_t a1 (br_t a1 ⟨rfl, R⟩)
  by_cases a2 : 8 ≤ v1
  · exact br_f a1 (br_t a2 (br_f a1 (br_t ((ca_nlt (by decide) v1).mp a2) ⟨rfl, R⟩)))
  have a2' : ¬ 7 < v1 := fun z => a2 ((ca_nlt (by decide) v1).mpr z)
  by_cases a3 : v2 < -1
  · exact br_f a1 (br_f a2 (br_t a3 (br_f a1 (br_f a2' (br_t a3 ⟨rfl, R⟩)))))
  by_cases a4 : v2 < v1
  · by_cases a5 : nI c ≤ 0
    · obtain ⟨d, hd, rfl⟩ := ca_rng 8 (by decide) a1 a2
      have hin : vp_in (nI d) 8 := vp_in_nI hd (by decide)
      have hcl : (nI d).toNatClampNeg = d := nI_clamp (by omega)
      have hP' : ca_Par (upd pa d v2) := by
        intro m hm
        by_cases e : m = d
        · subst e
          rw [pk_us]
          by_cases z : v2 < 0
          · exact Or.inl (ca_neg1 a3 z)
          · obtain ⟨q, hq, rfl⟩ := nI_of z
            exact Or.inr ⟨q, (nI_ltI hq (by omega)).mp a4, rfl⟩
        · rw [pk_un e]
          exact hP m hm
      refine br_f a1 (br_f a2 (br_f a3 (br_t a4 (br_t a5 ⟨hin, nm_e ⟨hin, nm_r (e' := upd pa d v2) (by rw [hcl]) (br_f a1 (br_f a2' (br_f a3 (br_t a4 (br_t a5 ⟨hin, nm_e ⟨hin, nm_r (e' := upd pa d v2) (by rw [hcl]) ⟨rfl, ?_⟩⟩⟩)))))⟩⟩))))
      exact ca_rel c t p g ⟨hc, ht, hp6, by omega, hP', hC, hS, hD, hQ⟩
    · exact br_f a1 (br_f a2 (br_f a3 (br_t a4 (br_f a5 (br_f a1 (br_f a2' (br_f a3 (br_t a4 (br_f a5 ⟨rfl, R⟩)))))))))
  · exact br_f a1 (br_f a2 (br_f a3 (br_f a4 (br_f a1 (br_f a2' (br_f a3 (br_f a4 ⟨rfl, R⟩)))))))
theorem i_vc_define {k : Nat} {u : SX} {v : SY} (I : i_Rel k u v) (hk : k + 5 ≤ 2560) (v1 : Int32) (v2 : Int32) (v3 : Int32) (v4 : Int32) : wpX_define (fun r u' => wpY_define (fun r' v' => r' = r ∧ i_Rel (k + 5) u' v') v v1 v2 v3 v4) u v1 v2 v3 v4 := by
  have R := i_up I
  obtain ⟨c, t, p, g, pa, cl, nm, mk, st, dk, da, pk, ag, pt, ti, cn, li, se, tp, tr, pr, rfl, rfl, hc, ht, hp6, hg, hP, hC, hS, hD, hQ⟩ := I
  unfold wpX_define wpY_define
  refine cx_isMethod v1 (fun a => br_t rfl (br_t a ⟨rfl, R⟩)) (fun a b => br_t rfl (br_f a (br_f ((ca_nle (by decide) v1).mp b) ⟨rfl, R⟩))) (fun m hm e => br_f (by decide) ?_)
  subst e
  have a1 : ¬ nI m < 0 := nI_pos (by omega)
  have a1' : nI m ≤ 15 := nI_le (b := 15) (by omega) (by decide)
  by_cases a2 : v2 < 0
  · exact br_t a2 (br_f a1 (br_t a1' (br_t a2 ⟨rfl, R⟩)))
  by_cases a3 : 8 ≤ v2
  · exact br_f a2 (br_t a3 (br_f a1 (br_t a1' (br_f a2 (br_t ((ca_nlt (by decide) v2).mp a3) ⟨rfl, R⟩)))))
  have a3' : ¬ 7 < v2 := fun z => a3 ((ca_nlt (by decide) v2).mpr z)
  by_cases a4 : v3 < 0
  · exact br_f a2 (br_f a3 (br_t a4 (br_f a1 (br_t a1' (br_f a2 (br_f a3' (br_t a4 ⟨rfl, R⟩)))))))
  by_cases a5 : 10 ≤ v3
  · exact br_f a2 (br_f a3 (br_f a4 (br_t a5 (br_f a1 (br_t a1' (br_f a2 (br_f a3' (br_f a4 (br_t ((ca_nlt (by decide) v3).mp a5) ⟨rfl, R⟩)))))))))
  have a5' : ¬ 9 < v3 := fun z => a5 ((ca_nlt (by decide) v3).mpr z)
  by_cases a6 : v4 < 0
  · exact br_f a2 (br_f a3 (br_f a4 (br_f a5 (br_t a6 (br_f a1 (br_t a1' (br_f a2 (br_f a3' (br_f a4 (br_f a5' (br_t a6 ⟨rfl, R⟩)))))))))))
  by_cases a7 : v4 < 16
  · have a7' : v4 ≤ 15 := Decidable.byContradiction fun z => Int32.not_le.mpr a7 ((ca_nle (by decide) v4).mpr z)
    by_cases a8 : nI c ≤ 0
    · have hin : vp_in (nI m) 16 := vp_in_nI hm (by decide)
      have hcl : (nI m).toNatClampNeg = m := nI_clamp (by omega)
      obtain ⟨q, hq, rfl⟩ := ca_rng 8 (by decide) a2 a3
      refine br_f a2 (br_f a3 (br_f a4 (br_f a5 (br_f a6 (br_t a7 (br_t a8 ⟨hin, nm_e ⟨hin, nm_e ⟨hin, nm_e (br_f a1 (br_t a1' (br_f a2 (br_f a3' (br_f a4 (br_f a5' (br_f a6 (br_t a7' (br_t a8 ⟨hin, nm_e ⟨hin, nm_e ⟨hin, nm_e ⟨rfl, ?_⟩⟩⟩⟩)))))))))⟩⟩⟩))))))
      rw [hcl]
      exact ca_rel c t p g ⟨hc, ht, hp6, by omega, hP, ca_Cls_u hC hq, hS, hD, hQ⟩
    · exact br_f a2 (br_f a3 (br_f a4 (br_f a5 (br_f a6 (br_t a7 (br_f a8 (br_f a1 (br_t a1' (br_f a2 (br_f a3' (br_f a4 (br_f a5' (br_f a6 (br_t a7' (br_f a8 ⟨rfl, R⟩)))))))))))))))
  · have a7' : ¬ v4 ≤ 15 := (ca_nle (by decide) v4).mp (Int32.not_lt.mp a7)
    exact br_f a2 (br_f a3 (br_f a4 (br_f a5 (br_f a6 (br_f a7 (br_f a1 (br_t a1' (br_f a2 (br_f a3' (br_f a4 (br_f a5' (br_f a6 (br_f a7' ⟨rfl, R⟩)))))))))))))
/-- is a in the range of a token's kind -/
def ca_ok (k a : Int32) : Bool :=
  if k = 0 then decide (0 ≤ a) && decide (a ≤ 9) else if k = 1 then decide (0 ≤ a) && decide (a ≤ 7) else if k = 2 then decide (0 ≤ a) && decide (a ≤ 7)
  else if k = 3 then decide (0 ≤ a) && decide (a ≤ 3) else if k = 4 then decide (0 ≤ a) && decide (a ≤ 7) else if k = 5 then decide (0 ≤ a) && decide (a ≤ 20)
  else if k = 9 then decide (1 ≤ a) && decide (a ≤ 5) else true
theorem ca_rg {post : Int32 → Prop} {a lo hi : Int32} (hp : post (ca_b (decide (lo ≤ a) && decide (a ≤ hi)))) : (a < lo → post 0) ∧ (¬ a < lo → ((hi < a → post 0) ∧ (¬ hi < a → post 1))) := by
  by_cases h : a < lo
  · rw [decide_eq_false (Int32.not_le.mpr h), Bool.false_and] at hp
    exact br_t h hp
  · rw [decide_eq_true (Int32.not_lt.mp h), Bool.true_and] at hp
    exact br_f h (ca_decl hp)
theorem ca_rg1 {post : Int32 → Prop} {a lo hi hi1 : Int32} (h1 : hi1.toInt = hi.toInt + 1) (hp : post (ca_b (decide (lo ≤ a) && decide (a ≤ hi)))) : (a < lo → post 0) ∧ (¬ a < lo → ((hi1 ≤ a → post 0) ∧ (¬ hi1 ≤ a → post 1))) := by
  have z := ca_rg hp
  rw [show (hi1 ≤ a) = (hi < a) from propext (ca_nlt h1 a)]
  exact z
theorem cx_arg {post : Int32 → Prop} {k a : Int32} (hk : k = 0 ∨ k = 1 ∨ k = 2 ∨ k = 3 ∨ k = 4 ∨ k = 5 ∨ k = 6 ∨ k = 7 ∨ k = 8 ∨ k = 9 ∨ k = 10 ∨ k = 11 ∨ k = 12 ∨ k = 13) (hp : post (ca_b (ca_ok k a))) : wpX_isArgument post (fc, ft, fh, fp, fg, pa, cl, nm, mk, st, dk, da, pk, ag, pt, ti, cn, li, se) k a := by
  unfold wpX_isArgument
  rcases hk with rfl | rfl | rfl | rfl | rfl | rfl | rfl | rfl | rfl | rfl | rfl | rfl | rfl | rfl
  · exact br_f (by decide) (br_f (by decide) (br_t rfl (ca_rg1 (hi := 9) (by decide) hp)))
  · exact br_f (by decide) (br_f (by decide) (br_f (by decide) (br_t rfl (ca_rg1 (hi := 7) (by decide) hp))))
  · exact br_f (by decide) (br_f (by decide) (br_f (by decide) (br_f (by decide) (br_t rfl (ca_rg1 (hi := 7) (by decide) hp)))))
  · exact br_f (by decide) (br_f (by decide) (br_f (by decide) (br_f (by decide) (br_f (by decide) (br_t rfl (ca_rg1 (hi := 3) (by decide) hp))))))
  · exact br_f (by decide) (br_f (by decide) (br_f (by decide) (br_f (by decide) (br_f (by decide) (br_f (by decide) (br_t rfl (ca_rg1 (hi := 7) (by decide) hp)))))))
  · exact br_f (by decide) (br_f (by decide) (br_f (by decide) (br_f (by decide) (br_f (by decide) (br_f (by decide) (br_f (by decide) (br_t rfl (ca_rg (hi := 20) hp))))))))
  · exact br_f (by decide) (br_f (by decide) (br_f (by decide) (br_f (by decide) (br_f (by decide) (br_f (by decide) (br_f (by decide) (br_f (by decide) (br_t rfl hp))))))))
  · exact br_f (by decide) (br_f (by decide) (br_f (by decide) (br_f (by decide) (br_f (by decide) (br_f (by decide) (br_f (by decide) (br_f (by decide) (br_f (by decide) (br_t rfl hp)))))))))
  · exact br_f (by decide) (br_f (by decide) (br_f (by decide) (br_f (by decide) (br_f (by decide) (br_f (by decide) (br_f (by decide) (br_f (by decide) (br_f (by decide) (br_f (by decide) (br_t rfl hp))))))))))
  · exact br_f (by decide) (br_f (by decide) (br_f (by decide) (br_f (by decide) (br_f (by decide) (br_f (by decide) (br_f (by decide) (br_f (by decide) (br_f (by decide) (br_f (by decide) (br_f (by decide) (br_t rfl (ca_rg (hi := 5) hp))))))))))))
  · exact br_f (by decide) (br_t (by decide) hp)
  · exact br_f (by decide) (br_t (by decide) hp)
  · exact br_f (by decide) (br_t (by decide) hp)
  · exact br_f (by decide) (br_t (by decide) hp)
theorem cy_tok {post : Int32 → Prop} {k a : Int32} (hk : k = 0 ∨ k = 1 ∨ k = 2 ∨ k = 3 ∨ k = 4 ∨ k = 5 ∨ k = 6 ∨ k = 7 ∨ k = 8 ∨ k = 9 ∨ k = 10 ∨ k = 11 ∨ k = 12 ∨ k = 13) (hp : post (ca_b (ca_ok k a))) : wpY_isToken post (fc, ft, fh, fp, fg, tp, pa, cl, nm, mk, st, dk, da, pt, ti, cn, pk, ag, li, tr, pr) k a := by
  unfold wpY_isToken
  have most : ∀ (lo hi : Int32) (x1 : Int32), (∀ Q : Int32 → Prop, Q hi → wpY_most Q (fc, ft, fh, fp, fg, tp, pa, cl, nm, mk, st, dk, da, pt, ti, cn, pk, ag, li, tr, pr) x1) → post (ca_b (decide (lo ≤ a) && decide (a ≤ hi))) → wY_isToken_36 post x1 a lo a fc ft fh fp fg tp pa cl nm mk st dk da pt ti cn pk ag li tr pr := by
    intro lo hi x1 hm hq
    have z := ca_rg hq
    exact ⟨z.1, fun h => hm _ (z.2 h)⟩
  rcases hk with rfl | rfl | rfl | rfl | rfl | rfl | rfl | rfl | rfl | rfl | rfl | rfl | rfl | rfl
  · exact br_f (by decide) (br_t (by decide) (br_t (by decide) (br_f (by decide) (most 0 9 0 (fun Q h => br_t rfl h) hp))))
  · exact br_f (by decide) (br_t (by decide) (br_t (by decide) (br_f (by decide) (most 0 7 1 (fun Q h => br_f (by decide) (br_t rfl h)) hp))))
  · exact br_f (by decide) (br_t (by decide) (br_t (by decide) (br_f (by decide) (most 0 7 2 (fun Q h => br_f (by decide) (br_f (by decide) (br_t rfl h))) hp))))
  · exact br_f (by decide) (br_t (by decide) (br_t (by decide) (br_f (by decide) (most 0 3 3 (fun Q h => br_f (by decide) (br_f (by decide) (br_f (by decide) (br_f (by decide) (br_t rfl h))))) hp))))
  · exact br_f (by decide) (br_t (by decide) (br_t (by decide) (br_f (by decide) (most 0 7 4 (fun Q h => br_f (by decide) (br_f (by decide) (br_f (by decide) (br_t rfl h)))) hp))))
  · exact br_f (by decide) (br_t (by decide) (br_t (by decide) (br_f (by decide) (most 0 20 5 (fun Q h => br_f (by decide) (br_f (by decide) (br_f (by decide) (br_f (by decide) (br_f (by decide) (br_t rfl h)))))) hp))))
  · exact br_f (by decide) (br_t (by decide) (br_f (by decide) (br_f (by decide) hp)))
  · exact br_f (by decide) (br_t (by decide) (br_f (by decide) (br_f (by decide) hp)))
  · exact br_f (by decide) (br_t (by decide) (br_f (by decide) (br_f (by decide) hp)))
  · exact br_f (by decide) (br_t (by decide) (br_f (by decide) (br_t rfl (br_t rfl (most 1 5 9 (fun Q h => br_f (by decide) (br_f (by decide) (br_f (by decide) (br_f (by decide) (br_f (by decide) (br_f (by decide) h)))))) hp)))))
  · exact br_f (by decide) (br_t (by decide) (br_f (by decide) (br_f (by decide) hp)))
  · exact br_f (by decide) (br_t (by decide) (br_f (by decide) (br_f (by decide) hp)))
  · exact br_f (by decide) (br_t (by decide) (br_f (by decide) (br_f (by decide) hp)))
  · exact br_f (by decide) (br_t (by decide) (br_f (by decide) (br_f (by decide) hp)))
/-- the draft with one more token -/
theorem ca_wf_s {K A : Nat → Int32} {t : Nat} {k a : Int32} (h : ca_wf K A t) (hd : ∃ d, d < 14 ∧ k = nI d) (ha : (k = 2 ∨ k = 4) → ∃ o, o < 8 ∧ a = nI o) (htk : ca_tk k ≤ ca_h K t) (h6 : ca_h K t - ca_tk k + 1 ≤ 6) : ca_wf (upd K t k) (upd A t a) (t + 1) ∧ ca_h (upd K t k) (t + 1) = ca_h K t - ca_tk k + 1 := by
  have hh : ca_h (upd K t k) t = ca_h K t := ca_h_congr (fun s hs => pk_un (by omega))
  have e : ca_h (upd K t k) (t + 1) = ca_h K t - ca_tk k + 1 := by
    show ca_h (upd K t k) t - ca_tk (upd K t k t) + 1 = _
    rw [hh, pk_us]
  refine ⟨fun s hs => ?_, e⟩
  by_cases q : s = t
  · subst q
    rw [pk_us, pk_us, e, hh]
    exact ⟨hd, ha, htk, h6⟩
  · exact ca_wf_congr (K := K) (A := A) (n := t) (fun z hz => (pk_un (by omega)).symm) (fun z hz => (pk_un (by omega)).symm) h s (by omega)
theorem ca_ok24 {k a : Int32} (h : ca_ok k a = true) (hk : k = 2 ∨ k = 4) : ∃ o, o < 8 ∧ a = nI o := by
  have z : (decide ((0 : Int32) ≤ a) && decide (a ≤ 7)) = true := by
    rcases hk with rfl | rfl
    · exact h
    · exact h
  rw [Bool.and_eq_true, decide_eq_true_iff, decide_eq_true_iff] at z
  exact ca_rng 8 (by decide) (Int32.not_lt.mpr z.1) (fun y => (ca_nle (hi := 7) (hi1 := 8) (by decide) a).mp y z.2)
theorem i_vc_token {k : Nat} {u : SX} {v : SY} (I : i_Rel k u v) (hk : k + 5 ≤ 2560) (v1 : Int32) (v2 : Int32) : wpX_token (fun r u' => wpY_token (fun r' v' => r' = r ∧ i_Rel (k + 5) u' v') v v1 v2) u v1 v2 := by
  have R := i_up I
  obtain ⟨c, t, p, g, pa, cl, nm, mk, st, dk, da, pk, ag, pt, ti, cn, li, se, tp, tr, pr, rfl, rfl, hc, ht, hp6, hg, hP, hC, hS, hD, hQ⟩ := I
  have hH : ca_h dk t ≤ 6 := ca_wf_le hD
  have hle := ca_tk_le v1
  unfold wpX_token wpY_token
  by_cases a1 : v1 < 0
  · exact br_t a1 (br_t a1 (br_t rfl ⟨rfl, R⟩))
  by_cases a2 : 13 < v1
  · exact br_f a1 (br_t a2 (br_f a1 (br_f (Int32.not_le.mpr a2) (br_t rfl ⟨rfl, R⟩))))
  obtain ⟨d, hd, e1⟩ := ca_rng (v := v1) 14 (by decide) a1 (fun z => a2 ((ca_nlt (hi := 13) (hi1 := 14) (by decide) v1).mp z))
  have h14 := ca_k14 d hd
  rw [← e1] at h14
  refine br_f a1 (br_f a2 (cx_arg h14 (ca_if (fun eo => cy_tok h14 (ca_if (fun _ => ⟨rfl, R⟩) (fun z => absurd (eo.symm.trans z) (by decide)))) (fun eo => ?_))))
  have Y1 : ∀ {Q : Int32 → Prop}, Q 1 → wpY_isToken Q (nI c, nI t, nI (ca_h dk t), nI p, nI g, tp, pa, cl, nm, mk, st, dk, da, pt, ti, cn, pk, ag, li, tr, pr) v1 v2 := fun {Q} h => cy_tok h14 (by rw [eo]; exact h)
  by_cases a3 : t < 16
  · refine br_t (nI_lt (b := 16) a3 (by decide)) (cx_taken v1 ?_)
    have a3' : ¬ nI t = 16 := fun z => absurd ((nI_eq (b := 16) (by omega) (by decide)).mp z) (by omega)
    by_cases a4 : ca_tk v1 ≤ ca_h dk t
    · have a4' : nI (ca_tk v1) ≤ nI (ca_h dk t) := nI_le a4 (by omega)
      have hin : vp_in (nI t) 16 := vp_in_nI a3 (by decide)
      have hcl : (nI t).toNatClampNeg = t := nI_clamp (by omega)
      refine br_t a4' ?_
      have fin : ca_h dk t - ca_tk v1 + 1 ≤ 6 → wX_token_66 (fun r u' => wpY_token (fun r' v' => r' = r ∧ i_Rel (k + 5) u' v') (nI c, nI t, nI (ca_h dk t), nI p, nI g, tp, pa, cl, nm, mk, st, dk, da, pt, ti, cn, pk, ag, li, tr, pr) v1 v2) v1 v2 (nI (ca_tk v1)) (nI c) (nI t) (nI (ca_h dk t)) (nI p) (nI g) pa cl nm mk st dk da pk ag pt ti cn li se := by
        intro h6
        obtain ⟨hw, hh⟩ := ca_wf_s hD ⟨d, hd, e1⟩ (ca_ok24 eo) a4 h6
        unfold wX_token_66
        refine ⟨hin, nm_r (e' := upd dk t v1) (by rw [hcl]) ⟨hin, nm_r (e' := upd da t v2) (by rw [hcl]) (nm_r (nI_1 t) (nm_r (ca_hs hle a4) ?_))⟩⟩
        have fY : wY_token_58 (fun r' v' => r' = nI (ca_h dk t - ca_tk v1 + 1) ∧ i_Rel (k + 5) (nI c, nI (t + 1), nI (ca_h dk t - ca_tk v1 + 1), nI p, nI g, pa, cl, nm, mk, st, upd dk t v1, upd da t v2, pk, ag, pt, ti, cn, li, se) v') v1 v2 (nI c) (nI t) (nI (ca_h dk t)) (nI p) (nI g) tp pa cl nm mk st dk da pt ti cn pk ag li tr pr := by
          unfold wY_token_58
          refine ⟨hin, nm_r (e' := upd dk t v1) (by rw [hcl]) ⟨hin, nm_r (e' := upd da t v2) (by rw [hcl]) (nm_r (nI_1 t) (cy_taken v1 (nm_r (e' := nI (ca_h dk t - ca_tk v1 + 1)) (by rw [pk_sub a4, nI_1]) ⟨rfl, ?_⟩)))⟩⟩
          rw [← hh]
          exact ca_rel c (t + 1) p g ⟨hc, by omega, hp6, by omega, hP, hC, hS, hw, hQ⟩
        show wpY_token _ _ v1 v2
        unfold wpY_token
        refine Y1 (br_f (by decide) (br_f a3' (cy_taken v1 (br_t a4' (cy_taken v1 ?_)))))
        by_cases a5 : ca_tk v1 = 0
        · refine br_t (by rw [a5]; rfl) (br_f (fun z => absurd ((nI_eq (b := 6) (by omega) (by decide)).mp z) (by omega)) fY)
        · exact br_f (nI_ne0 (by omega) (by omega)) fY
      by_cases a5 : ca_tk v1 = 0
      · refine br_t (by rw [a5]; rfl) ?_
        by_cases a6 : ca_h dk t < 6
        · exact br_t (nI_lt (b := 6) a6 (by decide)) (fin (by omega))
        · refine br_f (nI_nlt (b := 6) (by omega) (by omega)) ?_
          refine Y1 (br_f (by decide) (br_f a3' (cy_taken v1 (br_t a4' (cy_taken v1 (br_t (by rw [a5]; rfl) (br_t ((nI_eq (b := 6) (by omega) (by decide)).mpr (by omega)) ⟨rfl, R⟩)))))))
      · exact br_f (nI_ne0 (by omega) (by omega)) (fin (by omega))
    · have a4' : ¬ nI (ca_tk v1) ≤ nI (ca_h dk t) := nI_ge (by omega) (by omega)
      exact br_f a4' (Y1 (br_f (by decide) (br_f a3' (cy_taken v1 (br_f a4' ⟨rfl, R⟩)))))
  · have a3' : nI t = 16 := (nI_eq (b := 16) (by omega) (by decide)).mpr (by omega)
    exact br_f (nI_nlt (b := 16) (by omega) (by omega)) (Y1 (br_f (by decide) (br_t a3' ⟨rfl, R⟩)))
theorem i_vc_clear {k : Nat} {u : SX} {v : SY} (I : i_Rel k u v) (hk : k + 5 ≤ 2560) : wpX_clear (fun r u' => wpY_clear (fun r' v' => r' = r ∧ i_Rel (k + 5) u' v') v) u := by
  obtain ⟨c, t, p, g, pa, cl, nm, mk, st, dk, da, pk, ag, pt, ti, cn, li, se, tp, tr, pr, rfl, rfl, hc, ht, hp6, hg, hP, hC, hS, hD, hQ⟩ := I
  unfold wpX_clear wpX_emptyDraft wpY_clear
  exact ⟨rfl, ca_rel c 0 p g ⟨hc, by omega, hp6, by omega, hP, hC, hS, fun z hz => absurd hz (Nat.not_lt_zero z), hQ⟩⟩
theorem i_vc_drop {k : Nat} {u : SX} {v : SY} (I : i_Rel k u v) (hk : k + 5 ≤ 2560) : wpX_drop (fun r u' => wpY_drop (fun r' v' => r' = r ∧ i_Rel (k + 5) u' v') v) u := by
  have R := i_up I
  obtain ⟨c, t, p, g, pa, cl, nm, mk, st, dk, da, pk, ag, pt, ti, cn, li, se, tp, tr, pr, rfl, rfl, hc, ht, hp6, hg, hP, hC, hS, hD, hQ⟩ := I
  unfold wpX_drop wpY_drop
  by_cases a1 : nI p = 0
  · exact br_t a1 (br_t a1 ⟨rfl, R⟩)
  by_cases a2 : nI c ≤ 0
  · obtain ⟨q, rfl⟩ : ∃ q, p = q + 1 := ⟨p - 1, by
      have z : p ≠ 0 := fun z => a1 (by rw [z]; rfl)
      omega⟩
    exact br_f a1 (br_t a2 (nm_r (nI_pred q) (br_f a1 (br_t a2 (nm_r (nI_pred q) ⟨rfl, ca_rel c t q g ⟨hc, ht, by omega, by omega, hP, hC, hS, hD, fun z hz => hQ z (by omega)⟩⟩)))))
  · exact br_f a1 (br_f a2 (br_f a1 (br_f a2 ⟨rfl, R⟩)))
theorem i_vc_unwind {k : Nat} {u : SX} {v : SY} (I : i_Rel k u v) (hk : k + 5 ≤ 2560) : wpX_unwind (fun r u' => wpY_unwind (fun r' v' => r' = r ∧ i_Rel (k + 5) u' v') v) u := by
  obtain ⟨c, t, p, g, pa, cl, nm, mk, st, dk, da, pk, ag, pt, ti, cn, li, se, tp, tr, pr, rfl, rfl, hc, ht, hp6, hg, hP, hC, hS, hD, hQ⟩ := I
  unfold wpX_unwind wpY_unwind
  exact ⟨rfl, ca_rel 0 t p g ⟨by omega, ht, hp6, by omega, hP, hC, hS, hD, hQ⟩⟩
theorem i_vc_depth {k : Nat} {u : SX} {v : SY} (I : i_Rel k u v) (hk : k + 5 ≤ 2560) : wpX_depth (fun r => wpY_depth (fun r' => r' = r ∧ i_Rel (k + 5) u v) v) u := by
  have R := i_up I
  obtain ⟨c, t, p, g, pa, cl, nm, mk, st, dk, da, pk, ag, pt, ti, cn, li, se, tp, tr, pr, rfl, rfl, hc, ht, hp6, hg, hP, hC, hS, hD, hQ⟩ := I
  unfold wpX_depth wpY_depth
  exact ⟨rfl, R⟩
theorem i_vc_given {k : Nat} {u : SX} {v : SY} (I : i_Rel k u v) (hk : k + 5 ≤ 2560) : wpX_given (fun r => wpY_given (fun r' => r' = r ∧ i_Rel (k + 5) u v) v) u := by
  have R := i_up I
  obtain ⟨c, t, p, g, pa, cl, nm, mk, st, dk, da, pk, ag, pt, ti, cn, li, se, tp, tr, pr, rfl, rfl, hc, ht, hp6, hg, hP, hC, hS, hD, hQ⟩ := I
  unfold wpX_given wpY_given
  exact ⟨rfl, R⟩
theorem i_vc_methodAt {k : Nat} {u : SX} {v : SY} (I : i_Rel k u v) (hk : k + 5 ≤ 2560) (v1 : Int32) : wpX_methodAt (fun r => wpY_methodAt (fun r' => r' = r ∧ i_Rel (k + 5) u v) v v1) u v1 := by
  have R := i_up I
  obtain ⟨c, t, p, g, pa, cl, nm, mk, st, dk, da, pk, ag, pt, ti, cn, li, se, tp, tr, pr, rfl, rfl, hc, ht, hp6, hg, hP, hC, hS, hD, hQ⟩ := I
  unfold wpX_methodAt wpX_isCall wpY_methodAt
  by_cases a1 : v1 < 0
  · exact br_t a1 (br_t rfl (br_t a1 ⟨rfl, R⟩))
  by_cases a2 : nI c ≤ v1
  · exact br_f a1 (br_t a2 (br_t rfl (br_f a1 (br_t a2 ⟨rfl, R⟩))))
  obtain ⟨i, hi, rfl⟩ := ca_rng c (by omega) a1 a2
  have hin : vp_in (nI i) 20 := vp_in_nI (by omega) (by decide)
  exact br_f a1 (br_f a2 (br_f (by decide) ⟨hin, br_f a1 (br_f a2 ⟨hin, rfl, R⟩)⟩))
theorem cx_isPiece {post : Int32 → Prop} {p : Nat} (hp : p < 2 ^ 31) (v : Int32) (h0 : (∀ {Q : Int32 → Prop}, ∀ {fc ft fh fg tp : Int32} {pa cl nm mk st dk da pk ag pt ti cn li tr pr : Nat → Int32}, Q 0 → wpY_isPiece Q (fc, ft, fh, nI p, fg, tp, pa, cl, nm, mk, st, dk, da, pt, ti, cn, pk, ag, li, tr, pr) v) → post 0) (h1 : ∀ q, q < p → v = nI q → (∀ {Q : Int32 → Prop}, ∀ {fc ft fh fg tp : Int32} {pa cl nm mk st dk da pk ag pt ti cn li tr pr : Nat → Int32}, Q 1 → wpY_isPiece Q (fc, ft, fh, nI p, fg, tp, pa, cl, nm, mk, st, dk, da, pt, ti, cn, pk, ag, li, tr, pr) v) → post 1) : wpX_isPiece post (fc, ft, fh, nI p, fg, pa, cl, nm, mk, st, dk, da, pk, ag, pt, ti, cn, li, se) v := by
  unfold wpX_isPiece
  by_cases a1 : v < 0
  · exact br_t a1 (h0 (fun h => br_t a1 h))
  by_cases a2 : nI p ≤ v
  · exact br_f a1 (br_t a2 (h0 (fun h => br_f a1 (br_t a2 h))))
  obtain ⟨q, hq, e⟩ := ca_rng p hp a1 a2
  exact br_f a1 (br_f a2 (h1 q hq e (fun h => br_f a1 (br_f a2 h))))
theorem i_vc_count {k : Nat} {u : SX} {v : SY} (I : i_Rel k u v) (hk : k + 5 ≤ 2560) (v1 : Int32) : wpX_count (fun r => wpY_count (fun r' => r' = r ∧ i_Rel (k + 5) u v) v v1) u v1 := by
  have R := i_up I
  obtain ⟨c, t, p, g, pa, cl, nm, mk, st, dk, da, pk, ag, pt, ti, cn, li, se, tp, tr, pr, rfl, rfl, hc, ht, hp6, hg, hP, hC, hS, hD, hQ⟩ := I
  unfold wpX_count wpY_count
  refine cx_isPiece (by omega) v1 (fun y => br_t rfl (y (br_t rfl ⟨rfl, R⟩))) (fun q hq e y => ?_)
  have hin : vp_in v1 6 := by
    rw [e]
    exact vp_in_nI (by omega) (by decide)
  exact br_f (by decide) ⟨hin, y (br_f (by decide) ⟨hin, rfl, R⟩)⟩
theorem i_vc_last {k : Nat} {u : SX} {v : SY} (I : i_Rel k u v) (hk : k + 5 ≤ 2560) (v1 : Int32) : wpX_last (fun r => wpY_last (fun r' => r' = r ∧ i_Rel (k + 5) u v) v v1) u v1 := by
  have R := i_up I
  obtain ⟨c, t, p, g, pa, cl, nm, mk, st, dk, da, pk, ag, pt, ti, cn, li, se, tp, tr, pr, rfl, rfl, hc, ht, hp6, hg, hP, hC, hS, hD, hQ⟩ := I
  unfold wpX_last wpY_last
  by_cases a1 : v1 < 0
  · exact br_t a1 (br_t a1 ⟨rfl, R⟩)
  by_cases a2 : 64 ≤ v1
  · exact br_f a1 (br_t a2 (br_f a1 (br_t a2 ⟨rfl, R⟩)))
  by_cases a3 : v1 < nI g
  · obtain ⟨j, hj, rfl⟩ := ca_rng 64 (by decide) a1 a2
    have a4 : j < g := (nI_ltI (by omega) (by omega)).mp a3
    have e : nI g - 1 - nI j = nI (g - 1 - j) := by
      rw [show nI g - 1 = nI (g - 1) from pk_sub (b := 1) (by omega), pk_sub (by omega)]
    have hm : (g - 1 - j) % 64 < 64 := Nat.mod_lt _ (by decide)
    have e1 : (nI g - 1 - nI j) &&& 63 = nI ((g - 1 - j) % 64) := by rw [e, ca_63 (by omega)]
    have e2 : (nI g - 1 - nI j) - (nI g - 1 - nI j) / 64 * 64 = nI ((g - 1 - j) % 64) := by rw [e, ca_r64 (by omega)]
    have hin : vp_in (nI ((g - 1 - j) % 64)) 64 := vp_in_nI hm (by decide)
    refine br_f a1 (br_f a2 (br_t a3 ⟨by rw [e1]; exact hin, br_f a1 (br_f a2 (br_f (Int32.not_le.mpr a3) ⟨by decide, by rw [e2]; exact hin, ?_, R⟩))⟩))
    rw [e1, e2]
  · exact br_f a1 (br_f a2 (br_f a3 (br_f a1 (br_f a2 (br_t (Int32.not_lt.mp a3) ⟨rfl, R⟩)))))
/-- n entries of D put into A from s on -/
def ca_cp (A : Nat → Int32) (s : Nat) (D : Nat → Int32) : Nat → Nat → Int32
  | 0 => A
  | n + 1 => upd (ca_cp A s D n) (s + n) (D n)
theorem ca_cp_lo (A : Nat → Int32) (s : Nat) (D : Nat → Int32) (n : Nat) {i : Nat} (h : i < s) : ca_cp A s D n i = A i := by
  induction n with
  | zero => rfl
  | succ n ih =>
    show upd (ca_cp A s D n) (s + n) (D n) i = A i
    rw [pk_un (by omega), ih]
theorem ca_cp_in (A : Nat → Int32) (s : Nat) (D : Nat → Int32) (n : Nat) {j : Nat} (h : j < n) : ca_cp A s D n (s + j) = D j := by
  induction n with
  | zero => exact absurd h (Nat.not_lt_zero j)
  | succ n ih =>
    show upd (ca_cp A s D n) (s + n) (D n) (s + j) = D j
    by_cases e : j = n
    · rw [e, pk_us]
    · rw [pk_un (by omega), ih (by omega)]
theorem cx_copy {post : SX → Prop} {t q : Nat} (ht : t ≤ 16) (hq : q < 6) (hp : post (fc, nI t, fh, fp, fg, pa, cl, nm, mk, st, dk, da, ca_cp pk (16 * q) dk t, ca_cp ag (16 * q) da t, upd pt q (nI t), ti, cn, li, se)) : wpX_copyDraftTo post (fc, nI t, fh, fp, fg, pa, cl, nm, mk, st, dk, da, pk, ag, pt, ti, cn, li, se) (nI q) := by
  have L : ∀ m j : Nat, j + m = t → wX_copyDraftTo_7 post (nI q) (nI (16 * q)) fc (nI t) fh fp fg (m + 1) (nI j) pa cl nm mk st dk da (ca_cp pk (16 * q) dk j) (ca_cp ag (16 * q) da j) pt ti cn li se := by
    intro m
    induction m with
    | zero =>
      intro j e
      have e' : j = t := e
      subst e'
      exact br_t (Int32.le_refl _) ⟨vp_in_nI hq (by decide), nm_r (e' := upd pt q (nI j)) (by rw [nI_clamp (by omega)]) hp⟩
    | succ m ih =>
      intro j e
      have h16 : vp_in (nI j) 16 := vp_in_nI (by omega) (by decide)
      have h96 : vp_in (nI (16 * q) + nI j) 96 := by
        rw [nI_add]
        exact vp_in_nI (by omega) (by decide)
      have hc1 : (nI (16 * q) + nI j).toNatClampNeg = 16 * q + j := by rw [nI_add, nI_clamp (by omega)]
      have hc2 : (nI j).toNatClampNeg = j := nI_clamp (by omega)
      exact br_f (nI_ge (by omega) (by omega)) ⟨h16, h96, nm_r (e' := ca_cp pk (16 * q) dk (j + 1)) (by rw [hc1, hc2]; rfl) ⟨h16, h96, nm_r (e' := ca_cp ag (16 * q) da (j + 1)) (by rw [hc1, hc2]; rfl) (nm_r (nI_1 j) (ih (j + 1) (by omega)))⟩⟩
  unfold wpX_copyDraftTo
  exact nm_r (e' := nI (16 * q)) ((pk_mul q 16).trans (by rw [Nat.mul_comm])) ⟨t + 1, L t 0 (by omega)⟩
theorem cy_copy {post : Int32 → SY → Prop} {t q : Nat} {tm : Int32} (ht : t ≤ 16) (hq : q < 6) (hp : post (nI q) (fc, 0, 0, nI (q + 1), fg, tp, pa, cl, nm, mk, st, dk, da, upd pt q (nI t), upd ti q tm, upd cn q 0, ca_cp pk (16 * q) dk t, ca_cp ag (16 * q) da t, li, tr, pr)) : ∃ n, wY_advise_46 post tm fc (nI t) fh (nI q) fg tp n 0 pa cl nm mk st dk da pt ti cn pk ag li tr pr := by
  have hq6 : vp_in (nI q) 6 := vp_in_nI hq (by decide)
  have hcq : (nI q).toNatClampNeg = q := nI_clamp (by omega)
  have L : ∀ m j : Nat, j + m = t → wY_advise_46 post tm fc (nI t) fh (nI q) fg tp (m + 1) (nI j) pa cl nm mk st dk da pt ti cn (ca_cp pk (16 * q) dk j) (ca_cp ag (16 * q) da j) li tr pr := by
    intro m
    induction m with
    | zero =>
      intro j e
      have e' : j = t := e
      subst e'
      refine br_t (Int32.le_refl _) ⟨hq6, nm_r (e' := upd pt q (nI j)) (by rw [hcq]) ⟨hq6, nm_r (e' := upd ti q tm) (by rw [hcq]) ⟨hq6, nm_r (e' := upd cn q 0) (by rw [hcq]) (nm_r (nI_1 q) ?_)⟩⟩⟩
      rw [nI_pred q]
      exact hp
    | succ m ih =>
      intro j e
      have h16 : vp_in (nI j) 16 := vp_in_nI (by omega) (by decide)
      have h96 : vp_in ((16 : Int32) * nI q + nI j) 96 := by
        rw [ca_16]
        exact vp_in_nI (by omega) (by decide)
      have hc1 : ((16 : Int32) * nI q + nI j).toNatClampNeg = 16 * q + j := by rw [ca_16, nI_clamp (by omega)]
      have hc2 : (nI j).toNatClampNeg = j := nI_clamp (by omega)
      exact br_f (nI_ge (by omega) (by omega)) ⟨h16, h96, nm_r (e' := ca_cp pk (16 * q) dk (j + 1)) (by rw [hc1, hc2]; rfl) ⟨h16, h96, nm_r (e' := ca_cp ag (16 * q) da (j + 1)) (by rw [hc1, hc2]; rfl) (nm_r (nI_1 j) (ih (j + 1) (by omega)))⟩⟩
  exact ⟨t + 1, L t 0 (by omega)⟩
theorem i_vc_advise {k : Nat} {u : SX} {v : SY} (I : i_Rel k u v) (hk : k + 5 ≤ 2560) (v1 : Int32) : wpX_advise (fun r u' => wpY_advise (fun r' v' => r' = r ∧ i_Rel (k + 5) u' v') v v1) u v1 := by
  have R := i_up I
  obtain ⟨c, t, p, g, pa, cl, nm, mk, st, dk, da, pk, ag, pt, ti, cn, li, se, tp, tr, pr, rfl, rfl, hc, ht, hp6, hg, hP, hC, hS, hD, hQ⟩ := I
  have hH : ca_h dk t ≤ 6 := ca_wf_le hD
  have main : ∀ post : Int32 → SX → Prop, (∀ r u', wY_advise_11 (fun r' v' => r' = r ∧ i_Rel (k + 5) u' v') v1 (nI c) (nI t) (nI (ca_h dk t)) (nI p) (nI g) tp pa cl nm mk st dk da pt ti cn pk ag li tr pr → post r u') → wX_advise_11 post v1 (nI c) (nI t) (nI (ca_h dk t)) (nI p) (nI g) pa cl nm mk st dk da pk ag pt ti cn li se := by
    intro post hpost
    unfold wX_advise_11
    by_cases a1 : ca_h dk t = 1
    · have a1' : nI (ca_h dk t) = 1 := (nI_eq (b := 1) (by omega) (by decide)).mpr a1
      refine br_t a1' ?_
      by_cases a2 : p < 6
      · have a2' : ¬ nI p = 6 := fun z => absurd ((nI_eq (b := 6) (by omega) (by decide)).mp z) (by omega)
        refine br_t (nI_lt (b := 6) a2 (by decide)) ?_
        by_cases a3 : nI c ≤ 0
        · have hq6 : vp_in (nI p) 6 := vp_in_nI a2 (by decide)
          have hcq : (nI p).toNatClampNeg = p := nI_clamp (by omega)
          refine br_t a3 (cx_copy ht a2 ⟨hq6, nm_r (e' := upd ti p v1) (by rw [hcq]) ⟨hq6, nm_r (e' := upd cn p 0) (by rw [hcq]) (nm_r (nI_1 p) ?_)⟩⟩)
          unfold wpX_emptyDraft
          refine hpost _ _ ?_
          unfold wY_advise_11
          refine br_t a1' (br_f a2' (br_t a3 (cy_copy ht a2 ⟨rfl, ?_⟩)))
          refine ca_rel c 0 (p + 1) g ⟨hc, by omega, by omega, by omega, hP, hC, hS, fun z hz => absurd hz (Nat.not_lt_zero z), fun q hq => ?_⟩
          by_cases e : q = p
          · subst e
            exact ⟨t, ht, pk_us, ca_wf_congr (fun z hz => (ca_cp_in pk (16 * q) dk t hz).symm) (fun z hz => (ca_cp_in ag (16 * q) da t hz).symm) hD, (ca_h_congr (fun z hz => ca_cp_in pk (16 * q) dk t hz)).trans a1⟩
          · obtain ⟨n, hn, e1, hw, h1⟩ := hQ q (by omega)
            exact ⟨n, hn, by rw [pk_un e, e1], ca_wf_congr (fun z hz => (ca_cp_lo pk (16 * p) dk t (by omega)).symm) (fun z hz => (ca_cp_lo ag (16 * p) da t (by omega)).symm) hw, (ca_h_congr (fun z hz => ca_cp_lo pk (16 * p) dk t (by omega))).trans h1⟩
        · refine br_f a3 (hpost _ _ ?_)
          unfold wY_advise_11
          exact br_t a1' (br_f a2' (br_f a3 ⟨rfl, R⟩))
      · refine br_f (nI_nlt (b := 6) (by omega) (by omega)) (hpost _ _ ?_)
        unfold wY_advise_11
        exact br_t a1' (br_t ((nI_eq (b := 6) (by omega) (by decide)).mpr (by omega)) ⟨rfl, R⟩)
    · have a1' : ¬ nI (ca_h dk t) = 1 := fun z => a1 ((nI_eq (b := 1) (by omega) (by decide)).mp z)
      refine br_f a1' (hpost _ _ ?_)
      unfold wY_advise_11
      exact br_f a1' ⟨rfl, R⟩
  unfold wpX_advise wpY_advise
  by_cases b0 : v1 = 0
  · exact br_t b0 (main _ (fun r u' h => br_t b0 h))
  by_cases b1 : v1 = 1
  · exact br_f b0 (br_t b1 (main _ (fun r u' h => br_f b0 (br_t b1 h))))
  · exact br_f b0 (br_f b1 (br_f b0 (br_f b1 ⟨rfl, R⟩)))
end V1
end
section
/-! the methods that walk formulas -/
section V2
variable {fc ft fh fp fg tp : Int32} {pa cl nm mk st dk da pk ag pt ti cn li se tr pr : Nat → Int32}
theorem cx_isCall {post : Int32 → Prop} {c : Nat} (hc : c < 2 ^ 31) (v : Int32) (h0 : v < 0 → post 0) (h1 : ¬ v < 0 → ¬ v < nI c → post 0) (h2 : ¬ v < 0 → v < nI c → ∀ i, i < c → v = nI i → post 1) : wpX_isCall post (nI c, ft, fh, fp, fg, pa, cl, nm, mk, st, dk, da, pk, ag, pt, ti, cn, li, se) v := by
  unfold wpX_isCall
  by_cases a1 : v < 0
  · exact br_t a1 (h0 a1)
  by_cases a2 : nI c ≤ v
  · exact br_f a1 (br_t a2 (h1 a1 (Int32.not_lt.mpr a2)))
  obtain ⟨i, hi, e⟩ := ca_rng c hc a1 a2
  exact br_f a1 (br_f a2 (h2 a1 (Int32.not_le.mp a2) i hi e))
theorem i_vc_holds {k : Nat} {u : SX} {v : SY} (I : i_Rel k u v) (hk : k + 5 ≤ 2560) (v1 : Int32) (v2 : Int32) : wpX_holds (fun r u' => wpY_holds (fun r' v' => r' = r ∧ i_Rel (k + 5) u' v') v v1 v2) u v1 v2 := by
  have R := i_up I
  obtain ⟨c, t, p, g, pa, cl, nm, mk, st, dk, da, pk, ag, pt, ti, cn, li, se, tp, tr, pr, rfl, rfl, hc, ht, hp6, hg, hP, hC, hS, hD, hQ⟩ := I
  unfold wpX_holds wpY_holds
  refine cx_isPiece (by omega) v1 (fun y => br_t rfl (y (br_t rfl ⟨rfl, R⟩))) (fun q hq e y => br_f (by decide) ?_)
  refine cx_isCall (by omega) v2 (fun a => br_t rfl (y (br_f (by decide) (br_t a ⟨rfl, R⟩)))) (fun a b => br_t rfl (y (br_f (by decide) (br_f a (br_f b ⟨rfl, R⟩))))) (fun a b i hi e2 => br_f (by decide) ?_)
  subst e e2
  refine cx_val hP hC hS (by omega) (hQ q hq) hc (fun r sx hr => cx_has r (by omega) rfl ?_)
  have Z : ∀ (b : Bool) (ty : Int32) (tx px : Nat → Int32), i_Rel (k + 5) (nI c, nI t, nI (ca_h dk t), nI p, nI g, pa, cl, nm, mk, st, dk, da, pk, ag, pt, ti, cn, li, sx) (nI c, nI t, nI (ca_h dk t), nI p, nI g, ty, pa, cl, nm, mk, st, dk, da, pt, ti, cn, pk, ag, li, tx, px) := fun _ _ _ _ => ca_rel c t p g ⟨hc, ht, hp6, by omega, hP, hC, hS, hD, hQ⟩
  rw [hr i hi]
  refine ca_if (fun z => y (br_f (by decide) (br_f a (br_t b (cy_val hP hC hS (by omega) (hQ q hq) (by omega) (fun ty tx px => ?_)))))) (fun z => y (br_f (by decide) (br_f a (br_t b (cy_val hP hC hS (by omega) (hQ q hq) (by omega) (fun ty tx px => ?_))))))
  · rw [z]
    exact br_t rfl ⟨rfl, Z true ty tx px⟩
  · rw [z]
    exact br_f (by decide) ⟨rfl, Z true ty tx px⟩
theorem i_vc_wouldHold {k : Nat} {u : SX} {v : SY} (I : i_Rel k u v) (hk : k + 5 ≤ 2560) (v1 : Int32) (v2 : Int32) : wpX_wouldHold (fun r u' => wpY_wouldHold (fun r' v' => r' = r ∧ i_Rel (k + 5) u' v') v v1 v2) u v1 v2 := by
  have R := i_up I
  obtain ⟨c, t, p, g, pa, cl, nm, mk, st, dk, da, pk, ag, pt, ti, cn, li, se, tp, tr, pr, rfl, rfl, hc, ht, hp6, hg, hP, hC, hS, hD, hQ⟩ := I
  unfold wpX_wouldHold wpY_wouldHold
  refine cx_isPiece (by omega) v1 (fun y => br_t rfl (y (br_t rfl ⟨rfl, R⟩))) (fun q hq e y => br_f (by decide) ?_)
  refine cx_isMethod v2 (fun a => br_t rfl (y (br_f (by decide) (br_t a ⟨rfl, R⟩)))) (fun a b => br_t rfl (y (br_f (by decide) (br_f a (br_t ((ca_nlt (by decide) v2).mp b) ⟨rfl, R⟩))))) (fun m hm e2 => br_f (by decide) ?_)
  subst e e2
  have m0 : ¬ nI m < 0 := nI_pos (by omega)
  have m15 : ¬ 15 < nI m := nI_nlt (a := 15) (by omega) (by decide)
  by_cases a1 : c < 20
  · have hin : vp_in (nI c) 20 := vp_in_nI a1 (by decide)
    have a1' : ¬ nI c = 20 := fun z => absurd ((nI_eq (b := 20) (by omega) (by decide)).mp z) (by omega)
    have hcl : (nI c).toNatClampNeg = c := nI_clamp (by omega)
    have hS' : ca_Stk (upd st c (nI m)) := ca_Stk_u hS hm
    refine br_t (nI_lt (b := 20) a1 (by decide)) ⟨hin, nm_r (e' := upd st c (nI m)) (by rw [hcl]) ?_⟩
    rw [nI_1 c]
    refine cx_val hP hC hS' (by omega) (hQ q hq) (by omega) (fun r sx hr => cx_has r (by omega) rfl ?_)
    have Z : ∀ (ty : Int32) (tx px : Nat → Int32), i_Rel (k + 5) (nI c, nI t, nI (ca_h dk t), nI p, nI g, pa, cl, nm, mk, upd st c (nI m), dk, da, pk, ag, pt, ti, cn, li, sx) (nI c, nI t, nI (ca_h dk t), nI p, nI g, ty, pa, cl, nm, mk, upd st c (nI m), dk, da, pt, ti, cn, pk, ag, li, tx, px) := fun _ _ _ => ca_rel c t p g ⟨hc, ht, hp6, by omega, hP, hC, hS', hD, hQ⟩
    rw [hr c (by omega)]
    refine ca_if (fun z => y (br_f (by decide) (br_f m0 (br_f m15 (br_f a1' ⟨hin, nm_r (e' := upd st c (nI m)) (by rw [hcl]) (cy_val hP hC hS' (by omega) (hQ q hq) a1 (fun ty tx px => ?_))⟩))))) (fun z => y (br_f (by decide) (br_f m0 (br_f m15 (br_f a1' ⟨hin, nm_r (e' := upd st c (nI m)) (by rw [hcl]) (cy_val hP hC hS' (by omega) (hQ q hq) a1 (fun ty tx px => ?_))⟩)))))
    · rw [z]
      exact br_t rfl ⟨rfl, Z ty tx px⟩
    · rw [z]
      exact br_f (by decide) ⟨rfl, Z ty tx px⟩
  · have a1' : nI c = 20 := (nI_eq (b := 20) (by omega) (by decide)).mpr (by omega)
    exact br_f (nI_nlt (b := 20) (by omega) (by omega)) (y (br_f (by decide) (br_f m0 (br_f m15 (br_t a1' ⟨rfl, R⟩)))))
theorem i_vc_would {k : Nat} {u : SX} {v : SY} (I : i_Rel k u v) (hk : k + 5 ≤ 2560) (v1 : Int32) : wpX_would (fun r u' => wpY_would (fun r' v' => r' = r ∧ i_Rel (k + 5) u' v') v v1) u v1 := by
  have R := i_up I
  obtain ⟨c, t, p, g, pa, cl, nm, mk, st, dk, da, pk, ag, pt, ti, cn, li, se, tp, tr, pr, rfl, rfl, hc, ht, hp6, hg, hP, hC, hS, hD, hQ⟩ := I
  unfold wpX_would wpY_would
  refine cx_isPiece (by omega) v1 (fun y => br_t rfl (y (br_t rfl ⟨rfl, R⟩))) (fun q hq e y => br_f (by decide) ?_)
  subst e
  by_cases a1 : c < 20
  · have a1' : ¬ nI c = 20 := fun z => absurd ((nI_eq (b := 20) (by omega) (by decide)).mp z) (by omega)
    refine br_t (nI_lt (b := 20) a1 (by decide)) ⟨17, cx_wouldL hP hC (by omega) (hQ q hq) a1 16 0 0 st se rfl hS (fun sx => ?_)⟩
    refine y (br_f (by decide) (br_f a1' ⟨17, cy_wouldL hP hC (by omega) (hQ q hq) a1 16 0 0 tp st tr pr rfl hS (fun ty tx px => ⟨rfl, ?_⟩)⟩))
    exact ca_rel c t p g ⟨hc, ht, hp6, by omega, hP, hC, ca_wo_stk _ c 16 0 (0, st) rfl hS, hD, hQ⟩
  · have a1' : nI c = 20 := (nI_eq (b := 20) (by omega) (by decide)).mpr (by omega)
    exact br_f (nI_nlt (b := 20) (by omega) (by omega)) (y (br_f (by decide) (br_t a1' ⟨rfl, R⟩)))
theorem i_vc_call {k : Nat} {u : SX} {v : SY} (I : i_Rel k u v) (hk : k + 5 ≤ 2560) (v1 : Int32) : wpX_call (fun r u' => wpY_call (fun r' v' => r' = r ∧ i_Rel (k + 5) u' v') v v1) u v1 := by
  have R := i_up I
  obtain ⟨c, t, p, g, pa, cl, nm, mk, st, dk, da, pk, ag, pt, ti, cn, li, se, tp, tr, pr, rfl, rfl, hc, ht, hp6, hg, hP, hC, hS, hD, hQ⟩ := I
  unfold wpX_call wpY_call
  refine cx_isMethod v1 (fun a => br_t rfl (br_t a ⟨rfl, R⟩)) (fun a b => br_t rfl (br_f a (br_f ((ca_nle (by decide) v1).mp b) ⟨rfl, R⟩))) (fun m hm e => br_f (by decide) ?_)
  subst e
  have m0 : ¬ nI m < 0 := nI_pos (by omega)
  have m15 : nI m ≤ 15 := nI_le (b := 15) (by omega) (by decide)
  by_cases a1 : c < 20
  · have hin : vp_in (nI c) 20 := vp_in_nI a1 (by decide)
    have a1' : ¬ nI c = 20 := fun z => absurd ((nI_eq (b := 20) (by omega) (by decide)).mp z) (by omega)
    have hcl : (nI c).toNatClampNeg = c := nI_clamp (by omega)
    have hS' : ca_Stk (upd st c (nI m)) := ca_Stk_u hS hm
    have hle := ca_gu_le (fun q => decide (ti q = 0) && ca_val (ca_tr pa cl nm mk (upd st c (nI m))) pk ag pt q c) p 0 (g, li, cn)
    refine br_t (nI_lt (b := 20) a1 (by decide)) ⟨hin, nm_r (e' := upd st c (nI m)) (by rw [hcl]) (nm_r (nI_1 c) ⟨p + 1, cx_callL (w := fun q => decide (ti q = 0) && ca_val (ca_tr pa cl nm mk (upd st c (nI m))) pk ag pt q c) hP hC hS' hp6 a1 hQ (fun q _ => rfl) p 0 g li cn se (by omega) (by omega) (fun sx => ?_)⟩)⟩
    refine br_f m0 (br_t m15 (br_f a1' ⟨hin, nm_r (e' := upd st c (nI m)) (by rw [hcl]) (nm_r (nI_1 c) ⟨p + 1, ?_⟩)⟩))
    refine cy_callL (x0 := nI g) (w := fun q => decide (ti q = 0) && ca_val (ca_tr pa cl nm mk (upd st c (nI m))) pk ag pt q c) hP hC hS' hp6 a1 hQ (fun q _ => rfl) p 0 g 0 tp li cn tr pr (by omega) (by omega) (Int32.sub_self _).symm (fun ty tx px => ⟨rfl, ?_⟩)
    exact ca_rel (c + 1) t p _ ⟨by omega, ht, hp6, Nat.le_trans hle (by show g + p ≤ 2 * (k + 5); omega), hP, hC, hS', hD, hQ⟩
  · have a1' : nI c = 20 := (nI_eq (b := 20) (by omega) (by decide)).mpr (by omega)
    exact br_f (nI_nlt (b := 20) (by omega) (by omega)) (br_f m0 (br_t m15 (br_t a1' ⟨rfl, R⟩)))
theorem i_vc_giveBack {k : Nat} {u : SX} {v : SY} (I : i_Rel k u v) (hk : k + 5 ≤ 2560) : wpX_giveBack (fun r u' => wpY_giveBack (fun r' v' => r' = r ∧ i_Rel (k + 5) u' v') v) u := by
  have R := i_up I
  obtain ⟨c, t, p, g, pa, cl, nm, mk, st, dk, da, pk, ag, pt, ti, cn, li, se, tp, tr, pr, rfl, rfl, hc, ht, hp6, hg, hP, hC, hS, hD, hQ⟩ := I
  unfold wpX_giveBack wpY_giveBack
  by_cases a1 : nI c = 0
  · exact br_t a1 (br_t a1 ⟨rfl, R⟩)
  obtain ⟨b, rfl⟩ : ∃ b, c = b + 1 := ⟨c - 1, by
    have z : c ≠ 0 := fun z => a1 (by rw [z]; rfl)
    omega⟩
  have hle := ca_gd_le (fun q => decide (ti q = 1) && ca_val (ca_tr pa cl nm mk st) pk ag pt q b) p (g, li, cn)
  refine br_f a1 (nm_r (ca_dn_m p) ⟨p + 1, cx_backL (w := fun q => decide (ti q = 1) && ca_val (ca_tr pa cl nm mk st) pk ag pt q b) hP hC hS hp6 (by omega) hQ (fun q _ => rfl) p g li cn se (by omega) (by omega) (fun sx => ?_)⟩)
  refine br_f a1 (nm_r (ca_dn_m p) ⟨p + 1, ?_⟩)
  refine cy_backL (x0 := nI g) (w := fun q => decide (ti q = 1) && ca_val (ca_tr pa cl nm mk st) pk ag pt q b) hP hC hS hp6 (by omega) hQ (fun q _ => rfl) p g 0 tp li cn tr pr (by omega) (by omega) (Int32.sub_self _).symm (fun ty tx px => ⟨rfl, ?_⟩)
  exact ca_rel b t p _ ⟨by omega, ht, hp6, Nat.le_trans hle (by show g + p ≤ 2 * (k + 5); omega), hP, hC, hS, hD, hQ⟩
end V2
end
