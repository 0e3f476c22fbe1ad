/-! pure: booleans, counts, since, tokens, values of formulas -/
def ca_b (b : Bool) : Int32 := cond b 1 0
theorem ca_b_z (b : Bool) : ca_b b = 0 ↔ b = false := by cases b <;> decide
theorem ca_b_1 (b : Bool) : ca_b b = 1 ↔ b = true := by cases b <;> decide
theorem ca_b_n (b : Bool) : narrow .boolean (.int (ca_b b)) = .int (ca_b b) := by cases b <;> rfl
theorem ca_b_v (b : Bool) : vp_nar .boolean (ca_b b) = ca_b b := by cases b <;> rfl

/-- how many of the first n calls F holds at -/
def ca_ct (F : Nat → Bool) : Nat → Nat
  | 0 => 0
  | n + 1 => if F n = true then ca_ct F n + 1 else ca_ct F n
theorem ca_ct_t {F : Nat → Bool} {n : Nat} (h : F n = true) : ca_ct F (n + 1) = ca_ct F n + 1 := if_pos h
theorem ca_ct_f {F : Nat → Bool} {n : Nat} (h : F n = false) : ca_ct F (n + 1) = ca_ct F n := if_neg (by rw [h]; decide)
theorem ca_ct_le (F : Nat → Bool) (n : Nat) : ca_ct F n ≤ n := by
  induction n with
  | zero => exact Nat.le_refl 0
  | succ n ih =>
    cases e : F n with
    | false => rw [ca_ct_f e]; omega
    | true => rw [ca_ct_t e]; omega
theorem ca_ct_congr {F G : Nat → Bool} {n : Nat} (h : ∀ j, j < n → F j = G j) : ca_ct F n = ca_ct G n := by
  induction n with
  | zero => rfl
  | succ n ih =>
    have e := h n (Nat.lt_succ_self n)
    have i := ih (fun j hj => h j (by omega))
    cases q : F n with
    | false => rw [ca_ct_f q, ca_ct_f (e.symm.trans q), i]
    | true => rw [ca_ct_t q, ca_ct_t (e.symm.trans q), i]
theorem ca_ct_pos {F : Nat → Bool} {n : Nat} : 0 < ca_ct F n ↔ ∃ j, j < n ∧ F j = true := by
  induction n with
  | zero => exact ⟨fun z => absurd z (Nat.lt_irrefl 0), fun ⟨j, hj, _⟩ => absurd hj (Nat.not_lt_zero j)⟩
  | succ n ih =>
    cases e : F n with
    | true =>
      rw [ca_ct_t e]
      exact ⟨fun _ => ⟨n, Nat.lt_succ_self n, e⟩, fun _ => Nat.succ_pos _⟩
    | false =>
      rw [ca_ct_f e, ih]
      constructor
      · rintro ⟨j, hj, q⟩
        exact ⟨j, by omega, q⟩
      · rintro ⟨j, hj, q⟩
        refine ⟨j, ?_, q⟩
        have z : j ≠ n := fun z => by
          rw [z, e] at q
          exact absurd q (by decide)
        omega
/-- F holds at some call below n -/
def ca_ex (F : Nat → Bool) (n : Nat) : Bool := decide (0 < ca_ct F n)
theorem ca_ex_0 (F : Nat → Bool) : ca_ex F 0 = false := rfl
theorem ca_ex_s (F : Nat → Bool) (n : Nat) : ca_ex F (n + 1) = (F n || ca_ex F n) := by
  unfold ca_ex
  cases e : F n with
  | false => rw [ca_ct_f e, Bool.false_or]
  | true => rw [ca_ct_t e, Bool.true_or]; exact decide_eq_true (Nat.succ_pos _)
theorem ca_one (F : Nat → Bool) (n : Nat) : (F n && decide (ca_ct F (n + 1) = 1)) = (F n && !ca_ex F n) := by
  cases e : F n with
  | false => rfl
  | true =>
    rw [ca_ct_t e]
    unfold ca_ex
    generalize ca_ct F n = c
    cases c with
    | zero => rfl
    | succ c => rw [decide_eq_false (by omega), decide_eq_true (Nat.succ_pos c)]; rfl

/-- SINCE, over the first n calls -/
def ca_sn (F G : Nat → Bool) : Nat → Bool
  | 0 => false
  | n + 1 => G n || (F n && ca_sn F G n)
theorem ca_sn_congr {F G F' G' : Nat → Bool} {n : Nat} (hF : ∀ j, j < n → F j = F' j) (hG : ∀ j, j < n → G j = G' j) : ca_sn F G n = ca_sn F' G' n := by
  induction n with
  | zero => rfl
  | succ n ih =>
    show (G n || (F n && ca_sn F G n)) = (G' n || (F' n && ca_sn F' G' n))
    rw [hF n (Nat.lt_succ_self n), hG n (Nat.lt_succ_self n), ih (fun j hj => hF j (by omega)) (fun j hj => hG j (by omega))]

/-- how many formulas a token takes -/
def ca_tk (k : Int32) : Nat := if k < 6 then 0 else if k = 8 ∨ k = 11 ∨ k = 12 then 2 else 1
theorem ca_tk_le (k : Int32) : ca_tk k ≤ 2 := by
  unfold ca_tk
  split
  · omega
  · split <;> omega

/-- the value of a token that takes formulas, at call i -/
def ca_op (k a : Int32) (F G : Nat → Bool) (i : Nat) : Bool :=
  if k = 6 then ca_ex F (i + 1) else if k = 7 then ca_ex F i else if k = 8 then ca_sn F G (i + 1)
  else if k = 9 then decide (a ≤ nI (ca_ct F (i + 1))) else if k = 10 then !F i else if k = 11 then F i && G i
  else if k = 12 then F i || G i else F i && !ca_ex F i
theorem ca_op_congr (k a : Int32) {F G F' G' : Nat → Bool} {i : Nat} (hF : ∀ j, j ≤ i → F j = F' j) (hG : ∀ j, j ≤ i → G j = G' j) : ca_op k a F G i = ca_op k a F' G' i := by
  have c1 : ca_ct F (i + 1) = ca_ct F' (i + 1) := ca_ct_congr (fun j hj => hF j (by omega))
  have c0 : ca_ct F i = ca_ct F' i := ca_ct_congr (fun j hj => hF j (by omega))
  have s1 : ca_sn F G (i + 1) = ca_sn F' G' (i + 1) := ca_sn_congr (fun j hj => hF j (by omega)) (fun j hj => hG j (by omega))
  unfold ca_op ca_ex
  rw [c1, c0, s1, hF i (Nat.le_refl i), hG i (Nat.le_refl i)]
/-- a token that takes one formula doesn't look at G -/
theorem ca_op_g {k : Int32} (a : Int32) (F G G' : Nat → Bool) (i : Nat) (h : ca_tk k = 1) : ca_op k a F G i = ca_op k a F G' i := by
  have h8 : ¬ k = 8 := fun z => by rw [z] at h; exact absurd h (by decide)
  have h11 : ¬ k = 11 := fun z => by rw [z] at h; exact absurd h (by decide)
  have h12 : ¬ k = 12 := fun z => by rw [z] at h; exact absurd h (by decide)
  unfold ca_op
  rw [if_neg h8, if_neg h8, if_neg h11, if_neg h11, if_neg h12, if_neg h12]

/-- k is under o; P the parents -/
def ca_un (P : Nat → Int32) (o : Int32) : Nat → Int32 → Bool
  | 0, _ => false
  | n + 1, k => if k < 0 then false else if k = o then true else ca_un P o n (P k.toNatClampNeg)
/-- every parent is none, or has a lesser number -/
def ca_Par (P : Nat → Int32) : Prop := ∀ m, m < 8 → P m = -1 ∨ ∃ q, q < m ∧ P m = nI q
theorem ca_un_neg (P : Nat → Int32) (o : Int32) (n : Nat) : ca_un P o n (-1) = false := by
  cases n with
  | zero => rfl
  | succ n => exact if_pos (by decide)
/-- below o's number there is nothing to find -/
theorem ca_un_lt {P : Nat → Int32} (hP : ca_Par P) {o : Nat} (ho : o < 8) : ∀ n m : Nat, m < o → ca_un P (nI o) n (nI m) = false := by
  intro n
  induction n with
  | zero => intro m _; rfl
  | succ n ih =>
    intro m hm
    show (if nI m < 0 then false else if nI m = nI o then true else ca_un P (nI o) n (P (nI m).toNatClampNeg)) = false
    rw [if_neg (nI_pos (by omega)), if_neg (fun z => by rw [nI_eq (by omega) (by omega)] at z; omega), nI_clamp (by omega)]
    rcases hP m (by omega) with h | ⟨q, hq, h⟩
    · rw [h]; exact ca_un_neg P _ n
    · rw [h]; exact ih q (by omega)

/-- the value of a token that takes no formula, at call i: P parents, C of which sort, N names, M marks, S the stack -/
def ca_tr (P C N M S : Nat → Int32) (k a : Int32) (i : Nat) : Bool :=
  if k = 0 then decide (N (S i).toNatClampNeg = a)
  else if k = 1 then decide (C (S i).toNatClampNeg = a)
  else if k = 2 then ca_un P a 9 (C (S i).toNatClampNeg)
  else if k = 3 then decide ((M (S i).toNatClampNeg >>> (a &&& 31)) &&& 1 = 1)
  else if k = 4 then decide (0 < i) && ca_un P a 9 (C (S (i - 1)).toNatClampNeg)
  else decide (a ≤ nI i)

/-- the draft's height after n tokens of K -/
def ca_h (K : Nat → Int32) : Nat → Nat
  | 0 => 0
  | n + 1 => ca_h K n - ca_tk (K n) + 1
/-- n tokens that the draft takes -/
def ca_wf (K A : Nat → Int32) (n : Nat) : Prop :=
  ∀ t, t < n → (∃ d, d < 14 ∧ K t = nI d) ∧ ((K t = 2 ∨ K t = 4) → ∃ o, o < 8 ∧ A t = nI o) ∧ ca_tk (K t) ≤ ca_h K t ∧ ca_h K (t + 1) ≤ 6
theorem ca_h_congr {K K' : Nat → Int32} {n : Nat} (h : ∀ t, t < n → K t = K' t) : ca_h K n = ca_h K' n := by
  induction n with
  | zero => rfl
  | succ n ih =>
    show ca_h K n - ca_tk (K n) + 1 = ca_h K' n - ca_tk (K' n) + 1
    rw [h n (Nat.lt_succ_self n), ih (fun t ht => h t (by omega))]
theorem ca_wf_congr {K A K' A' : Nat → Int32} {n : Nat} (hK : ∀ t, t < n → K t = K' t) (hA : ∀ t, t < n → A t = A' t) (h : ca_wf K A n) : ca_wf K' A' n := by
  intro t ht
  obtain ⟨h1, h2, h3, h4⟩ := h t ht
  rw [ca_h_congr (n := t) (fun s hs => hK s (by omega)), hK t ht] at h3
  rw [ca_h_congr (n := t + 1) (fun s hs => hK s (by omega))] at h4
  rw [hK t ht] at h1 h2
  rw [hA t ht] at h2
  exact ⟨h1, h2, h3, h4⟩
theorem ca_wf_le {K A : Nat → Int32} {n : Nat} (h : ca_wf K A n) : ca_h K n ≤ 6 := by
  cases n with
  | zero => exact Nat.zero_le 6
  | succ n => exact (h n (Nat.lt_succ_self n)).2.2.2

/-- what stands on the stack of formulas after n tokens: place q, call i -/
def ca_v (T : Int32 → Int32 → Nat → Bool) (K A : Nat → Int32) : Nat → Nat → Nat → Bool
  | 0 => fun _ _ => false
  | n + 1 => fun q i =>
    if q = ca_h K n - ca_tk (K n) then
      (if ca_tk (K n) = 0 then T (K n) (A n) i else ca_op (K n) (A n) (ca_v T K A n q) (ca_v T K A n (q + 1)) i)
    else ca_v T K A n q i
theorem ca_v_0 {T : Int32 → Int32 → Nat → Bool} {K A : Nat → Int32} {n q i : Nat} (hq : q = ca_h K n - ca_tk (K n)) (h : ca_tk (K n) = 0) : ca_v T K A (n + 1) q i = T (K n) (A n) i := by
  show (if q = ca_h K n - ca_tk (K n) then (if ca_tk (K n) = 0 then _ else _) else _) = _
  rw [if_pos hq, if_pos h]
theorem ca_v_op {T : Int32 → Int32 → Nat → Bool} {K A : Nat → Int32} {n q i : Nat} (hq : q = ca_h K n - ca_tk (K n)) (h : ¬ ca_tk (K n) = 0) : ca_v T K A (n + 1) q i = ca_op (K n) (A n) (ca_v T K A n q) (ca_v T K A n (q + 1)) i := by
  show (if q = ca_h K n - ca_tk (K n) then (if ca_tk (K n) = 0 then _ else _) else _) = _
  rw [if_pos hq, if_neg h]
theorem ca_v_n {T : Int32 → Int32 → Nat → Bool} {K A : Nat → Int32} {n q i : Nat} (hq : ¬ q = ca_h K n - ca_tk (K n)) : ca_v T K A (n + 1) q i = ca_v T K A n q i := by
  show (if q = ca_h K n - ca_tk (K n) then _ else _) = _
  rw [if_neg hq]
