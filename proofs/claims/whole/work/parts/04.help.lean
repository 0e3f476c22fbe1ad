/-! numbers and branches -/
theorem ca_rng {v : Int32} (n : Nat) (hn : n < 2 ^ 31) (h0 : ¬ v < 0) (h1 : ¬ nI n ≤ v) : ∃ m, m < n ∧ v = nI m := by
  rcases pk_ix v hn with z | z | z
  · exact absurd z h0
  · exact absurd z h1
  · exact z
theorem ca_56 (k : Int32) : 5 < k ↔ ¬ k < 6 := by
  rw [Int32.lt_iff_toInt_lt, Int32.lt_iff_toInt_lt, show (5 : Int32).toInt = 5 by decide, show (6 : Int32).toInt = 6 by decide]
  omega
theorem ca_66 (k : Int32) : 6 ≤ k ↔ ¬ k < 6 := Int32.not_lt.symm
/-- hi1 is hi + 1 -/
theorem ca_nle {hi hi1 : Int32} (h : hi1.toInt = hi.toInt + 1) (x : Int32) : hi1 ≤ x ↔ ¬ x ≤ hi := by
  rw [Int32.le_iff_toInt_le, Int32.le_iff_toInt_le, h]
  omega
theorem ca_nlt {hi hi1 : Int32} (h : hi1.toInt = hi.toInt + 1) (x : Int32) : hi1 ≤ x ↔ hi < x := by
  rw [Int32.le_iff_toInt_le, Int32.lt_iff_toInt_lt, h]
  omega
theorem ca_m1 {o : Nat} (h : o < 2 ^ 31) : ¬ (-1 : Int32) = nI o := fun e => by
  have z := nI_pos h
  rw [← e] at z
  exact z (by decide)
theorem ca_m1le {o : Nat} (h : o < 2 ^ 31) : (-1 : Int32) ≤ nI o := by
  rw [Int32.le_iff_toInt_le, nI_toInt h, show (-1 : Int32).toInt = -1 by decide]
  omega
theorem ca_neg1 {x : Int32} (h : ¬ x < -1) (h0 : x < 0) : x = -1 := by
  apply Int32.toInt_inj.mp
  rw [Int32.lt_iff_toInt_lt, show (-1 : Int32).toInt = -1 by decide] at h
  rw [Int32.lt_iff_toInt_lt, show (0 : Int32).toInt = 0 by decide] at h0
  rw [show (-1 : Int32).toInt = -1 by decide]
  omega
theorem ca_if {b : Bool} {A B : Prop} (h0 : b = false → A) (h1 : b = true → B) : (ca_b b = 0 → A) ∧ (¬ ca_b b = 0 → B) := by
  cases b with
  | false => exact br_t rfl (h0 rfl)
  | true => exact br_f (by decide) (h1 rfl)
theorem ca_if1 {b : Bool} {post : Int32 → Prop} (hp : post (ca_b b)) : (ca_b b = 0 → post 0) ∧ (¬ ca_b b = 0 → post 1) := by
  cases b with
  | false => exact br_t rfl hp
  | true => exact br_f (by decide) hp
theorem ca_dec {c : Prop} {hc : Decidable c} {post : Int32 → Prop} (hp : post (ca_b (@decide c hc))) : (c → post 1) ∧ (¬ c → post 0) := by
  by_cases h : c
  · rw [decide_eq_true h] at hp
    exact br_t h hp
  · rw [decide_eq_false h] at hp
    exact br_f h hp
theorem ca_decl {x y : Int32} {post : Int32 → Prop} (hp : post (ca_b (decide (y ≤ x)))) : (x < y → post 0) ∧ (¬ x < y → post 1) := by
  by_cases h : x < y
  · rw [decide_eq_false (Int32.not_le.mpr h)] at hp
    exact br_t h hp
  · rw [decide_eq_true (Int32.not_lt.mp h)] at hp
    exact br_f h hp
theorem ca_pos0 {n : Nat} (hn : n < 2 ^ 31) {post : Int32 → Prop} (hp : post (ca_b (decide (0 < n)))) : (nI n ≤ 0 → post 0) ∧ (¬ nI n ≤ 0 → post 1) := by
  by_cases h : 0 < n
  · rw [decide_eq_true h] at hp
    exact br_f (nI_nle h hn) hp
  · rw [decide_eq_false h] at hp
    have e : n = 0 := by omega
    subst e
    exact br_t (Int32.le_refl _) hp
theorem ca_is1 {n : Nat} (hn : n < 2 ^ 31) {post : Int32 → Prop} (hp : post (ca_b (decide (n = 1)))) : (nI n = 1 → post 1) ∧ (¬ nI n = 1 → post 0) := by
  by_cases h : n = 1
  · rw [decide_eq_true h] at hp
    subst h
    exact br_t rfl hp
  · rw [decide_eq_false h] at hp
    exact br_f (fun z => h ((nI_eq (b := 1) hn (by decide)).mp z)) hp
theorem ca_tk_0 {k : Int32} (h : k < 6) : ca_tk k = 0 := if_pos h
theorem ca_tk_2 {k : Int32} (h : ¬ k < 6) (h2 : k = 8 ∨ k = 11 ∨ k = 12) : ca_tk k = 2 := (if_neg h).trans (if_pos h2)
theorem ca_tk_1 {k : Int32} (h : ¬ k < 6) (h2 : ¬ (k = 8 ∨ k = 11 ∨ k = 12)) : ca_tk k = 1 := (if_neg h).trans (if_neg h2)
theorem ca_k0 : ∀ d, d < 14 → ca_tk (nI d) = 0 → (nI d = 0 ∨ nI d = 1 ∨ nI d = 2 ∨ nI d = 3 ∨ nI d = 4 ∨ nI d = 5) := by decide +kernel
theorem ca_k1 : ∀ d, d < 14 → ca_tk (nI d) = 1 → (nI d = 6 ∨ nI d = 7 ∨ nI d = 9 ∨ nI d = 10 ∨ nI d = 13) := by decide +kernel
theorem ca_k2 : ∀ d, d < 14 → ca_tk (nI d) = 2 → (nI d = 8 ∨ nI d = 11 ∨ nI d = 12) := by decide +kernel
theorem ca_k12 : ∀ d, d < 14 → ¬ ca_tk (nI d) = 0 → (nI d = 6 ∨ nI d = 7 ∨ nI d = 8 ∨ nI d = 9 ∨ nI d = 10 ∨ nI d = 11 ∨ nI d = 12 ∨ nI d = 13) := by decide +kernel
theorem ca_k14 : ∀ d, d < 14 → (nI d = 0 ∨ nI d = 1 ∨ nI d = 2 ∨ nI d = 3 ∨ nI d = 4 ∨ nI d = 5 ∨ nI d = 6 ∨ nI d = 7 ∨ nI d = 8 ∨ nI d = 9 ∨ nI d = 10 ∨ nI d = 11 ∨ nI d = 12 ∨ nI d = 13) := by decide +kernel
theorem ca_op_6 {a : Int32} {F G : Nat → Bool} {i : Nat} : ca_op 6 a F G i = ca_ex F (i + 1) := if_pos rfl
theorem ca_op_7 {a : Int32} {F G : Nat → Bool} {i : Nat} : ca_op 7 a F G i = ca_ex F i := (if_neg (by decide)).trans (if_pos rfl)
theorem ca_op_8 {a : Int32} {F G : Nat → Bool} {i : Nat} : ca_op 8 a F G i = ca_sn F G (i + 1) := (if_neg (by decide)).trans ((if_neg (by decide)).trans (if_pos rfl))
theorem ca_op_9 {a : Int32} {F G : Nat → Bool} {i : Nat} : ca_op 9 a F G i = decide (a ≤ nI (ca_ct F (i + 1))) := (if_neg (by decide)).trans ((if_neg (by decide)).trans ((if_neg (by decide)).trans (if_pos rfl)))
theorem ca_op_10 {a : Int32} {F G : Nat → Bool} {i : Nat} : ca_op 10 a F G i = !F i := (if_neg (by decide)).trans ((if_neg (by decide)).trans ((if_neg (by decide)).trans ((if_neg (by decide)).trans (if_pos rfl))))
theorem ca_op_11 {a : Int32} {F G : Nat → Bool} {i : Nat} : ca_op 11 a F G i = (F i && G i) := (if_neg (by decide)).trans ((if_neg (by decide)).trans ((if_neg (by decide)).trans ((if_neg (by decide)).trans ((if_neg (by decide)).trans (if_pos rfl)))))
theorem ca_op_12 {a : Int32} {F G : Nat → Bool} {i : Nat} : ca_op 12 a F G i = (F i || G i) := (if_neg (by decide)).trans ((if_neg (by decide)).trans ((if_neg (by decide)).trans ((if_neg (by decide)).trans ((if_neg (by decide)).trans ((if_neg (by decide)).trans (if_pos rfl))))))
theorem ca_op_13 {a : Int32} {F G : Nat → Bool} {i : Nat} : ca_op 13 a F G i = (F i && !ca_ex F i) := (if_neg (by decide)).trans ((if_neg (by decide)).trans ((if_neg (by decide)).trans ((if_neg (by decide)).trans ((if_neg (by decide)).trans ((if_neg (by decide)).trans (if_neg (by decide)))))))
theorem ca_tr_0 {P C N M S : Nat → Int32} {a : Int32} {i : Nat} : ca_tr P C N M S 0 a i = decide (N (S i).toNatClampNeg = a) := if_pos rfl
theorem ca_tr_1 {P C N M S : Nat → Int32} {a : Int32} {i : Nat} : ca_tr P C N M S 1 a i = decide (C (S i).toNatClampNeg = a) := (if_neg (by decide)).trans (if_pos rfl)
theorem ca_tr_2 {P C N M S : Nat → Int32} {a : Int32} {i : Nat} : ca_tr P C N M S 2 a i = ca_un P a 9 (C (S i).toNatClampNeg) := (if_neg (by decide)).trans ((if_neg (by decide)).trans (if_pos rfl))
theorem ca_tr_3 {P C N M S : Nat → Int32} {a : Int32} {i : Nat} : ca_tr P C N M S 3 a i = decide ((M (S i).toNatClampNeg >>> (a &&& 31)) &&& 1 = 1) := (if_neg (by decide)).trans ((if_neg (by decide)).trans ((if_neg (by decide)).trans (if_pos rfl)))
theorem ca_tr_4 {P C N M S : Nat → Int32} {a : Int32} {i : Nat} : ca_tr P C N M S 4 a i = (decide (0 < i) && ca_un P a 9 (C (S (i - 1)).toNatClampNeg)) := (if_neg (by decide)).trans ((if_neg (by decide)).trans ((if_neg (by decide)).trans ((if_neg (by decide)).trans (if_pos rfl))))
theorem ca_tr_5 {P C N M S : Nat → Int32} {a : Int32} {i : Nat} : ca_tr P C N M S 5 a i = decide (a ≤ nI i) := (if_neg (by decide)).trans ((if_neg (by decide)).trans ((if_neg (by decide)).trans ((if_neg (by decide)).trans (if_neg (by decide)))))
theorem ca_hs {H k : Nat} (hk : k ≤ 2) (h : k ≤ H) : nI H + (1 - nI k) = nI (H - k + 1) := by
  rcases (by omega : k = 0 ∨ k = 1 ∨ k = 2) with rfl | rfl | rfl
  · rw [show (1 : Int32) - nI 0 = 1 by decide, nI_1]
    rfl
  · rw [show (1 : Int32) - nI 1 = 0 by decide, Int32.add_zero, show H - 1 + 1 = H by omega]
  · obtain ⟨q, rfl⟩ : ∃ q, H = q + 2 := ⟨H - 2, by omega⟩
    rw [show (1 : Int32) - nI 2 = -1 by decide, show q + 2 - 2 + 1 = q + 1 by omega]
    exact pk_m1 (q + 1)
theorem ca_20 (f j : Nat) : (20 : Int32) * nI f + nI j = nI (20 * f + j) := (congrArg (fun x => x + nI j) (pk_mul 20 f)).trans (nI_add _ _)
theorem ca_16 (f j : Nat) : (16 : Int32) * nI f + nI j = nI (16 * f + j) := (congrArg (fun x => x + nI j) (pk_mul 16 f)).trans (nI_add _ _)
/-- the number below n, from the top down: -1 behind 0 -/
def ca_dn : Nat → Int32
  | 0 => -1
  | n + 1 => nI n
theorem ca_dn_p (n : Nat) : nI n + (-1) = ca_dn n := by
  cases n with
  | zero => decide
  | succ n => exact pk_m1 n
theorem ca_dn_m (n : Nat) : nI n - 1 = ca_dn n := by
  cases n with
  | zero => decide
  | succ n => exact nI_pred n
def ca_Cls (C : Nat → Int32) : Prop := ∀ m, ∃ q, q < 8 ∧ C m = nI q
def ca_Stk (S : Nat → Int32) : Prop := ∀ i, ∃ m, m < 16 ∧ S i = nI m
theorem ca_Stk_u {S : Nat → Int32} {i m : Nat} (h : ca_Stk S) (hm : m < 16) : ca_Stk (upd S i (nI m)) := fun j => by
  by_cases e : j = i
  · subst e
    exact ⟨m, hm, pk_us⟩
  · rw [pk_un e]
    exact h j
theorem ca_Cls_u {C : Nat → Int32} {i q : Nat} (h : ca_Cls C) (hq : q < 8) : ca_Cls (upd C i (nI q)) := fun j => by
  by_cases e : j = i
  · subst e
    exact ⟨q, hq, pk_us⟩
  · rw [pk_un e]
    exact h j
