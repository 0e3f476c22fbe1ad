section YW
variable {fc ft fh fp fg tp : Int32} {pa cl nm mk st dk da pk ag pt ti cn li se tr pr : Nat → Int32}
theorem cy_taken {post : Int32 → Prop} (k : Int32) (hp : post (nI (ca_tk k))) : wpY_takes post (fc, ft, fh, fp, fg, tp, pa, cl, nm, mk, st, dk, da, pt, ti, cn, pk, ag, li, tr, pr) k := by
  unfold wpY_takes
  by_cases a : 6 ≤ k
  · have a6 : ¬ k < 6 := (ca_66 k).mp a
    refine br_t a (br_c (fun b => ?_) (fun b8 => br_c (fun b => ?_) (fun b11 => br_c (fun b => ?_) (fun b12 => ?_))))
    · rw [ca_tk_2 a6 (Or.inl b)] at hp
      exact hp
    · rw [ca_tk_2 a6 (Or.inr (Or.inl b))] at hp
      exact hp
    · rw [ca_tk_2 a6 (Or.inr (Or.inr b))] at hp
      exact hp
    · rw [ca_tk_1 a6 (fun z => z.elim b8 (fun z => z.elim b11 b12))] at hp
      exact hp
  · rw [ca_tk_0 (Decidable.byContradiction fun z => a ((ca_66 k).mpr z))] at hp
    exact br_f a hp
theorem cy_under2 {post : Int32 → Prop} (hP : ca_Par pa) {o : Nat} (ho : o < 8) : ∀ (n : Nat) (k : Int32), (k = -1 ∨ ∃ m, m + 1 ≤ n ∧ m < 8 ∧ k = nI m) → post (ca_b (ca_un pa (nI o) (n + 1) k)) → wY_isUnder_2 post (nI o) fc ft fh fp fg tp pa cl nm mk st dk da pt ti cn pk ag li tr pr (n + 1) k := by
  intro n
  induction n with
  | zero =>
    intro k hk hp
    rcases hk with hk | ⟨m, hm, _⟩
    · subst hk
      rw [ca_un_neg] at hp
      exact br_t (by decide) (br_f (ca_m1 (by omega)) hp)
    · omega
  | succ n ih =>
    intro k hk hp
    rcases hk with hk | ⟨m, hm, hm8, hk⟩
    · subst hk
      rw [ca_un_neg] at hp
      exact br_t (by decide) (br_f (ca_m1 (by omega)) hp)
    · subst hk
      by_cases hmo : m = o
      · subst hmo
        have e : ca_un pa (nI m) (n + 1 + 1) (nI m) = true := by
          show (if nI m < 0 then false else if nI m = nI m then true else _) = true
          rw [if_neg (nI_pos (by omega)), if_pos rfl]
        rw [e] at hp
        exact br_f (nI_pos (by omega)) (br_t rfl (br_t rfl hp))
      · have hne : ¬ nI m = nI o := fun z => hmo ((nI_eq (by omega) (by omega)).mp z)
        have e : ca_un pa (nI o) (n + 1 + 1) (nI m) = ca_un pa (nI o) (n + 1) (pa m) := by
          show (if nI m < 0 then false else if nI m = nI o then true else ca_un pa (nI o) (n + 1) (pa (nI m).toNatClampNeg)) = _
          rw [if_neg (nI_pos (by omega)), if_neg hne, nI_clamp (by omega)]
        rw [e] at hp
        refine br_f (nI_pos (by omega)) (br_f hne ⟨vp_in_nI hm8 (by decide), nm_r (e' := pa m) (by rw [nI_clamp (by omega)]) (ih (pa m) ?_ hp)⟩)
        rcases hP m hm8 with q | ⟨q, hq, e⟩
        · exact Or.inl q
        · exact Or.inr ⟨q, by omega, by omega, e⟩
theorem cy_under {post : Int32 → Prop} (hP : ca_Par pa) {o m : Nat} (ho : o < 8) (hm : m < 8) (hp : post (ca_b (ca_un pa (nI o) 9 (nI m)))) : wpY_isUnder post (fc, ft, fh, fp, fg, tp, pa, cl, nm, mk, st, dk, da, pt, ti, cn, pk, ag, li, tr, pr) (nI m) (nI o) := by
  unfold wpY_isUnder
  exact ⟨9, cy_under2 hP ho 8 (nI m) (Or.inr ⟨m, by omega, hm, rfl⟩) hp⟩
theorem cy_simple {post : Int32 → Prop} (hP : ca_Par pa) (hC : ca_Cls cl) (hS : ca_Stk st) {k a : Int32} (hk : k = 0 ∨ k = 1 ∨ k = 2 ∨ k = 3 ∨ k = 4 ∨ k = 5) (ha : (k = 2 ∨ k = 4) → ∃ o, o < 8 ∧ a = nI o) {i : Nat} (hi : i < 20) (hp : post (ca_b (ca_tr pa cl nm mk st k a i))) : wpY_simple post (fc, ft, fh, fp, fg, tp, pa, cl, nm, mk, st, dk, da, pt, ti, cn, pk, ag, li, tr, pr) k a (nI i) := by
  obtain ⟨m, hm, em⟩ := hS i
  have hin : vp_in (st i) 16 := by
    rw [em]
    exact vp_in_nI hm (by decide)
  unfold wpY_simple
  refine ⟨vp_in_nI hi (by decide), nm_r (e' := st i) (by rw [nI_clamp (by omega)]) ?_⟩
  rcases hk with rfl | rfl | rfl | rfl | rfl | rfl
  · rw [ca_tr_0] at hp
    exact br_f (by decide) (br_f (by decide) (br_t rfl ⟨hin, ca_dec hp⟩))
  · rw [ca_tr_1] at hp
    exact br_f (by decide) (br_f (by decide) (br_f (by decide) (br_t rfl ⟨hin, ca_dec hp⟩)))
  · rw [ca_tr_2] at hp
    obtain ⟨o, ho, rfl⟩ := ha (Or.inl rfl)
    obtain ⟨q, hq, eq⟩ := hC (st i).toNatClampNeg
    rw [eq] at hp
    refine br_f (by decide) (br_f (by decide) (br_f (by decide) (br_f (by decide) (br_t rfl ⟨hin, ?_⟩))))
    rw [eq]
    exact cy_under hP ho hq ⟨ca_b_n _, hp⟩
  · rw [ca_tr_3] at hp
    exact br_f (by decide) (br_f (by decide) (br_f (by decide) (br_f (by decide) (br_f (by decide) (br_t rfl ⟨hin, ca_dec hp⟩)))))
  · rw [ca_tr_4] at hp
    obtain ⟨o, ho, rfl⟩ := ha (Or.inr rfl)
    refine br_f (by decide) (br_f (by decide) (br_f (by decide) (br_f (by decide) (br_f (by decide) (br_f (by decide) (br_t rfl ?_))))))
    cases i with
    | zero => exact br_t (by decide) hp
    | succ j =>
      obtain ⟨q, hq, eq⟩ := hC (st j).toNatClampNeg
      obtain ⟨m', hm', em'⟩ := hS j
      rw [decide_eq_true (Nat.succ_pos j), Bool.true_and, Nat.add_sub_cancel, eq] at hp
      refine br_f (nI_nle (by omega) (by omega)) ?_
      rw [nI_pred j, nI_clamp (show j < 2 ^ 31 by omega), eq]
      exact ⟨vp_in_nI (by omega) (by decide), by rw [em']; exact vp_in_nI hm' (by decide), cy_under hP ho hq (ca_if1 hp)⟩
  · rw [ca_tr_5] at hp
    exact br_f (by decide) (br_t (by decide) (ca_decl hp))
theorem cy_often {post : Int32 → Prop} {F : Nat → Bool} {f e : Nat} {x : Int32} (hf : f < 16) (he : e ≤ 20) (hx : ∀ j, j ≤ 20 → (x < nI j ↔ e ≤ j)) (hT : ∀ j, j < e → tr (20 * f + j) = ca_b (F j)) (hp : post (nI (ca_ct F e))) : wpY_often post (fc, ft, fh, fp, fg, tp, pa, cl, nm, mk, st, dk, da, pt, ti, cn, pk, ag, li, tr, pr) (nI f) x := by
  have L : ∀ n j : Nat, j + n = e → wY_often_5 post (nI f) x fc ft fh fp fg tp pa cl nm mk st dk da pt ti cn pk ag li tr pr (n + 1) (nI (ca_ct F j)) (nI j) := by
    intro n
    induction n with
    | zero =>
      intro j ej
      have ej' : j = e := ej
      rw [ej']
      exact br_t ((hx e he).mpr (Nat.le_refl e)) hp
    | succ n ih =>
      intro j ej
      refine br_f (fun z => absurd ((hx j (by omega)).mp z) (by omega)) ?_
      rw [ca_20 f j, nI_clamp (show 20 * f + j < 2 ^ 31 by omega), hT j (by omega)]
      refine ⟨vp_in_nI (by omega) (by decide), ca_if (fun q => nm_r (nI_1 j) ?_) (fun q => nm_r (nI_1 _) (nm_r (nI_1 j) ?_))⟩
      · rw [← ca_ct_f q]
        exact ih (j + 1) (by omega)
      · rw [← ca_ct_t q]
        exact ih (j + 1) (by omega)
  unfold wpY_often
  exact ⟨e + 1, L e 0 (by omega)⟩
theorem cy_since {post : Int32 → Prop} {F G : Nat → Bool} {f g : Nat} (hf : f < 16) (hg : g < 16) {i : Nat} (hi : i < 20) (hF : ∀ j, j ≤ i → tr (20 * f + j) = ca_b (F j)) (hG : ∀ j, j ≤ i → tr (20 * g + j) = ca_b (G j)) (hp : post (ca_b (ca_sn F G (i + 1)))) : wpY_since post (fc, ft, fh, fp, fg, tp, pa, cl, nm, mk, st, dk, da, pt, ti, cn, pk, ag, li, tr, pr) (nI f) (nI g) (nI i) := by
  have L : ∀ n : Nat, n ≤ i + 1 → post (ca_b (ca_sn F G n)) → wY_since_3 post (nI f) (nI g) fc ft fh fp fg tp pa cl nm mk st dk da pt ti cn pk ag li tr pr (n + 1) (ca_dn n) := by
    intro n
    induction n with
    | zero =>
      intro _ hq
      exact br_t (by decide) hq
    | succ n ih =>
      intro hn hq
      have es : ca_sn F G (n + 1) = (G n || (F n && ca_sn F G n)) := rfl
      rw [es] at hq
      show wY_since_3 post (nI f) (nI g) fc ft fh fp fg tp pa cl nm mk st dk da pt ti cn pk ag li tr pr (n + 1 + 1) (nI n)
      refine br_f (nI_pos (by omega)) ?_
      rw [ca_20 f n, ca_20 g n, nI_clamp (show 20 * f + n < 2 ^ 31 by omega), nI_clamp (show 20 * g + n < 2 ^ 31 by omega), hF n (by omega), hG n (by omega)]
      refine ⟨vp_in_nI (by omega) (by decide), ca_if (fun qg => ⟨vp_in_nI (by omega) (by decide), ca_if (fun qf => ?_) (fun qf => nm_r (ca_dn_p n) ?_)⟩) (fun qg => ?_)⟩
      · rw [qg, qf] at hq
        exact hq
      · rw [qg, qf] at hq
        exact ih (by omega) hq
      · rw [qg] at hq
        exact hq
  unfold wpY_since
  exact ⟨i + 1 + 1, L (i + 1) (Nat.le_refl _) hp⟩
theorem cy_rd {f i : Nat} {b : Int32} (hf : f < 16) (hi : i < 20) (h : tr (20 * f + i) = b) : tr ((20 : Int32) * nI f + nI i).toNatClampNeg = b := by
  rw [ca_20, nI_clamp (by omega), h]
theorem cy_in {f i : Nat} (hf : f < 16) (hi : i < 20) : vp_in ((20 : Int32) * nI f + nI i) 320 := by
  rw [ca_20]
  exact vp_in_nI (by omega) (by decide)
theorem cy_x0 {i : Nat} (hi : i < 20) : ∀ j, j ≤ 20 → (nI i < nI j ↔ i + 1 ≤ j) := fun j hj => by
  rw [nI_ltI (by omega) (by omega)]
  omega
theorem cy_x1 {i : Nat} (hi : i < 20) : ∀ j, j ≤ 20 → (nI i - 1 < nI j ↔ i ≤ j) := fun j hj => by
  cases i with
  | zero => exact ⟨fun _ => Nat.zero_le j, fun _ => by
      rw [Int32.lt_iff_toInt_lt, nI_toInt (show j < 2 ^ 31 by omega), show (nI 0 - 1).toInt = -1 by decide]
      omega⟩
  | succ i =>
    rw [nI_pred, nI_ltI (by omega) (by omega)]
    omega
theorem cy_joined {post : Int32 → Prop} {F G : Nat → Bool} {k a : Int32} (hk : k = 6 ∨ k = 7 ∨ k = 8 ∨ k = 9 ∨ k = 10 ∨ k = 11 ∨ k = 12 ∨ k = 13) {f g : Nat} (hf : f < 16) (hg : g < 16) {i : Nat} (hi : i < 20) (hF : ∀ j, j ≤ i → tr (20 * f + j) = ca_b (F j)) (hG : ∀ j, j ≤ i → tr (20 * g + j) = ca_b (G j)) (hp : post (ca_b (ca_op k a F G i))) : wpY_joined post (fc, ft, fh, fp, fg, tp, pa, cl, nm, mk, st, dk, da, pt, ti, cn, pk, ag, li, tr, pr) k a (nI f) (nI g) (nI i) := by
  have hle := ca_ct_le F (i + 1)
  have hle0 := ca_ct_le F i
  unfold wpY_joined
  refine ⟨cy_in hf hi, nm_r (cy_rd hf hi (hF i (Nat.le_refl i))) ⟨cy_in hg hi, nm_r (cy_rd hg hi (hG i (Nat.le_refl i))) ?_⟩⟩
  rcases hk with rfl | rfl | rfl | rfl | rfl | rfl | rfl | rfl
  · rw [ca_op_6] at hp
    exact br_f (by decide) (br_f (by decide) (br_t rfl (cy_often (F := F) (e := i + 1) hf (by omega) (cy_x0 hi) (fun j hj => hF j (by omega)) (ca_pos0 (by omega) hp))))
  · rw [ca_op_7] at hp
    exact br_f (by decide) (br_f (by decide) (br_f (by decide) (br_t rfl (cy_often (F := F) (e := i) hf (by omega) (cy_x1 hi) (fun j hj => hF j (by omega)) (ca_pos0 (by omega) hp)))))
  · rw [ca_op_8] at hp
    exact br_f (by decide) (br_f (by decide) (br_f (by decide) (br_f (by decide) (br_t rfl (cy_since hf hg hi hF hG ⟨ca_b_n _, hp⟩)))))
  · rw [ca_op_9] at hp
    exact br_f (by decide) (br_f (by decide) (br_f (by decide) (br_f (by decide) (br_f (by decide) (br_t rfl (cy_often (F := F) (e := i + 1) hf (by omega) (cy_x0 hi) (fun j hj => hF j (by omega)) (ca_decl hp)))))))
  · rw [ca_op_10] at hp
    refine br_f (by decide) (br_f (by decide) (br_f (by decide) (br_f (by decide) (br_f (by decide) (br_f (by decide) (br_t rfl (ca_if (fun q => ?_) (fun q => ?_))))))))
    · rw [q] at hp
      exact hp
    · rw [q] at hp
      exact hp
  · rw [ca_op_11] at hp
    refine br_f (by decide) (br_f (by decide) (br_f (by decide) (br_f (by decide) (br_f (by decide) (br_f (by decide) (br_f (by decide) (br_t rfl (ca_if (fun q => ?_) (fun q => ?_)))))))))
    · rw [q] at hp
      exact hp
    · rw [q, Bool.true_and] at hp
      exact ca_if1 hp
  · rw [ca_op_12] at hp
    refine br_f (by decide) (br_f (by decide) (br_f (by decide) (br_f (by decide) (br_f (by decide) (br_f (by decide) (br_f (by decide) (br_f (by decide) (br_t rfl (ca_if (fun q => ?_) (fun q => ?_))))))))))
    · rw [q, Bool.false_or] at hp
      exact ca_if1 hp
    · rw [q] at hp
      exact hp
  · rw [ca_op_13, ← ca_one] at hp
    refine br_f (by decide) (br_t (by decide) (ca_if (fun q => ?_) (fun q => ?_)))
    · rw [q] at hp
      exact hp
    · rw [q, Bool.true_and] at hp
      exact cy_often (F := F) (e := i + 1) hf (by omega) (cy_x0 hi) (fun j hj => hF j (by omega)) (ca_is1 (by omega) hp)
theorem cy_inner {post : Int32 → SY → Prop} {J7 : Int32 → Int32 → (Nat → Int32) → (Nat → Int32) → (Nat → Int32) → (Nat → Int32) → (Nat → Int32) → (Nat → Int32) → (Nat → Int32) → (Nat → Int32) → (Nat → Int32) → (Nat → Int32) → (Nat → Int32) → (Nat → Int32) → (Nat → Int32) → (Nat → Int32) → (Nat → Int32) → Prop} {x1 k a x6 x7 : Int32} {i t : Nat} {V : Nat → Bool} (hi : i < 20) (ht : t < 16)
    (hv : ∀ tx : Nat → Int32, (∀ j, j < 20 * t → tx j = tr j) → ∀ j, j ≤ i → ∀ Q : Int32 → Prop, Q (ca_b (V j)) → wpY_takes (fun r => (r = 0 → wpY_simple Q (fc, ft, fh, fp, fg, tp, pa, cl, nm, mk, st, dk, da, pt, ti, cn, pk, ag, li, tx, pr) k a (nI j)) ∧ (¬ r = 0 → wpY_joined Q (fc, ft, fh, fp, fg, tp, pa, cl, nm, mk, st, dk, da, pt, ti, cn, pk, ag, li, tx, pr) k a x6 x7 (nI j))) (fc, ft, fh, fp, fg, tp, pa, cl, nm, mk, st, dk, da, pt, ti, cn, pk, ag, li, tx, pr) k)
    (hJ : ∀ tx : Nat → Int32, (∀ j, j < 20 * t → tx j = tr j) → (∀ j, j ≤ i → tx (20 * t + j) = ca_b (V j)) → vp_in tp 8 ∧ ∀ px, px = upd pr tp.toNatClampNeg (nI t) → ∀ ty, ty = tp + 1 → ∀ z, z = nI t + 1 → J7 z ty pa cl nm mk st dk da pt ti cn pk ag li tx px) :
    ∃ n, wY_isTrue_113 post J7 x1 (nI i) (nI t) k a x6 x7 fc ft fh fp fg tp n 0 pa cl nm mk st dk da pt ti cn pk ag li tr pr := by
  have L : ∀ (n j : Nat) (tx : Nat → Int32), j + n = i + 1 → (∀ z, z < 20 * t → tx z = tr z) → (∀ z, z < j → tx (20 * t + z) = ca_b (V z)) → wY_isTrue_113 post J7 x1 (nI i) (nI t) k a x6 x7 fc ft fh fp fg tp (n + 1) (nI j) pa cl nm mk st dk da pt ti cn pk ag li tx pr := by
    intro n
    induction n with
    | zero =>
      intro j tx ej h1 h2
      exact br_t (nI_lt (by omega) (by omega)) (hJ tx h1 (fun z hz => h2 z (by omega)))
    | succ n ih =>
      intro j tx ej h1 h2
      refine br_f (nI_nlt (by omega) (by omega)) (hv tx h1 j (by omega) _ ⟨cy_in ht (by omega), nm_r (e' := upd tx (20 * t + j) (ca_b (V j))) (by rw [ca_20, nI_clamp (by omega), ca_b_v]) (nm_r (nI_1 j) (ih (j + 1) _ (by omega) (fun z hz => ?_) (fun z hz => ?_)))⟩)
      · rw [pk_un (by omega)]
        exact h1 z hz
      · by_cases e : z = j
        · subst e
          exact pk_us
        · rw [pk_un (by omega)]
          exact h2 z (by omega)
  exact ⟨i + 1 + 1, L (i + 1) 0 tr (by omega) (fun _ _ => rfl) (fun z hz => absurd hz (Nat.not_lt_zero z))⟩
def cy_I (T : Int32 → Int32 → Nat → Bool) (K A : Nat → Int32) (i t : Nat) (tx px : Nat → Int32) : Prop :=
  (∀ z, z < ca_h K t → ∃ y, y < t ∧ px z = nI y ∧ ∀ j, j ≤ i → tx (20 * y + j) = ca_b (ca_v T K A t z j)) ∧ (0 < t → px (ca_h K t - 1) = nI (t - 1))
theorem cy_I_s {T : Int32 → Int32 → Nat → Bool} {K A : Nat → Int32} {i t : Nat} {tx px ty : Nat → Int32} (hi : i < 20) (H : cy_I T K A i t tx px) (h1 : ∀ j, j < 20 * t → ty j = tx j) (h2 : ∀ j, j ≤ i → ty (20 * t + j) = ca_b (ca_v T K A (t + 1) (ca_h K t - ca_tk (K t)) j)) : cy_I T K A i (t + 1) ty (upd px (ca_h K t - ca_tk (K t)) (nI t)) := by
  have e2 : ca_h K (t + 1) = ca_h K t - ca_tk (K t) + 1 := rfl
  refine ⟨fun z hz => ?_, fun _ => ?_⟩
  · by_cases e : z = ca_h K t - ca_tk (K t)
    · subst e
      exact ⟨t, Nat.lt_succ_self t, pk_us, h2⟩
    · obtain ⟨y, hy, ey, hv⟩ := H.1 z (by omega)
      refine ⟨y, by omega, by rw [pk_un e, ey], fun j hj => ?_⟩
      rw [h1 _ (by omega), ca_v_n e]
      exact hv j hj
  · rw [e2, Nat.add_sub_cancel, Nat.add_sub_cancel]
    exact pk_us
theorem cy_true {post : Int32 → SY → Prop} {K A : Nat → Int32} {q n i : Nat} (hP : ca_Par pa) (hC : ca_Cls cl) (hS : ca_Stk st) (hq : q < 6) (hn : n ≤ 16) (hpt : pt q = nI n) (hK : ∀ t, pk (16 * q + t) = K t) (hA : ∀ t, ag (16 * q + t) = A t) (hw : ca_wf K A n) (h1 : ca_h K n = 1) (hi : i < 20)
    (hp : ∀ ty tx px, post (ca_b (ca_v (ca_tr pa cl nm mk st) K A n 0 i)) (fc, ft, fh, fp, fg, ty, pa, cl, nm, mk, st, dk, da, pt, ti, cn, pk, ag, li, tx, px)) : wpY_isTrue post (fc, ft, fh, fp, fg, tp, pa, cl, nm, mk, st, dk, da, pt, ti, cn, pk, ag, li, tr, pr) (nI q) (nI i) := by
  have hcq : (nI q).toNatClampNeg = q := nI_clamp (by omega)
  have hqin : vp_in (nI q) 6 := vp_in_nI hq (by decide)
  have L : ∀ (m t : Nat) (tx px : Nat → Int32), t + m = n → cy_I (ca_tr pa cl nm mk st) K A i t tx px → wY_isTrue_7 post (nI q) (nI i) fc ft fh fp fg (m + 1) (nI t) (nI (ca_h K t)) pa cl nm mk st dk da pt ti cn pk ag li tx px := by
    intro m
    induction m with
    | zero =>
      intro t tx px e H
      have e' : t = n := e
      subst e'
      have h0 : 0 < t := by
        rcases Nat.eq_zero_or_pos t with z | z
        · rw [z] at h1
          exact absurd h1 (show ¬ (0 : Nat) = 1 by decide)
        · exact z
      obtain ⟨y, hy, ey, hv⟩ := H.1 0 (by omega)
      have hl := H.2 h0
      rw [h1] at hl
      have ey' : y = t - 1 := (nI_eq (by omega) (by omega)).mp (ey.symm.trans hl)
      have eix : ((20 : Int32) * nI t - 20) + nI i = nI (20 * y + i) := by
        have e1 : (20 : Int32) * nI t - 20 = nI (20 * t - 20) := (congrArg (fun x => x - 20) (pk_mul 20 t)).trans (pk_sub (b := 20) (by omega))
        rw [e1, nI_add]
        exact congrArg nI (by omega)
      have ev : tx (nI (20 * y + i)).toNatClampNeg = ca_b (ca_v (ca_tr pa cl nm mk st) K A t 0 i) := by
        rw [nI_clamp (by omega)]
        exact hv i (Nat.le_refl i)
      refine ⟨hqin, ?_⟩
      rw [hcq, hpt, eix, ev]
      exact br_t (Int32.le_refl _) ⟨hqin, vp_in_nI (by omega) (by decide), ca_b_n _, hp _ _ _⟩
    | succ m ih =>
      intro t tx px e H
      obtain ⟨⟨d, hd, ed⟩, ha, htk, h6⟩ := hw t (by omega)
      have hle := ca_tk_le (K t)
      have e2 : ca_h K (t + 1) = ca_h K t - ca_tk (K t) + 1 := rfl
      have hH : ca_h K t ≤ 6 := ca_wf_le (A := A) (n := t) (fun z hz => hw z (by omega))
      have hcl : (nI (ca_h K t - ca_tk (K t))).toNatClampNeg = ca_h K t - ca_tk (K t) := nI_clamp (by omega)
      have h8 : vp_in (nI (ca_h K t - ca_tk (K t))) 8 := vp_in_nI (by omega) (by decide)
      have ei : ((16 : Int32) * nI q + nI t).toNatClampNeg = 16 * q + t := by rw [ca_16, nI_clamp (by omega)]
      have h96 : vp_in ((16 : Int32) * nI q + nI t) 96 := by
        rw [ca_16]
        exact vp_in_nI (by omega) (by decide)
      have hJ : ∀ ty : Nat → Int32, (∀ j, j < 20 * t → ty j = tx j) → (∀ j, j ≤ i → ty (20 * t + j) = ca_b (ca_v (ca_tr pa cl nm mk st) K A (t + 1) (ca_h K t - ca_tk (K t)) j)) → vp_in (nI (ca_h K t - ca_tk (K t))) 8 ∧ ∀ pz, pz = upd px (nI (ca_h K t - ca_tk (K t))).toNatClampNeg (nI t) → ∀ tz, tz = nI (ca_h K t - ca_tk (K t)) + 1 → ∀ z, z = nI t + 1 → wY_isTrue_7 post (nI q) (nI i) fc ft fh fp fg (m + 1) z tz pa cl nm mk st dk da pt ti cn pk ag li ty pz := by
        intro ty h3 h4
        rw [hcl]
        exact ⟨h8, nm_e (nm_r (nI_1 _) (nm_r (nI_1 t) (ih (t + 1) ty _ (by omega) (cy_I_s hi H h3 h4))))⟩
      refine ⟨hqin, ?_⟩
      rw [hcq, hpt]
      refine br_f (nI_ge (by omega) (by omega)) ⟨h96, nm_r (e' := K t) (by rw [ei, hK]) ⟨h96, nm_r (e' := A t) (by rw [ei, hA]) (cy_taken (K t) (nm_r (pk_sub htk) (cy_taken (K t) ?_)))⟩⟩
      rcases (by omega : ca_tk (K t) = 0 ∨ ca_tk (K t) = 1 ∨ ca_tk (K t) = 2) with ek | ek | ek
      · refine br_t (by rw [ek]; decide) ?_
        unfold wY_isTrue_80
        refine cy_taken (K t) (br_t (by rw [ek]; decide) (cy_inner (V := fun j => ca_v (ca_tr pa cl nm mk st) K A (t + 1) (ca_h K t - ca_tk (K t)) j) hi (by omega) (fun ty h3 j hj Q hQ => ?_) hJ))
        refine cy_taken (K t) (br_t (by rw [ek]; rfl) (cy_simple hP hC hS (by rw [ed] at ek ⊢; exact ca_k0 d hd ek) ha (by omega) ?_))
        rw [ca_v_0 rfl ek] at hQ
        exact hQ
      · obtain ⟨y, hy, ey, hv⟩ := H.1 (ca_h K t - ca_tk (K t)) (by omega)
        refine br_f (by rw [ek]; decide) ⟨h8, ?_⟩
        rw [hcl, ey]
        unfold wY_isTrue_80
        refine cy_taken (K t) (br_t (by rw [ek]; decide) (cy_inner (V := fun j => ca_v (ca_tr pa cl nm mk st) K A (t + 1) (ca_h K t - ca_tk (K t)) j) hi (by omega) (fun ty h3 j hj Q hQ => ?_) hJ))
        refine cy_taken (K t) (br_f (by rw [ek]; decide) (cy_joined (F := ca_v (ca_tr pa cl nm mk st) K A t (ca_h K t - ca_tk (K t))) (G := ca_v (ca_tr pa cl nm mk st) K A t (ca_h K t - ca_tk (K t))) (by rw [ed] at ek ⊢; exact ca_k12 d hd (by omega)) (by omega) (by omega) (by omega) (fun z hz => ?_) (fun z hz => ?_) ?_))
        · rw [h3 _ (by omega)]
          exact hv z (by omega)
        · rw [h3 _ (by omega)]
          exact hv z (by omega)
        · rw [ca_v_op rfl (by omega), ca_op_g _ _ _ (ca_v (ca_tr pa cl nm mk st) K A t (ca_h K t - ca_tk (K t))) _ ek] at hQ
          exact hQ
      · obtain ⟨y, hy, ey, hv⟩ := H.1 (ca_h K t - ca_tk (K t)) (by omega)
        obtain ⟨y2, hy2, ey2, hv2⟩ := H.1 (ca_h K t - ca_tk (K t) + 1) (by omega)
        refine br_f (by rw [ek]; decide) ⟨h8, ?_⟩
        rw [hcl, ey]
        unfold wY_isTrue_80
        refine cy_taken (K t) (br_f (by rw [ek]; decide) ⟨by rw [nI_1]; exact vp_in_nI (by omega) (by decide), nm_r (e' := nI y2) (by rw [nI_1, nI_clamp (by omega), ey2]) (cy_inner (V := fun j => ca_v (ca_tr pa cl nm mk st) K A (t + 1) (ca_h K t - ca_tk (K t)) j) hi (by omega) (fun ty h3 j hj Q hQ => ?_) hJ)⟩)
        refine cy_taken (K t) (br_f (by rw [ek]; decide) (cy_joined (F := ca_v (ca_tr pa cl nm mk st) K A t (ca_h K t - ca_tk (K t))) (G := ca_v (ca_tr pa cl nm mk st) K A t (ca_h K t - ca_tk (K t) + 1)) (by rw [ed] at ek ⊢; exact ca_k12 d hd (by omega)) (by omega) (by omega) (by omega) (fun z hz => ?_) (fun z hz => ?_) ?_))
        · rw [h3 _ (by omega)]
          exact hv z (by omega)
        · rw [h3 _ (by omega)]
          exact hv2 z (by omega)
        · rw [ca_v_op rfl (by omega)] at hQ
          exact hQ
  unfold wpY_isTrue
  exact ⟨n + 1, L n 0 tr pr (by omega) ⟨fun z hz => absurd hz (Nat.not_lt_zero z), fun z => absurd z (Nat.lt_irrefl 0)⟩⟩
end YW
