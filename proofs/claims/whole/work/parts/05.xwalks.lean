section XW
variable {fc ft fh fp fg tp : Int32} {pa cl nm mk st dk da pk ag pt ti cn li se tr pr : Nat → Int32}
theorem cx_isMethod {post : Int32 → Prop} (v : Int32) (h0 : v < 0 → post 0) (h1 : ¬ v < 0 → 16 ≤ v → post 0) (h2 : ∀ m, m < 16 → v = nI m → post 1) : wpX_isMethod post (fc, ft, fh, fp, fg, pa, cl, nm, mk, st, dk, da, pk, ag, pt, ti, cn, li, se) v := by
  unfold wpX_isMethod
  refine br_c h0 (fun a => br_c (h1 a) (fun b => ?_))
  obtain ⟨m, hm, e⟩ := ca_rng 16 (by decide) a b
  exact h2 m hm e
theorem cx_taken {post : Int32 → Prop} (k : Int32) (hp : post (nI (ca_tk k))) : wpX_formulasTaken post (fc, ft, fh, fp, fg, pa, cl, nm, mk, st, dk, da, pk, ag, pt, ti, cn, li, se) k := by
  unfold wpX_formulasTaken
  by_cases a : 5 < k
  · have a6 : ¬ k < 6 := (ca_56 k).mp a
    refine br_t a (br_c (fun b => ?_) (fun b8 => br_c (fun b => ?_) (fun b11 => br_c (fun b => ?_) (fun b12 => ?_))))
    · rw [ca_tk_2 a6 (Or.inl b)] at hp
      exact hp
    · rw [ca_tk_2 a6 (Or.inr (Or.inl b))] at hp
      exact hp
    · rw [ca_tk_2 a6 (Or.inr (Or.inr b))] at hp
      exact hp
    · rw [ca_tk_1 a6 (fun z => z.elim b8 (fun z => z.elim b11 b12))] at hp
      exact hp
  · rw [ca_tk_0 (Decidable.byContradiction fun z => a ((ca_56 k).mpr z))] at hp
    exact br_f a hp
theorem cx_has {post : Int32 → Prop} (x : Int32) {y : Int32} {i : Nat} (hi : i < 32) (hy : y = nI i) (hp : post (ca_b (bt x i))) : wpX_hasCall post (fc, ft, fh, fp, fg, pa, cl, nm, mk, st, dk, da, pk, ag, pt, ti, cn, li, se) x y := by
  subst hy
  unfold wpX_hasCall
  cases e : bt x i with
  | true =>
    rw [e] at hp
    exact br_t ((ca_bit x hi).mpr e) hp
  | false =>
    rw [e] at hp
    exact br_f (fun z => by rw [(ca_bit x hi).mp z] at e; exact absurd e (by decide)) hp
theorem cx_under5 {post : Int32 → Prop} (hP : ca_Par pa) {o : Nat} (ho : o < 8) : ∀ (n s : Nat) (k : Int32), n + s = 8 → (k = -1 ∨ ∃ m, m + s ≤ 7 ∧ k = nI m) → post (ca_b (ca_un pa (nI o) (n + 1) k)) → wX_isUnder_5 post (nI o) fc ft fh fp fg pa cl nm mk st dk da pk ag pt ti cn li se (n + 1) k (nI s) := by
  intro n
  induction n with
  | zero =>
    intro s k hs hk hp
    have h8 : (8 : Int32) ≤ nI s := nI_le (a := 8) (by omega) (by omega)
    rcases hk with hk | ⟨m, hm, _⟩
    · subst hk
      rw [ca_un_neg] at hp
      exact br_t h8 (br_f (ca_m1 (by omega)) hp)
    · omega
  | succ n ih =>
    intro s k hs hk hp
    have h8 : ¬ (8 : Int32) ≤ nI s := nI_ge (b := 8) (by omega) (by decide)
    rcases hk with hk | ⟨m, hm, hk⟩
    · subst hk
      rw [ca_un_neg] at hp
      exact br_f h8 (br_t (ca_m1le (by omega)) (br_f (ca_m1 (by omega)) hp))
    · subst hk
      rcases Nat.lt_trichotomy m o with hmo | hmo | hmo
      · rw [ca_un_lt hP ho _ m hmo] at hp
        exact br_f h8 (br_t (nI_le (by omega) (by omega)) (br_f (fun z => absurd ((nI_eq (by omega) (by omega)).mp z) (by omega)) hp))
      · subst hmo
        have e : ca_un pa (nI m) (n + 1 + 1) (nI m) = true := by
          show (if nI m < 0 then false else if nI m = nI m then true else _) = true
          rw [if_neg (nI_pos (by omega)), if_pos rfl]
        rw [e] at hp
        exact br_f h8 (br_t (Int32.le_refl _) (br_t rfl hp))
      · have e : ca_un pa (nI o) (n + 1 + 1) (nI m) = ca_un pa (nI o) (n + 1) (pa m) := by
          show (if nI m < 0 then false else if nI m = nI o then true else ca_un pa (nI o) (n + 1) (pa (nI m).toNatClampNeg)) = _
          rw [if_neg (nI_pos (by omega)), if_neg (fun z => absurd ((nI_eq (by omega) (by omega)).mp z) (by omega)), nI_clamp (by omega)]
        rw [e] at hp
        refine br_f h8 (br_f (nI_ge hmo (by omega)) ⟨vp_in_nI (by omega) (by decide), nm_r (e' := pa m) (by rw [nI_clamp (by omega)]) (nm_r (nI_1 s) (ih (s + 1) (pa m) (by omega) ?_ hp))⟩)
        rcases hP m (by omega) with q | ⟨q, hq, e⟩
        · exact Or.inl q
        · exact Or.inr ⟨q, by omega, e⟩
theorem cx_under {post : Int32 → Prop} (hP : ca_Par pa) {o m : Nat} (ho : o < 8) (hm : m < 8) (hp : post (ca_b (ca_un pa (nI o) 9 (nI m)))) : wpX_isUnder post (fc, ft, fh, fp, fg, pa, cl, nm, mk, st, dk, da, pk, ag, pt, ti, cn, li, se) (nI m) (nI o) := by
  unfold wpX_isUnder
  exact ⟨9, cx_under5 hP ho 8 0 (nI m) rfl (Or.inr ⟨m, by omega, rfl⟩) hp⟩
theorem cx_trait {post : Int32 → Prop} (hP : ca_Par pa) (hC : ca_Cls cl) (hS : ca_Stk st) {k a : Int32} (hk : k = 0 ∨ k = 1 ∨ k = 2 ∨ k = 3 ∨ k = 4 ∨ k = 5) (ha : (k = 2 ∨ k = 4) → ∃ o, o < 8 ∧ a = nI o) {i : Nat} (hi : i < 20) (hp : post (ca_b (ca_tr pa cl nm mk st k a i))) : wpX_hasTrait post (fc, ft, fh, fp, fg, pa, cl, nm, mk, st, dk, da, pk, ag, pt, ti, cn, li, se) k a (nI i) := by
  obtain ⟨m, hm, em⟩ := hS i
  have hin : vp_in (st i) 16 := by
    rw [em]
    exact vp_in_nI hm (by decide)
  unfold wpX_hasTrait
  refine ⟨vp_in_nI hi (by decide), nm_r (e' := st i) (by rw [nI_clamp (by omega)]) ?_⟩
  rcases hk with rfl | rfl | rfl | rfl | rfl | rfl
  · rw [ca_tr_0] at hp
    exact br_f (by decide) (br_f (by decide) (br_t rfl ⟨hin, ca_dec hp⟩))
  · rw [ca_tr_1] at hp
    exact br_f (by decide) (br_f (by decide) (br_f (by decide) (br_t rfl ⟨hin, ca_dec hp⟩)))
  · rw [ca_tr_2] at hp
    obtain ⟨o, ho, rfl⟩ := ha (Or.inl rfl)
    obtain ⟨q, hq, eq⟩ := hC (st i).toNatClampNeg
    rw [eq] at hp
    refine br_f (by decide) (br_f (by decide) (br_f (by decide) (br_f (by decide) (br_t rfl ⟨hin, ?_⟩))))
    rw [eq]
    exact cx_under hP ho hq ⟨ca_b_n _, hp⟩
  · rw [ca_tr_3] at hp
    exact br_f (by decide) (br_f (by decide) (br_f (by decide) (br_f (by decide) (br_f (by decide) (br_t rfl ⟨hin, ca_dec hp⟩)))))
  · rw [ca_tr_4] at hp
    obtain ⟨o, ho, rfl⟩ := ha (Or.inr rfl)
    refine br_f (by decide) (br_f (by decide) (br_f (by decide) (br_f (by decide) (br_f (by decide) (br_f (by decide) (br_t rfl ?_))))))
    cases i with
    | zero => exact br_t (by decide) hp
    | succ j =>
      obtain ⟨q, hq, eq⟩ := hC (st j).toNatClampNeg
      obtain ⟨m', hm', em'⟩ := hS j
      rw [decide_eq_true (Nat.succ_pos j), Bool.true_and, Nat.add_sub_cancel, eq] at hp
      refine br_f (nI_nle (by omega) (by omega)) ?_
      rw [nI_pred j, nI_clamp (show j < 2 ^ 31 by omega), eq]
      exact ⟨vp_in_nI (by omega) (by decide), by rw [em']; exact vp_in_nI hm' (by decide), cx_under hP ho hq (ca_if1 hp)⟩
  · rw [ca_tr_5] at hp
    exact br_f (by decide) (br_t (by decide) (ca_decl hp))
theorem cx_traits {post : Int32 → Prop} (hP : ca_Par pa) (hC : ca_Cls cl) (hS : ca_Stk st) {k a : Int32} (hk : k = 0 ∨ k = 1 ∨ k = 2 ∨ k = 3 ∨ k = 4 ∨ k = 5) (ha : (k = 2 ∨ k = 4) → ∃ o, o < 8 ∧ a = nI o) {s : Nat} (hs : s ≤ 20) (hp : ∀ r, ca_is r (ca_tr pa cl nm mk st k a) s → post r) : wpX_callsWithTrait post (fc, ft, fh, fp, fg, pa, cl, nm, mk, st, dk, da, pk, ag, pt, ti, cn, li, se) k a (nI s) := by
  have L : ∀ (n i : Nat) (x : Int32), i + n = s → ca_is x (ca_tr pa cl nm mk st k a) i → wX_callsWithTrait_6 post k a (nI s) fc ft fh fp fg pa cl nm mk st dk da pk ag pt ti cn li se (n + 1) x (nI i) := by
    intro n
    induction n with
    | zero =>
      intro i x e hx
      have e' : i = s := e
      rw [e'] at hx
      exact br_t (nI_le (by omega) (by omega)) (hp x hx)
    | succ n ih =>
      intro i x e hx
      refine br_f (nI_ge (by omega) (by omega)) (cx_trait hP hC hS hk ha (by omega) ?_)
      exact ca_if (fun q => nm_r (nI_1 i) (ih (i + 1) x (by omega) (ca_is_f hx q))) (fun q => nm_e (nm_r (nI_1 i) (ih (i + 1) _ (by omega) (ca_is_t (by omega) hx q))))
  unfold wpX_callsWithTrait
  exact ⟨s + 1, L s 0 0 (by omega) (ca_is_0 _)⟩
theorem cx_atleast {post : Int32 → Prop} {a f : Int32} {s : Nat} (hs : s ≤ 20) (hp : ∀ r, ca_is r (fun j => decide (a ≤ nI (ca_ct (bt f) (j + 1)))) s → post r) : wpX_callsAtLeast post (fc, ft, fh, fp, fg, pa, cl, nm, mk, st, dk, da, pk, ag, pt, ti, cn, li, se) a f (nI s) := by
  have L : ∀ (n i : Nat) (x : Int32), i + n = s → ca_is x (fun j => decide (a ≤ nI (ca_ct (bt f) (j + 1)))) i → wX_callsAtLeast_9 post a f (nI s) fc ft fh fp fg pa cl nm mk st dk da pk ag pt ti cn li se (n + 1) x (nI (ca_ct (bt f) i)) (nI i) := by
    intro n
    induction n with
    | zero =>
      intro i x e hx
      have e' : i = s := e
      rw [e'] at hx
      exact br_t (nI_le (by omega) (by omega)) (hp x hx)
    | succ n ih =>
      intro i x e hx
      have K : ∀ y, y = nI (ca_ct (bt f) (i + 1)) → wX_callsAtLeast_28 post (wX_callsAtLeast_9 post a f (nI s) fc ft fh fp fg pa cl nm mk st dk da pk ag pt ti cn li se (n + 1)) a f (nI s) x y (nI i) fc ft fh fp fg pa cl nm mk st dk da pk ag pt ti cn li se := by
        intro y ey
        subst ey
        unfold wX_callsAtLeast_28
        by_cases q : nI (ca_ct (bt f) (i + 1)) < a
        · exact br_t q (nm_r (nI_1 i) (ih (i + 1) x (by omega) (ca_is_f hx (decide_eq_false (Int32.not_le.mpr q)))))
        · exact br_f q (nm_e (nm_r (nI_1 i) (ih (i + 1) _ (by omega) (ca_is_t (by omega) hx (decide_eq_true (Int32.not_lt.mp q))))))
      refine br_f (nI_ge (by omega) (by omega)) (cx_has f (by omega) rfl ?_)
      exact ca_if (fun q => K _ (by rw [ca_ct_f q])) (fun q => nm_r (nI_1 _) (K _ (by rw [ca_ct_t q])))
  unfold wpX_callsAtLeast
  exact ⟨s + 1, L s 0 0 (by omega) (ca_is_0 _)⟩
theorem cx_one {post : Int32 → Prop} {k a f : Int32} (hk : k = 6 ∨ k = 7 ∨ k = 9 ∨ k = 10 ∨ k = 13) {s : Nat} (hs : s ≤ 20) (G : Nat → Bool) (hp : ∀ r, (∀ j, j < s → bt r j = ca_op k a (bt f) G j) → post r) : wpX_callsFromOne post (fc, ft, fh, fp, fg, pa, cl, nm, mk, st, dk, da, pk, ag, pt, ti, cn, li, se) k a f (nI s) := by
  have hall : ∀ j, j < s → bt (((1 : Int32) <<< (nI s &&& 31)) - 1) j = true := fun j hj => by
    rw [ca_all s (by omega) j (by omega)]
    exact decide_eq_true hj
  unfold wpX_callsFromOne
  refine nm_e (nm_e (nm_e ?_))
  rcases hk with rfl | rfl | rfl | rfl | rfl
  · refine br_f (by decide) (br_f (by decide) (br_t rfl (hp _ fun j hj => ?_)))
    rw [b_and, hall j hj, Bool.and_true, ca_from f (by omega), ca_op_6]
  · refine br_f (by decide) (br_f (by decide) (br_f (by decide) (br_t rfl (hp _ fun j hj => ?_))))
    rw [b_and, b_and, hall j hj, Bool.and_true, ca_not _ (by omega), ca_from f (by omega), ca_first f (by omega), ca_op_7, ca_ex_s]
    cases bt f j <;> cases ca_ex (bt f) j <;> rfl
  · refine br_f (by decide) (br_f (by decide) (br_f (by decide) (br_f (by decide) (br_f (by decide) (br_t rfl (cx_atleast hs fun r hr => hp r fun j hj => ?_))))))
    rw [ca_op_9]
    exact ca_is_bt hr (by omega) hj
  · refine br_f (by decide) (br_f (by decide) (br_f (by decide) (br_f (by decide) (br_f (by decide) (br_f (by decide) (br_t rfl (hp _ fun j hj => ?_)))))))
    rw [b_and, hall j hj, Bool.and_true, ca_not _ (by omega), ca_op_10]
  · refine br_f (by decide) (br_t (by decide) (hp _ fun j hj => ?_))
    rw [ca_first f (by omega), ca_op_13]
theorem cx_since {post : Int32 → Prop} {f g : Int32} {s : Nat} (hs : s ≤ 20) (hp : ∀ r, ca_is r (fun j => ca_sn (bt f) (bt g) (j + 1)) s → post r) : wpX_callsSince post (fc, ft, fh, fp, fg, pa, cl, nm, mk, st, dk, da, pk, ag, pt, ti, cn, li, se) f g (nI s) := by
  have L : ∀ (n i : Nat) (x : Int32), i + n = s → ca_is x (fun j => ca_sn (bt f) (bt g) (j + 1)) i → wX_callsSince_9 post f g (nI s) fc ft fh fp fg pa cl nm mk st dk da pk ag pt ti cn li se (n + 1) x (ca_b (ca_sn (bt f) (bt g) i)) (nI i) := by
    intro n
    induction n with
    | zero =>
      intro i x e hx
      have e' : i = s := e
      rw [e'] at hx
      exact br_t (nI_le (by omega) (by omega)) (hp x hx)
    | succ n ih =>
      intro i x e hx
      have K : ∀ z, z = ca_b (ca_sn (bt f) (bt g) (i + 1)) → wX_callsSince_45 post (wX_callsSince_9 post f g (nI s) fc ft fh fp fg pa cl nm mk st dk da pk ag pt ti cn li se (n + 1)) f g (nI s) x (nI i) z fc ft fh fp fg pa cl nm mk st dk da pk ag pt ti cn li se := by
        intro z ez
        subst ez
        unfold wX_callsSince_45
        exact ca_if (fun q => nm_r (nI_1 i) (ih (i + 1) x (by omega) (ca_is_f hx q))) (fun q => nm_e (nm_r (nI_1 i) (ih (i + 1) _ (by omega) (ca_is_t (by omega) hx q))))
      have es : ca_sn (bt f) (bt g) (i + 1) = (bt g i || (bt f i && ca_sn (bt f) (bt g) i)) := rfl
      refine br_f (nI_ge (by omega) (by omega)) (cx_has g (by omega) rfl ?_)
      refine ca_if (fun qg => ?_) (fun qg => ?_)
      · refine ca_if (fun qs => ?_) (fun qs => ?_)
        · exact K 0 (by rw [es, qg, qs, Bool.and_false]; rfl)
        · refine cx_has f (by omega) rfl (ca_if (fun qf => ?_) (fun qf => ?_))
          · exact K 0 (by rw [es, qg, qf]; rfl)
          · exact K 1 (by rw [es, qg, qf, qs]; rfl)
      · exact K 1 (by rw [es, qg]; rfl)
  unfold wpX_callsSince
  exact ⟨s + 1, L s 0 0 (by omega) (ca_is_0 _)⟩
theorem cx_two {post : Int32 → Prop} {k f g : Int32} (a : Int32) (hk : k = 8 ∨ k = 11 ∨ k = 12) {s : Nat} (hs : s ≤ 20) (hp : ∀ r, (∀ j, j < s → bt r j = ca_op k a (bt f) (bt g) j) → post r) : wpX_callsFromTwo post (fc, ft, fh, fp, fg, pa, cl, nm, mk, st, dk, da, pk, ag, pt, ti, cn, li, se) k f g (nI s) := by
  unfold wpX_callsFromTwo
  rcases hk with rfl | rfl | rfl
  · refine br_f (by decide) (br_f (by decide) (cx_since hs fun r hr => hp r fun j hj => ?_))
    rw [ca_op_8]
    exact ca_is_bt hr (by omega) hj
  · exact br_t rfl (hp _ fun j _ => by rw [ca_op_11, b_and])
  · exact br_f (by decide) (br_t rfl (hp _ fun j _ => by rw [ca_op_12, b_or]))
theorem cx_step {sx : Nat → Int32} {T : Int32 → Int32 → Nat → Bool} {K A : Nat → Int32} {t s : Nat} {r : Int32} (H : ∀ q, q < ca_h K t → ∀ j, j < s → bt (sx q) j = ca_v T K A t q j) (hr : ∀ j, j < s → bt r j = ca_v T K A (t + 1) (ca_h K t - ca_tk (K t)) j) : ∀ q, q < ca_h K (t + 1) → ∀ j, j < s → bt (upd sx (ca_h K t - ca_tk (K t)) r q) j = ca_v T K A (t + 1) q j := by
  intro q hq j hj
  by_cases e : q = ca_h K t - ca_tk (K t)
  · subst e
    rw [pk_us]
    exact hr j hj
  · rw [pk_un e, ca_v_n e]
    have e2 : ca_h K (t + 1) = ca_h K t - ca_tk (K t) + 1 := rfl
    exact H q (by omega) j hj
theorem cx_where {post : Int32 → SX → Prop} {K A : Nat → Int32} {q n s : Nat} (hP : ca_Par pa) (hC : ca_Cls cl) (hS : ca_Stk st) (hq : q < 6) (hn : n ≤ 16) (hpt : pt q = nI n) (hK : ∀ t, pk (16 * q + t) = K t) (hA : ∀ t, ag (16 * q + t) = A t) (hw : ca_wf K A n) (h1 : ca_h K n = 1) (hs : s ≤ 20)
    (hp : ∀ r sx, (∀ j, j < s → bt r j = ca_v (ca_tr pa cl nm mk st) K A n 0 j) → post r (fc, ft, fh, fp, fg, pa, cl, nm, mk, st, dk, da, pk, ag, pt, ti, cn, li, sx)) : wpX_callsWhereHolds post (fc, ft, fh, fp, fg, pa, cl, nm, mk, st, dk, da, pk, ag, pt, ti, cn, li, se) (nI q) (nI s) := by
  have L : ∀ (m t : Nat) (sx : Nat → Int32), t + m = n → (∀ z, z < ca_h K t → ∀ j, j < s → bt (sx z) j = ca_v (ca_tr pa cl nm mk st) K A t z j) → wX_callsWhereHolds_21 post (nI s) (nI (16 * q + n)) fc ft fh fp fg (m + 1) (nI (ca_h K t)) (nI (16 * q + t)) pa cl nm mk st dk da pk ag pt ti cn li sx := by
    intro m
    induction m with
    | zero =>
      intro t sx e H
      have e' : t = n := e
      subst e'
      exact br_t (Int32.le_refl _) (hp (sx 0) sx (H 0 (by omega)))
    | succ m ih =>
      intro t sx e H
      obtain ⟨⟨d, hd, ed⟩, ha, htk, h6⟩ := hw t (by omega)
      have hle := ca_tk_le (K t)
      have e2 : ca_h K (t + 1) = ca_h K t - ca_tk (K t) + 1 := rfl
      have hH : ca_h K t ≤ 6 := ca_wf_le (A := A) (n := t) (fun z hz => hw z (by omega))
      have hcl : (nI (ca_h K t - ca_tk (K t))).toNatClampNeg = ca_h K t - ca_tk (K t) := nI_clamp (by omega)
      have hin : vp_in (nI (ca_h K t - ca_tk (K t))) 6 := vp_in_nI (by omega) (by decide)
      have ei : (nI (16 * q + t)).toNatClampNeg = 16 * q + t := nI_clamp (by omega)
      have h96 : vp_in (nI (16 * q + t)) 96 := vp_in_nI (by omega) (by decide)
      refine br_f (nI_ge (by omega) (by omega)) ⟨h96, nm_r (e' := K t) (by rw [ei, hK]) ⟨h96, nm_r (e' := A t) (by rw [ei, hA]) (cx_taken (K t) (nm_r (ca_hs hle htk) (nm_r (nI_pred _) ?_)))⟩⟩
      rw [hcl]
      rcases (by omega : ca_tk (K t) = 0 ∨ ca_tk (K t) = 1 ∨ ca_tk (K t) = 2) with ek | ek | ek
      · refine br_t (by rw [ek]; rfl) (cx_traits hP hC hS (by rw [ed] at ek ⊢; exact ca_k0 d hd ek) ha hs fun r hr => ⟨hin, nm_e (nm_r (nI_1 _) (ih (t + 1) _ (by omega) (cx_step H fun j hj => ?_)))⟩)
        rw [ca_v_0 rfl ek]
        exact ca_is_bt hr (by omega) hj
      · refine br_f (by rw [ek]; decide) (br_t (by rw [ek]; rfl) ⟨hin, cx_one (by rw [ed] at ek ⊢; exact ca_k1 d hd ek) hs (ca_v (ca_tr pa cl nm mk st) K A t (ca_h K t - ca_tk (K t) + 1)) fun r hr => ⟨hin, nm_e (nm_r (nI_1 _) (ih (t + 1) _ (by omega) (cx_step H fun j hj => ?_)))⟩⟩)
        rw [ca_v_op rfl (by omega), hr j hj]
        exact ca_op_congr _ _ (fun i hi => H _ (by omega) i (by omega)) (fun i _ => rfl)
      · refine br_f (by rw [ek]; decide) (br_f (by rw [ek]; decide) ?_)
        rw [nI_1 (ca_h K t - ca_tk (K t)), nI_clamp (show ca_h K t - ca_tk (K t) + 1 < 2 ^ 31 by omega)]
        refine ⟨hin, vp_in_nI (by omega) (by decide), cx_two (A t) (by rw [ed] at ek ⊢; exact ca_k2 d hd ek) hs fun r hr => ⟨hin, nm_e (nm_r (nI_1 _) (ih (t + 1) _ (by omega) (cx_step H fun j hj => ?_)))⟩⟩
        rw [ca_v_op rfl (by omega), hr j hj]
        exact ca_op_congr _ _ (fun i hi => H _ (by omega) i (by omega)) (fun i hi => H _ (by omega) i (by omega))
  unfold wpX_callsWhereHolds
  exact nm_r (e' := nI (16 * q)) ((pk_mul q 16).trans (by rw [Nat.mul_comm])) ⟨vp_in_nI hq (by decide), nm_r (e' := nI (16 * q + n)) (by rw [nI_clamp (by omega), hpt, nI_add]) ⟨n + 1, L n 0 se (by omega) (fun z hz => absurd hz (Nat.not_lt_zero _))⟩⟩
end XW
