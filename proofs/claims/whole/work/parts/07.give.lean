section GV
variable {fc ft fh fp fg tp : Int32} {pa cl nm mk st dk da pk ag pt ti cn li se tr pr : Nat → Int32}
def ca_pc (pk ag pt : Nat → Int32) (q : Nat) : Prop := ∃ n, n ≤ 16 ∧ pt q = nI n ∧ ca_wf (fun t => pk (16 * q + t)) (fun t => ag (16 * q + t)) n ∧ ca_h (fun t => pk (16 * q + t)) n = 1
/-- a piece's formula at call i -/
def ca_val (T : Int32 → Int32 → Nat → Bool) (pk ag pt : Nat → Int32) (q i : Nat) : Bool := ca_v T (fun t => pk (16 * q + t)) (fun t => ag (16 * q + t)) (pt q).toNatClampNeg 0 i
theorem cx_val {post : Int32 → SX → Prop} {q s : Nat} (hP : ca_Par pa) (hC : ca_Cls cl) (hS : ca_Stk st) (hq : q < 6) (hpc : ca_pc pk ag pt q) (hs : s ≤ 20)
    (hp : ∀ r sx, (∀ j, j < s → bt r j = ca_val (ca_tr pa cl nm mk st) pk ag pt q j) → post r (fc, ft, fh, fp, fg, pa, cl, nm, mk, st, dk, da, pk, ag, pt, ti, cn, li, sx)) : wpX_callsWhereHolds post (fc, ft, fh, fp, fg, pa, cl, nm, mk, st, dk, da, pk, ag, pt, ti, cn, li, se) (nI q) (nI s) := by
  obtain ⟨n, hn, hpt, hw, h1⟩ := hpc
  have e : (pt q).toNatClampNeg = n := by rw [hpt, nI_clamp (by omega)]
  refine cx_where hP hC hS hq hn hpt (fun _ => rfl) (fun _ => rfl) hw h1 hs (fun r sx hr => hp r sx (fun j hj => ?_))
  unfold ca_val
  rw [e]
  exact hr j hj
theorem cy_val {post : Int32 → SY → Prop} {q i : Nat} (hP : ca_Par pa) (hC : ca_Cls cl) (hS : ca_Stk st) (hq : q < 6) (hpc : ca_pc pk ag pt q) (hi : i < 20)
    (hp : ∀ ty tx px, post (ca_b (ca_val (ca_tr pa cl nm mk st) pk ag pt q i)) (fc, ft, fh, fp, fg, ty, pa, cl, nm, mk, st, dk, da, pt, ti, cn, pk, ag, li, tx, px)) : wpY_isTrue post (fc, ft, fh, fp, fg, tp, pa, cl, nm, mk, st, dk, da, pt, ti, cn, pk, ag, li, tr, pr) (nI q) (nI i) := by
  obtain ⟨n, hn, hpt, hw, h1⟩ := hpc
  have e : (pt q).toNatClampNeg = n := by rw [hpt, nI_clamp (by omega)]
  refine cy_true hP hC hS hq hn hpt (fun _ => rfl) (fun _ => rfl) hw h1 hi (fun ty tx px => ?_)
  have z := hp ty tx px
  unfold ca_val at z
  rw [e] at z
  exact z
/-- one piece given, if w says so: how many were given, the list, the counts -/
def ca_st (w : Nat → Bool) (q : Nat) (s : Nat × (Nat → Int32) × (Nat → Int32)) : Nat × (Nat → Int32) × (Nat → Int32) :=
  if w q = true then (s.1 + 1, upd s.2.1 (s.1 % 64) (nI q), upd s.2.2 q (s.2.2 q + 1)) else s
theorem ca_st_t {w : Nat → Bool} {q : Nat} {s : Nat × (Nat → Int32) × (Nat → Int32)} (h : w q = true) : ca_st w q s = (s.1 + 1, upd s.2.1 (s.1 % 64) (nI q), upd s.2.2 q (s.2.2 q + 1)) := if_pos h
theorem ca_st_f {w : Nat → Bool} {q : Nat} {s : Nat × (Nat → Int32) × (Nat → Int32)} (h : w q = false) : ca_st w q s = s := if_neg (by rw [h]; decide)
theorem ca_st_le (w : Nat → Bool) (q : Nat) (s : Nat × (Nat → Int32) × (Nat → Int32)) : (ca_st w q s).1 ≤ s.1 + 1 := by
  cases e : w q with
  | false => rw [ca_st_f e]; omega
  | true => rw [ca_st_t e]; exact Nat.le_refl _
/-- m pieces from q on -/
def ca_gu (w : Nat → Bool) : Nat → Nat → Nat × (Nat → Int32) × (Nat → Int32) → Nat × (Nat → Int32) × (Nat → Int32)
  | 0, _, s => s
  | m + 1, q, s => ca_gu w m (q + 1) (ca_st w q s)
/-- the pieces below m, from the top down -/
def ca_gd (w : Nat → Bool) : Nat → Nat × (Nat → Int32) × (Nat → Int32) → Nat × (Nat → Int32) × (Nat → Int32)
  | 0, s => s
  | m + 1, s => ca_gd w m (ca_st w m s)
theorem ca_gu_le (w : Nat → Bool) : ∀ (m q : Nat) (s : Nat × (Nat → Int32) × (Nat → Int32)), (ca_gu w m q s).1 ≤ s.1 + m := by
  intro m
  induction m with
  | zero => intro q s; exact Nat.le_refl _
  | succ m ih =>
    intro q s
    have h1 := ih (q + 1) (ca_st w q s)
    have h2 := ca_st_le w q s
    show (ca_gu w m (q + 1) (ca_st w q s)).1 ≤ s.1 + (m + 1)
    omega
theorem ca_gd_le (w : Nat → Bool) : ∀ (m : Nat) (s : Nat × (Nat → Int32) × (Nat → Int32)), (ca_gd w m s).1 ≤ s.1 + m := by
  intro m
  induction m with
  | zero => intro s; exact Nat.le_refl _
  | succ m ih =>
    intro s
    have h1 := ih (ca_st w m s)
    have h2 := ca_st_le w m s
    show (ca_gd w m (ca_st w m s)).1 ≤ s.1 + (m + 1)
    omega
theorem ca_63 {g : Nat} (h : g < 2 ^ 31) : nI g &&& 63 = nI (g % 64) := pk_andN (by omega) 6 (by decide)
theorem ca_r64 {g : Nat} (h : g < 2 ^ 31) : nI g - nI g / 64 * 64 = nI (g % 64) := pk_rem (d := 64) h (by decide) (by decide)
theorem ca_i1 (x y : Int32) : x - y + 1 = x + 1 - y := by
  rw [Int32.sub_eq_add_neg, Int32.sub_eq_add_neg, Int32.add_assoc, Int32.add_comm (-y), ← Int32.add_assoc]
theorem cx_give {post : SX → Prop} {g q : Nat} (hg : g < 2 ^ 31) (hq : q < 6) (hp : post (fc, ft, fh, fp, nI (g + 1), pa, cl, nm, mk, st, dk, da, pk, ag, pt, ti, upd cn q (cn q + 1), upd li (g % 64) (nI q), se)) : wpX_give post (fc, ft, fh, fp, nI g, pa, cl, nm, mk, st, dk, da, pk, ag, pt, ti, cn, li, se) (nI q) := by
  have hm : g % 64 < 64 := Nat.mod_lt _ (by decide)
  have hq6 : vp_in (nI q) 6 := vp_in_nI hq (by decide)
  have hcq : (nI q).toNatClampNeg = q := nI_clamp (by omega)
  unfold wpX_give
  exact ⟨by rw [ca_63 hg]; exact vp_in_nI hm (by decide), nm_r (e' := upd li (g % 64) (nI q)) (by rw [ca_63 hg, nI_clamp (by omega)]) (nm_r (nI_1 g) ⟨hq6, hq6, nm_r (e' := upd cn q (cn q + 1)) (by rw [hcq]) hp⟩)⟩
theorem cy_giveIf {post : Int32 → SY → Prop} {q c g : Nat} {tm : Int32} {w : Bool} (hP : ca_Par pa) (hC : ca_Cls cl) (hS : ca_Stk st) (hq : q < 6) (hpc : ca_pc pk ag pt q) (hc : c < 20) (hg : g < 2 ^ 31)
    (hw : w = (decide (ti q = tm) && ca_val (ca_tr pa cl nm mk st) pk ag pt q c))
    (h0 : w = false → ∀ ty tx px, post 0 (nI (c + 1), ft, fh, fp, nI g, ty, pa, cl, nm, mk, st, dk, da, pt, ti, cn, pk, ag, li, tx, px))
    (h1 : w = true → ∀ ty tx px, post 1 (nI (c + 1), ft, fh, fp, nI (g + 1), ty, pa, cl, nm, mk, st, dk, da, pt, ti, upd cn q (cn q + 1), pk, ag, upd li (g % 64) (nI q), tx, px)) :
    wpY_giveIf post (nI (c + 1), ft, fh, fp, nI g, tp, pa, cl, nm, mk, st, dk, da, pt, ti, cn, pk, ag, li, tr, pr) (nI q) tm := by
  have hm : g % 64 < 64 := Nat.mod_lt _ (by decide)
  have hq6 : vp_in (nI q) 6 := vp_in_nI hq (by decide)
  have hcq : (nI q).toNatClampNeg = q := nI_clamp (by omega)
  unfold wpY_giveIf
  refine ⟨hq6, ?_⟩
  rw [hcq, nI_pred c]
  by_cases ht : ti q = tm
  · rw [decide_eq_true ht, Bool.true_and] at hw
    refine br_t ht (cy_val hP hC hS hq hpc hc (fun ty tx px => ca_if (fun e => h0 (hw.trans e) ty tx px) (fun e => ⟨by decide, ?_⟩)))
    exact ⟨by rw [ca_r64 hg]; exact vp_in_nI hm (by decide), nm_r (e' := upd li (g % 64) (nI q)) (by rw [ca_r64 hg, nI_clamp (by omega)]) (nm_r (nI_1 g) ⟨hq6, hq6, nm_e (h1 (hw.trans e) ty tx px)⟩)⟩
  · rw [decide_eq_false ht, Bool.false_and] at hw
    exact br_f ht (h0 hw _ _ _)
theorem cx_callL {post : Int32 → SX → Prop} {w : Nat → Bool} {c p : Nat} {x2 : Int32} (hP : ca_Par pa) (hC : ca_Cls cl) (hS : ca_Stk st) (hp6 : p ≤ 6) (hc : c < 20) (hpc : ∀ q, q < p → ca_pc pk ag pt q) (hw : ∀ q, q < p → w q = (decide (ti q = 0) && ca_val (ca_tr pa cl nm mk st) pk ag pt q c)) :
    ∀ (m q g : Nat) (li cn se : Nat → Int32), q + m = p → g + m < 2 ^ 31 → (∀ sx, post (nI (ca_gu w m q (g, li, cn)).1 - x2) (nI (c + 1), ft, fh, nI p, nI (ca_gu w m q (g, li, cn)).1, pa, cl, nm, mk, st, dk, da, pk, ag, pt, ti, (ca_gu w m q (g, li, cn)).2.2, (ca_gu w m q (g, li, cn)).2.1, sx)) → wX_call_49 post x2 (m + 1) (nI q) (nI (c + 1)) ft fh (nI p) (nI g) pa cl nm mk st dk da pk ag pt ti cn li se := by
  intro m
  induction m with
  | zero =>
    intro q g li cn se e hg hp
    exact br_t (nI_le (by omega) (by omega)) (hp se)
  | succ m ih =>
    intro q g li cn se e hg hp
    have hwq := hw q (by omega)
    refine br_f (nI_ge (by omega) (by omega)) (cx_val hP hC hS (by omega) (hpc q (by omega)) (by omega) (fun r sx hr => ⟨vp_in_nI (by omega) (by decide), ?_⟩))
    rw [nI_clamp (show q < 2 ^ 31 by omega)]
    have hs : ca_gu w (m + 1) q (g, li, cn) = ca_gu w m (q + 1) (ca_st w q (g, li, cn)) := rfl
    rw [hs] at hp
    by_cases ht : ti q = 0
    · rw [decide_eq_true ht, Bool.true_and, ← hr c (by omega)] at hwq
      refine br_t ht (cx_has r (by omega) (nI_pred c) (ca_if (fun z => nm_r (nI_1 q) (ih (q + 1) g li cn sx (by omega) (by omega) ?_)) (fun z => cx_give (by omega) (by omega) (nm_r (nI_1 q) (ih (q + 1) (g + 1) _ _ sx (by omega) (by omega) ?_)))))
      · rw [ca_st_f (hwq.trans z)] at hp
        exact hp
      · rw [ca_st_t (hwq.trans z)] at hp
        exact hp
    · rw [decide_eq_false ht, Bool.false_and] at hwq
      rw [ca_st_f hwq] at hp
      exact br_f ht (nm_r (nI_1 q) (ih (q + 1) g li cn sx (by omega) (by omega) hp))
theorem cy_callL {post : Int32 → SY → Prop} {w : Nat → Bool} {c p : Nat} {x0 : Int32} (hP : ca_Par pa) (hC : ca_Cls cl) (hS : ca_Stk st) (hp6 : p ≤ 6) (hc : c < 20) (hpc : ∀ q, q < p → ca_pc pk ag pt q) (hw : ∀ q, q < p → w q = (decide (ti q = 0) && ca_val (ca_tr pa cl nm mk st) pk ag pt q c)) :
    ∀ (m q g : Nat) (x tp : Int32) (li cn tr pr : Nat → Int32), q + m = p → g + m < 2 ^ 31 → x = nI g - x0 → (∀ ty tx px, post (nI (ca_gu w m q (g, li, cn)).1 - x0) (nI (c + 1), ft, fh, nI p, nI (ca_gu w m q (g, li, cn)).1, ty, pa, cl, nm, mk, st, dk, da, pt, ti, (ca_gu w m q (g, li, cn)).2.2, pk, ag, (ca_gu w m q (g, li, cn)).2.1, tx, px)) → wY_call_48 post (m + 1) x (nI q) (nI (c + 1)) ft fh (nI p) (nI g) tp pa cl nm mk st dk da pt ti cn pk ag li tr pr := by
  intro m
  induction m with
  | zero =>
    intro q g x tp li cn tr pr e hg ex hp
    subst ex
    exact br_t (nI_le (by omega) (by omega)) (hp tp tr pr)
  | succ m ih =>
    intro q g x tp li cn tr pr e hg ex hp
    subst ex
    have hs : ca_gu w (m + 1) q (g, li, cn) = ca_gu w m (q + 1) (ca_st w q (g, li, cn)) := rfl
    rw [hs] at hp
    refine br_f (nI_ge (by omega) (by omega)) (cy_giveIf hP hC hS (by omega) (hpc q (by omega)) hc (by omega) (hw q (by omega)) (fun z ty tx px => ?_) (fun z ty tx px => ?_))
    · rw [ca_st_f z] at hp
      exact br_t rfl (nm_r (nI_1 q) (ih (q + 1) g _ ty li cn tx px (by omega) (by omega) rfl hp))
    · rw [ca_st_t z] at hp
      exact br_f (by decide) (nm_r (e' := nI (g + 1) - x0) (by rw [ca_i1, nI_1]) (nm_r (nI_1 q) (ih (q + 1) (g + 1) _ ty _ _ tx px (by omega) (by omega) rfl hp)))
theorem cx_backL {post : Int32 → SX → Prop} {w : Nat → Bool} {c p : Nat} {x2 : Int32} (hP : ca_Par pa) (hC : ca_Cls cl) (hS : ca_Stk st) (hp6 : p ≤ 6) (hc : c < 20) (hpc : ∀ q, q < p → ca_pc pk ag pt q) (hw : ∀ q, q < p → w q = (decide (ti q = 1) && ca_val (ca_tr pa cl nm mk st) pk ag pt q c)) :
    ∀ (m g : Nat) (li cn se : Nat → Int32), m ≤ p → g + m < 2 ^ 31 → (∀ sx, post (nI (ca_gd w m (g, li, cn)).1 - x2) (nI c, ft, fh, nI p, nI (ca_gd w m (g, li, cn)).1, pa, cl, nm, mk, st, dk, da, pk, ag, pt, ti, (ca_gd w m (g, li, cn)).2.2, (ca_gd w m (g, li, cn)).2.1, sx)) → wX_giveBack_21 post x2 (m + 1) (ca_dn m) (nI (c + 1)) ft fh (nI p) (nI g) pa cl nm mk st dk da pk ag pt ti cn li se := by
  intro m
  induction m with
  | zero =>
    intro g li cn se e hg hp
    exact br_t (by decide) (nm_r (nI_pred c) (hp se))
  | succ m ih =>
    intro g li cn se e hg hp
    have hwq := hw m (by omega)
    show wX_giveBack_21 post x2 (m + 1 + 1) (nI m) (nI (c + 1)) ft fh (nI p) (nI g) pa cl nm mk st dk da pk ag pt ti cn li se
    refine br_f (nI_pos (by omega)) (cx_val hP hC hS (by omega) (hpc m (by omega)) (by omega) (fun r sx hr => ⟨vp_in_nI (by omega) (by decide), ?_⟩))
    rw [nI_clamp (show m < 2 ^ 31 by omega)]
    have hs : ca_gd w (m + 1) (g, li, cn) = ca_gd w m (ca_st w m (g, li, cn)) := rfl
    rw [hs] at hp
    by_cases ht : ti m = 1
    · rw [decide_eq_true ht, Bool.true_and, ← hr c (by omega)] at hwq
      refine br_t ht (cx_has r (by omega) (nI_pred c) (ca_if (fun z => nm_r (ca_dn_p m) (ih g li cn sx (by omega) (by omega) ?_)) (fun z => cx_give (by omega) (by omega) (nm_r (ca_dn_p m) (ih (g + 1) _ _ sx (by omega) (by omega) ?_)))))
      · rw [ca_st_f (hwq.trans z)] at hp
        exact hp
      · rw [ca_st_t (hwq.trans z)] at hp
        exact hp
    · rw [decide_eq_false ht, Bool.false_and] at hwq
      rw [ca_st_f hwq] at hp
      exact br_f ht (nm_r (ca_dn_p m) (ih g li cn sx (by omega) (by omega) hp))
theorem cy_backL {post : Int32 → SY → Prop} {w : Nat → Bool} {c p : Nat} {x0 : Int32} (hP : ca_Par pa) (hC : ca_Cls cl) (hS : ca_Stk st) (hp6 : p ≤ 6) (hc : c < 20) (hpc : ∀ q, q < p → ca_pc pk ag pt q) (hw : ∀ q, q < p → w q = (decide (ti q = 1) && ca_val (ca_tr pa cl nm mk st) pk ag pt q c)) :
    ∀ (m g : Nat) (x tp : Int32) (li cn tr pr : Nat → Int32), m ≤ p → g + m < 2 ^ 31 → x = nI g - x0 → (∀ ty tx px, post (nI (ca_gd w m (g, li, cn)).1 - x0) (nI c, ft, fh, nI p, nI (ca_gd w m (g, li, cn)).1, ty, pa, cl, nm, mk, st, dk, da, pt, ti, (ca_gd w m (g, li, cn)).2.2, pk, ag, (ca_gd w m (g, li, cn)).2.1, tx, px)) → wY_giveBack_18 post (m + 1) x (ca_dn m) (nI (c + 1)) ft fh (nI p) (nI g) tp pa cl nm mk st dk da pt ti cn pk ag li tr pr := by
  intro m
  induction m with
  | zero =>
    intro g x tp li cn tr pr e hg ex hp
    subst ex
    exact br_t (by decide) (nm_r (nI_pred c) (hp tp tr pr))
  | succ m ih =>
    intro g x tp li cn tr pr e hg ex hp
    subst ex
    have hs : ca_gd w (m + 1) (g, li, cn) = ca_gd w m (ca_st w m (g, li, cn)) := rfl
    rw [hs] at hp
    show wY_giveBack_18 post (m + 1 + 1) (nI g - x0) (nI m) (nI (c + 1)) ft fh (nI p) (nI g) tp pa cl nm mk st dk da pt ti cn pk ag li tr pr
    refine br_f (nI_pos (by omega)) (cy_giveIf hP hC hS (by omega) (hpc m (by omega)) hc (by omega) (hw m (by omega)) (fun z ty tx px => ?_) (fun z ty tx px => ?_))
    · rw [ca_st_f z] at hp
      exact br_t rfl (nm_r (ca_dn_p m) (ih g _ ty li cn tx px (by omega) (by omega) rfl hp))
    · rw [ca_st_t z] at hp
      exact br_f (by decide) (nm_r (e' := nI (g + 1) - x0) (by rw [ca_i1, nI_1]) (nm_r (ca_dn_p m) (ih (g + 1) _ ty _ _ tx px (by omega) (by omega) rfl hp)))
/-- would: the set so far and the stack, n methods from m on -/
def ca_wo (T : (Nat → Int32) → Bool) (c : Nat) : Nat → Nat → Int32 × (Nat → Int32) → Int32 × (Nat → Int32)
  | 0, _, s => s
  | n + 1, m, s => ca_wo T c n (m + 1) ((if T (upd s.2 c (nI m)) = true then s.1 ||| ((1 : Int32) <<< (nI m &&& 31)) else s.1), upd s.2 c (nI m))
theorem ca_wo_stk (T : (Nat → Int32) → Bool) (c : Nat) : ∀ (n m : Nat) (s : Int32 × (Nat → Int32)), m + n = 16 → ca_Stk s.2 → ca_Stk (ca_wo T c n m s).2 := by
  intro n
  induction n with
  | zero => intro m s _ h; exact h
  | succ n ih =>
    intro m s e h
    exact ih (m + 1) _ (by omega) (ca_Stk_u h (by omega))
theorem cx_wouldL {post : Int32 → SX → Prop} {c q : Nat} (hP : ca_Par pa) (hC : ca_Cls cl) (hq : q < 6) (hpc : ca_pc pk ag pt q) (hc : c < 20) :
    ∀ (n m : Nat) (x : Int32) (st se : Nat → Int32), m + n = 16 → ca_Stk st → (∀ sx, post (ca_wo (fun S => ca_val (ca_tr pa cl nm mk S) pk ag pt q c) c n m (x, st)).1 (nI c, ft, fh, fp, fg, pa, cl, nm, mk, (ca_wo (fun S => ca_val (ca_tr pa cl nm mk S) pk ag pt q c) c n m (x, st)).2, dk, da, pk, ag, pt, ti, cn, li, sx)) → wX_would_26 post (nI q) (n + 1) x (nI m) (nI c) ft fh fp fg pa cl nm mk st dk da pk ag pt ti cn li se := by
  intro n
  induction n with
  | zero =>
    intro m x st se e hS hp
    exact br_t (nI_le (a := 16) (by omega) (by omega)) (hp se)
  | succ n ih =>
    intro m x st se e hS hp
    have hS' : ca_Stk (upd st c (nI m)) := ca_Stk_u hS (by omega)
    have hs : ca_wo (fun S => ca_val (ca_tr pa cl nm mk S) pk ag pt q c) c (n + 1) m (x, st) = ca_wo (fun S => ca_val (ca_tr pa cl nm mk S) pk ag pt q c) c n (m + 1) ((if ca_val (ca_tr pa cl nm mk (upd st c (nI m))) pk ag pt q c = true then x ||| ((1 : Int32) <<< (nI m &&& 31)) else x), upd st c (nI m)) := rfl
    rw [hs] at hp
    refine br_f (nI_ge (b := 16) (by omega) (by decide)) ⟨vp_in_nI hc (by decide), nm_r (e' := upd st c (nI m)) (by rw [nI_clamp (by omega)]) ?_⟩
    rw [nI_1 c]
    refine cx_val hP hC hS' hq hpc (by omega) (fun r sx hr => cx_has r (by omega) rfl (ca_if (fun z => nm_r (nI_1 m) (ih (m + 1) x _ sx (by omega) hS' ?_)) (fun z => nm_e (nm_r (nI_1 m) (ih (m + 1) _ _ sx (by omega) hS' ?_)))))
    · rw [if_neg (by rw [← hr c (by omega), z]; decide)] at hp
      exact hp
    · rw [if_pos (by rw [← hr c (by omega), z])] at hp
      exact hp
theorem cy_wouldL {post : Int32 → SY → Prop} {c q : Nat} (hP : ca_Par pa) (hC : ca_Cls cl) (hq : q < 6) (hpc : ca_pc pk ag pt q) (hc : c < 20) :
    ∀ (n m : Nat) (x tp : Int32) (st tr pr : Nat → Int32), m + n = 16 → ca_Stk st → (∀ ty tx px, post (ca_wo (fun S => ca_val (ca_tr pa cl nm mk S) pk ag pt q c) c n m (x, st)).1 (nI c, ft, fh, fp, fg, ty, pa, cl, nm, mk, (ca_wo (fun S => ca_val (ca_tr pa cl nm mk S) pk ag pt q c) c n m (x, st)).2, dk, da, pt, ti, cn, pk, ag, li, tx, px)) → wY_would_26 post (nI q) (n + 1) x (nI m) (nI c) ft fh fp fg tp pa cl nm mk st dk da pt ti cn pk ag li tr pr := by
  intro n
  induction n with
  | zero =>
    intro m x tp st tr pr e hS hp
    exact br_t (nI_le (a := 16) (by omega) (by omega)) (hp tp tr pr)
  | succ n ih =>
    intro m x tp st tr pr e hS hp
    have hS' : ca_Stk (upd st c (nI m)) := ca_Stk_u hS (by omega)
    have hs : ca_wo (fun S => ca_val (ca_tr pa cl nm mk S) pk ag pt q c) c (n + 1) m (x, st) = ca_wo (fun S => ca_val (ca_tr pa cl nm mk S) pk ag pt q c) c n (m + 1) ((if ca_val (ca_tr pa cl nm mk (upd st c (nI m))) pk ag pt q c = true then x ||| ((1 : Int32) <<< (nI m &&& 31)) else x), upd st c (nI m)) := rfl
    rw [hs] at hp
    refine br_f (nI_ge (b := 16) (by omega) (by decide)) ⟨vp_in_nI hc (by decide), nm_r (e' := upd st c (nI m)) (by rw [nI_clamp (by omega)]) ?_⟩
    refine cy_val hP hC hS' hq hpc hc (fun ty tx px => ca_if (fun z => nm_r (nI_1 m) (ih (m + 1) x ty _ tx px (by omega) hS' ?_)) (fun z => nm_e (nm_r (nI_1 m) (ih (m + 1) _ ty _ tx px (by omega) hS' ?_))))
    · rw [if_neg (by rw [z]; decide)] at hp
      exact hp
    · rw [if_pos z] at hp
      exact hp
end GV
