/-! the methods that walk formulas -/
section V2
variable {fc ft fh fp fg tp : Int32} {pa cl nm mk st dk da pk ag pt ti cn li se tr pr : Nat → Int32}
theorem cx_isCall {post : Int32 → Prop} {c : Nat} (hc : c < 2 ^ 31) (v : Int32) (h0 : v < 0 → post 0) (h1 : ¬ v < 0 → ¬ v < nI c → post 0) (h2 : ¬ v < 0 → v < nI c → ∀ i, i < c → v = nI i → post 1) : wpX_isCall post (nI c, ft, fh, fp, fg, pa, cl, nm, mk, st, dk, da, pk, ag, pt, ti, cn, li, se) v := by
  unfold wpX_isCall
  by_cases a1 : v < 0
  · exact br_t a1 (h0 a1)
  by_cases a2 : nI c ≤ v
  · exact br_f a1 (br_t a2 (h1 a1 (Int32.not_lt.mpr a2)))
  obtain ⟨i, hi, e⟩ := ca_rng c hc a1 a2
  exact br_f a1 (br_f a2 (h2 a1 (Int32.not_le.mp a2) i hi e))
theorem i_vc_holds {k : Nat} {u : SX} {v : SY} (I : i_Rel k u v) (hk : k + 5 ≤ 2560) (v1 : Int32) (v2 : Int32) : wpX_holds (fun r u' => wpY_holds (fun r' v' => r' = r ∧ i_Rel (k + 5) u' v') v v1 v2) u v1 v2 := by
  have R := i_up I
  obtain ⟨c, t, p, g, pa, cl, nm, mk, st, dk, da, pk, ag, pt, ti, cn, li, se, tp, tr, pr, rfl, rfl, hc, ht, hp6, hg, hP, hC, hS, hD, hQ⟩ := I
  unfold wpX_holds wpY_holds
  refine cx_isPiece (by omega) v1 (fun y => br_t rfl (y (br_t rfl ⟨rfl, R⟩))) (fun q hq e y => br_f (by decide) ?_)
  refine cx_isCall (by omega) v2 (fun a => br_t rfl (y (br_f (by decide) (br_t a ⟨rfl, R⟩)))) (fun a b => br_t rfl (y (br_f (by decide) (br_f a (br_f b ⟨rfl, R⟩))))) (fun a b i hi e2 => br_f (by decide) ?_)
  subst e e2
  refine cx_val hP hC hS (by omega) (hQ q hq) hc (fun r sx hr => cx_has r (by omega) rfl ?_)
  have Z : ∀ (b : Bool) (ty : Int32) (tx px : Nat → Int32), i_Rel (k + 5) (nI c, nI t, nI (ca_h dk t), nI p, nI g, pa, cl, nm, mk, st, dk, da, pk, ag, pt, ti, cn, li, sx) (nI c, nI t, nI (ca_h dk t), nI p, nI g, ty, pa, cl, nm, mk, st, dk, da, pt, ti, cn, pk, ag, li, tx, px) := fun _ _ _ _ => ca_rel c t p g ⟨hc, ht, hp6, by omega, hP, hC, hS, hD, hQ⟩
  rw [hr i hi]
  refine ca_if (fun z => y (br_f (by decide) (br_f a (br_t b (cy_val hP hC hS (by omega) (hQ q hq) (by omega) (fun ty tx px => ?_)))))) (fun z => y (br_f (by decide) (br_f a (br_t b (cy_val hP hC hS (by omega) (hQ q hq) (by omega) (fun ty tx px => ?_))))))
  · rw [z]
    exact br_t rfl ⟨rfl, Z true ty tx px⟩
  · rw [z]
    exact br_f (by decide) ⟨rfl, Z true ty tx px⟩
theorem i_vc_wouldHold {k : Nat} {u : SX} {v : SY} (I : i_Rel k u v) (hk : k + 5 ≤ 2560) (v1 : Int32) (v2 : Int32) : wpX_wouldHold (fun r u' => wpY_wouldHold (fun r' v' => r' = r ∧ i_Rel (k + 5) u' v') v v1 v2) u v1 v2 := by
  have R := i_up I
  obtain ⟨c, t, p, g, pa, cl, nm, mk, st, dk, da, pk, ag, pt, ti, cn, li, se, tp, tr, pr, rfl, rfl, hc, ht, hp6, hg, hP, hC, hS, hD, hQ⟩ := I
  unfold wpX_wouldHold wpY_wouldHold
  refine cx_isPiece (by omega) v1 (fun y => br_t rfl (y (br_t rfl ⟨rfl, R⟩))) (fun q hq e y => br_f (by decide) ?_)
  refine cx_isMethod v2 (fun a => br_t rfl (y (br_f (by decide) (br_t a ⟨rfl, R⟩)))) (fun a b => br_t rfl (y (br_f (by decide) (br_f a (br_t ((ca_nlt (by decide) v2).mp b) ⟨rfl, R⟩))))) (fun m hm e2 => br_f (by decide) ?_)
  subst e e2
  have m0 : ¬ nI m < 0 := nI_pos (by omega)
  have m15 : ¬ 15 < nI m := nI_nlt (a := 15) (by omega) (by decide)
  by_cases a1 : c < 20
  · have hin : vp_in (nI c) 20 := vp_in_nI a1 (by decide)
    have a1' : ¬ nI c = 20 := fun z => absurd ((nI_eq (b := 20) (by omega) (by decide)).mp z) (by omega)
    have hcl : (nI c).toNatClampNeg = c := nI_clamp (by omega)
    have hS' : ca_Stk (upd st c (nI m)) := ca_Stk_u hS hm
    refine br_t (nI_lt (b := 20) a1 (by decide)) ⟨hin, nm_r (e' := upd st c (nI m)) (by rw [hcl]) ?_⟩
    rw [nI_1 c]
    refine cx_val hP hC hS' (by omega) (hQ q hq) (by omega) (fun r sx hr => cx_has r (by omega) rfl ?_)
    have Z : ∀ (ty : Int32) (tx px : Nat → Int32), i_Rel (k + 5) (nI c, nI t, nI (ca_h dk t), nI p, nI g, pa, cl, nm, mk, upd st c (nI m), dk, da, pk, ag, pt, ti, cn, li, sx) (nI c, nI t, nI (ca_h dk t), nI p, nI g, ty, pa, cl, nm, mk, upd st c (nI m), dk, da, pt, ti, cn, pk, ag, li, tx, px) := fun _ _ _ => ca_rel c t p g ⟨hc, ht, hp6, by omega, hP, hC, hS', hD, hQ⟩
    rw [hr c (by omega)]
    refine ca_if (fun z => y (br_f (by decide) (br_f m0 (br_f m15 (br_f a1' ⟨hin, nm_r (e' := upd st c (nI m)) (by rw [hcl]) (cy_val hP hC hS' (by omega) (hQ q hq) a1 (fun ty tx px => ?_))⟩))))) (fun z => y (br_f (by decide) (br_f m0 (br_f m15 (br_f a1' ⟨hin, nm_r (e' := upd st c (nI m)) (by rw [hcl]) (cy_val hP hC hS' (by omega) (hQ q hq) a1 (fun ty tx px => ?_))⟩)))))
    · rw [z]
      exact br_t rfl ⟨rfl, Z ty tx px⟩
    · rw [z]
      exact br_f (by decide) ⟨rfl, Z ty tx px⟩
  · have a1' : nI c = 20 := (nI_eq (b := 20) (by omega) (by decide)).mpr (by omega)
    exact br_f (nI_nlt (b := 20) (by omega) (by omega)) (y (br_f (by decide) (br_f m0 (br_f m15 (br_t a1' ⟨rfl, R⟩)))))
theorem i_vc_would {k : Nat} {u : SX} {v : SY} (I : i_Rel k u v) (hk : k + 5 ≤ 2560) (v1 : Int32) : wpX_would (fun r u' => wpY_would (fun r' v' => r' = r ∧ i_Rel (k + 5) u' v') v v1) u v1 := by
  have R := i_up I
  obtain ⟨c, t, p, g, pa, cl, nm, mk, st, dk, da, pk, ag, pt, ti, cn, li, se, tp, tr, pr, rfl, rfl, hc, ht, hp6, hg, hP, hC, hS, hD, hQ⟩ := I
  unfold wpX_would wpY_would
  refine cx_isPiece (by omega) v1 (fun y => br_t rfl (y (br_t rfl ⟨rfl, R⟩))) (fun q hq e y => br_f (by decide) ?_)
  subst e
  by_cases a1 : c < 20
  · have a1' : ¬ nI c = 20 := fun z => absurd ((nI_eq (b := 20) (by omega) (by decide)).mp z) (by omega)
    refine br_t (nI_lt (b := 20) a1 (by decide)) ⟨17, cx_wouldL hP hC (by omega) (hQ q hq) a1 16 0 0 st se rfl hS (fun sx => ?_)⟩
    refine y (br_f (by decide) (br_f a1' ⟨17, cy_wouldL hP hC (by omega) (hQ q hq) a1 16 0 0 tp st tr pr rfl hS (fun ty tx px => ⟨rfl, ?_⟩)⟩))
    exact ca_rel c t p g ⟨hc, ht, hp6, by omega, hP, hC, ca_wo_stk _ c 16 0 (0, st) rfl hS, hD, hQ⟩
  · have a1' : nI c = 20 := (nI_eq (b := 20) (by omega) (by decide)).mpr (by omega)
    exact br_f (nI_nlt (b := 20) (by omega) (by omega)) (y (br_f (by decide) (br_t a1' ⟨rfl, R⟩)))
theorem i_vc_call {k : Nat} {u : SX} {v : SY} (I : i_Rel k u v) (hk : k + 5 ≤ 2560) (v1 : Int32) : wpX_call (fun r u' => wpY_call (fun r' v' => r' = r ∧ i_Rel (k + 5) u' v') v v1) u v1 := by
  have R := i_up I
  obtain ⟨c, t, p, g, pa, cl, nm, mk, st, dk, da, pk, ag, pt, ti, cn, li, se, tp, tr, pr, rfl, rfl, hc, ht, hp6, hg, hP, hC, hS, hD, hQ⟩ := I
  unfold wpX_call wpY_call
  refine cx_isMethod v1 (fun a => br_t rfl (br_t a ⟨rfl, R⟩)) (fun a b => br_t rfl (br_f a (br_f ((ca_nle (by decide) v1).mp b) ⟨rfl, R⟩))) (fun m hm e => br_f (by decide) ?_)
  subst e
  have m0 : ¬ nI m < 0 := nI_pos (by omega)
  have m15 : nI m ≤ 15 := nI_le (b := 15) (by omega) (by decide)
  by_cases a1 : c < 20
  · have hin : vp_in (nI c) 20 := vp_in_nI a1 (by decide)
    have a1' : ¬ nI c = 20 := fun z => absurd ((nI_eq (b := 20) (by omega) (by decide)).mp z) (by omega)
    have hcl : (nI c).toNatClampNeg = c := nI_clamp (by omega)
    have hS' : ca_Stk (upd st c (nI m)) := ca_Stk_u hS hm
    have hle := ca_gu_le (fun q => decide (ti q = 0) && ca_val (ca_tr pa cl nm mk (upd st c (nI m))) pk ag pt q c) p 0 (g, li, cn)
    refine br_t (nI_lt (b := 20) a1 (by decide)) ⟨hin, nm_r (e' := upd st c (nI m)) (by rw [hcl]) (nm_r (nI_1 c) ⟨p + 1, cx_callL (w := fun q => decide (ti q = 0) && ca_val (ca_tr pa cl nm mk (upd st c (nI m))) pk ag pt q c) hP hC hS' hp6 a1 hQ (fun q _ => rfl) p 0 g li cn se (by omega) (by omega) (fun sx => ?_)⟩)⟩
    refine br_f m0 (br_t m15 (br_f a1' ⟨hin, nm_r (e' := upd st c (nI m)) (by rw [hcl]) (nm_r (nI_1 c) ⟨p + 1, ?_⟩)⟩))
    refine cy_callL (x0 := nI g) (w := fun q => decide (ti q = 0) && ca_val (ca_tr pa cl nm mk (upd st c (nI m))) pk ag pt q c) hP hC hS' hp6 a1 hQ (fun q _ => rfl) p 0 g 0 tp li cn tr pr (by omega) (by omega) (Int32.sub_self _).symm (fun ty tx px => ⟨rfl, ?_⟩)
    exact ca_rel (c + 1) t p _ ⟨by omega, ht, hp6, Nat.le_trans hle (by show g + p ≤ 2 * (k + 5); omega), hP, hC, hS', hD, hQ⟩
  · have a1' : nI c = 20 := (nI_eq (b := 20) (by omega) (by decide)).mpr (by omega)
    exact br_f (nI_nlt (b := 20) (by omega) (by omega)) (br_f m0 (br_t m15 (br_t a1' ⟨rfl, R⟩)))
theorem i_vc_giveBack {k : Nat} {u : SX} {v : SY} (I : i_Rel k u v) (hk : k + 5 ≤ 2560) : wpX_giveBack (fun r u' => wpY_giveBack (fun r' v' => r' = r ∧ i_Rel (k + 5) u' v') v) u := by
  have R := i_up I
  obtain ⟨c, t, p, g, pa, cl, nm, mk, st, dk, da, pk, ag, pt, ti, cn, li, se, tp, tr, pr, rfl, rfl, hc, ht, hp6, hg, hP, hC, hS, hD, hQ⟩ := I
  unfold wpX_giveBack wpY_giveBack
  by_cases a1 : nI c = 0
  · exact br_t a1 (br_t a1 ⟨rfl, R⟩)
  obtain ⟨b, rfl⟩ : ∃ b, c = b + 1 := ⟨c - 1, by
    have z : c ≠ 0 := fun z => a1 (by rw [z]; rfl)
    omega⟩
  have hle := ca_gd_le (fun q => decide (ti q = 1) && ca_val (ca_tr pa cl nm mk st) pk ag pt q b) p (g, li, cn)
  refine br_f a1 (nm_r (ca_dn_m p) ⟨p + 1, cx_backL (w := fun q => decide (ti q = 1) && ca_val (ca_tr pa cl nm mk st) pk ag pt q b) hP hC hS hp6 (by omega) hQ (fun q _ => rfl) p g li cn se (by omega) (by omega) (fun sx => ?_)⟩)
  refine br_f a1 (nm_r (ca_dn_m p) ⟨p + 1, ?_⟩)
  refine cy_backL (x0 := nI g) (w := fun q => decide (ti q = 1) && ca_val (ca_tr pa cl nm mk st) pk ag pt q b) hP hC hS hp6 (by omega) hQ (fun q _ => rfl) p g 0 tp li cn tr pr (by omega) (by omega) (Int32.sub_self _).symm (fun ty tx px => ⟨rfl, ?_⟩)
  exact ca_rel b t p _ ⟨by omega, ht, hp6, Nat.le_trans hle (by show g + p ≤ 2 * (k + 5); omega), hP, hC, hS, hD, hQ⟩
end V2
