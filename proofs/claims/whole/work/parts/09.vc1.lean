/-! the methods that walk no formula -/
section V1
variable {fc ft fh fp fg tp : Int32} {pa cl nm mk st dk da pk ag pt ti cn li se tr pr : Nat → Int32}
theorem i_vc_derive {k : Nat} {u : SX} {v : SY} (I : i_Rel k u v) (hk : k + 5 ≤ 2560) (v1 : Int32) (v2 : Int32) : wpX_derive (fun r u' => wpY_derive (fun r' v' => r' = r ∧ i_Rel (k + 5) u' v') v v1 v2) u v1 v2 := by
  have R := i_up I
  obtain ⟨c, t, p, g, pa, cl, nm, mk, st, dk, da, pk, ag, pt, ti, cn, li, se, tp, tr, pr, rfl, rfl, hc, ht, hp6, hg, hP, hC, hS, hD, hQ⟩ := I
  unfold wpX_derive wpY_derive
  by_cases a1 : v1 < 0
  · exact br_t a1 (br_t a1 ⟨rfl, R⟩)
  by_cases a2 : 8 ≤ v1
  · exact br_f a1 (br_t a2 (br_f a1 (br_t ((ca_nlt (by decide) v1).mp a2) ⟨rfl, R⟩)))
  have a2' : ¬ 7 < v1 := fun z => a2 ((ca_nlt (by decide) v1).mpr z)
  by_cases a3 : v2 < -1
  · exact br_f a1 (br_f a2 (br_t a3 (br_f a1 (br_f a2' (br_t a3 ⟨rfl, R⟩)))))
  by_cases a4 : v2 < v1
  · by_cases a5 : nI c ≤ 0
    · obtain ⟨d, hd, rfl⟩ := ca_rng 8 (by decide) a1 a2
      have hin : vp_in (nI d) 8 := vp_in_nI hd (by decide)
      have hcl : (nI d).toNatClampNeg = d := nI_clamp (by omega)
      have hP' : ca_Par (upd pa d v2) := by
        intro m hm
        by_cases e : m = d
        · subst e
          rw [pk_us]
          by_cases z : v2 < 0
          · exact Or.inl (ca_neg1 a3 z)
          · obtain ⟨q, hq, rfl⟩ := nI_of z
            exact Or.inr ⟨q, (nI_ltI hq (by omega)).mp a4, rfl⟩
        · rw [pk_un e]
          exact hP m hm
      refine br_f a1 (br_f a2 (br_f a3 (br_t a4 (br_t a5 ⟨hin, nm_e ⟨hin, nm_r (e' := upd pa d v2) (by rw [hcl]) (br_f a1 (br_f a2' (br_f a3 (br_t a4 (br_t a5 ⟨hin, nm_e ⟨hin, nm_r (e' := upd pa d v2) (by rw [hcl]) ⟨rfl, ?_⟩⟩⟩)))))⟩⟩))))
      exact ca_rel c t p g ⟨hc, ht, hp6, by omega, hP', hC, hS, hD, hQ⟩
    · exact br_f a1 (br_f a2 (br_f a3 (br_t a4 (br_f a5 (br_f a1 (br_f a2' (br_f a3 (br_t a4 (br_f a5 ⟨rfl, R⟩)))))))))
  · exact br_f a1 (br_f a2 (br_f a3 (br_f a4 (br_f a1 (br_f a2' (br_f a3 (br_f a4 ⟨rfl, R⟩)))))))
theorem i_vc_define {k : Nat} {u : SX} {v : SY} (I : i_Rel k u v) (hk : k + 5 ≤ 2560) (v1 : Int32) (v2 : Int32) (v3 : Int32) (v4 : Int32) : wpX_define (fun r u' => wpY_define (fun r' v' => r' = r ∧ i_Rel (k + 5) u' v') v v1 v2 v3 v4) u v1 v2 v3 v4 := by
  have R := i_up I
  obtain ⟨c, t, p, g, pa, cl, nm, mk, st, dk, da, pk, ag, pt, ti, cn, li, se, tp, tr, pr, rfl, rfl, hc, ht, hp6, hg, hP, hC, hS, hD, hQ⟩ := I
  unfold wpX_define wpY_define
  refine cx_isMethod v1 (fun a => br_t rfl (br_t a ⟨rfl, R⟩)) (fun a b => br_t rfl (br_f a (br_f ((ca_nle (by decide) v1).mp b) ⟨rfl, R⟩))) (fun m hm e => br_f (by decide) ?_)
  subst e
  have a1 : ¬ nI m < 0 := nI_pos (by omega)
  have a1' : nI m ≤ 15 := nI_le (b := 15) (by omega) (by decide)
  by_cases a2 : v2 < 0
  · exact br_t a2 (br_f a1 (br_t a1' (br_t a2 ⟨rfl, R⟩)))
  by_cases a3 : 8 ≤ v2
  · exact br_f a2 (br_t a3 (br_f a1 (br_t a1' (br_f a2 (br_t ((ca_nlt (by decide) v2).mp a3) ⟨rfl, R⟩)))))
  have a3' : ¬ 7 < v2 := fun z => a3 ((ca_nlt (by decide) v2).mpr z)
  by_cases a4 : v3 < 0
  · exact br_f a2 (br_f a3 (br_t a4 (br_f a1 (br_t a1' (br_f a2 (br_f a3' (br_t a4 ⟨rfl, R⟩)))))))
  by_cases a5 : 10 ≤ v3
  · exact br_f a2 (br_f a3 (br_f a4 (br_t a5 (br_f a1 (br_t a1' (br_f a2 (br_f a3' (br_f a4 (br_t ((ca_nlt (by decide) v3).mp a5) ⟨rfl, R⟩)))))))))
  have a5' : ¬ 9 < v3 := fun z => a5 ((ca_nlt (by decide) v3).mpr z)
  by_cases a6 : v4 < 0
  · exact br_f a2 (br_f a3 (br_f a4 (br_f a5 (br_t a6 (br_f a1 (br_t a1' (br_f a2 (br_f a3' (br_f a4 (br_f a5' (br_t a6 ⟨rfl, R⟩)))))))))))
  by_cases a7 : v4 < 16
  · have a7' : v4 ≤ 15 := Decidable.byContradiction fun z => Int32.not_le.mpr a7 ((ca_nle (by decide) v4).mpr z)
    by_cases a8 : nI c ≤ 0
    · have hin : vp_in (nI m) 16 := vp_in_nI hm (by decide)
      have hcl : (nI m).toNatClampNeg = m := nI_clamp (by omega)
      obtain ⟨q, hq, rfl⟩ := ca_rng 8 (by decide) a2 a3
      refine br_f a2 (br_f a3 (br_f a4 (br_f a5 (br_f a6 (br_t a7 (br_t a8 ⟨hin, nm_e ⟨hin, nm_e ⟨hin, nm_e (br_f a1 (br_t a1' (br_f a2 (br_f a3' (br_f a4 (br_f a5' (br_f a6 (br_t a7' (br_t a8 ⟨hin, nm_e ⟨hin, nm_e ⟨hin, nm_e ⟨rfl, ?_⟩⟩⟩⟩)))))))))⟩⟩⟩))))))
      rw [hcl]
      exact ca_rel c t p g ⟨hc, ht, hp6, by omega, hP, ca_Cls_u hC hq, hS, hD, hQ⟩
    · exact br_f a2 (br_f a3 (br_f a4 (br_f a5 (br_f a6 (br_t a7 (br_f a8 (br_f a1 (br_t a1' (br_f a2 (br_f a3' (br_f a4 (br_f a5' (br_f a6 (br_t a7' (br_f a8 ⟨rfl, R⟩)))))))))))))))
  · have a7' : ¬ v4 ≤ 15 := (ca_nle (by decide) v4).mp (Int32.not_lt.mp a7)
    exact br_f a2 (br_f a3 (br_f a4 (br_f a5 (br_f a6 (br_f a7 (br_f a1 (br_t a1' (br_f a2 (br_f a3' (br_f a4 (br_f a5' (br_f a6 (br_f a7' ⟨rfl, R⟩)))))))))))))
/-- is a in the range of a token's kind -/
def ca_ok (k a : Int32) : Bool :=
  if k = 0 then decide (0 ≤ a) && decide (a ≤ 9) else if k = 1 then decide (0 ≤ a) && decide (a ≤ 7) else if k = 2 then decide (0 ≤ a) && decide (a ≤ 7)
  else if k = 3 then decide (0 ≤ a) && decide (a ≤ 3) else if k = 4 then decide (0 ≤ a) && decide (a ≤ 7) else if k = 5 then decide (0 ≤ a) && decide (a ≤ 20)
  else if k = 9 then decide (1 ≤ a) && decide (a ≤ 5) else true
theorem ca_rg {post : Int32 → Prop} {a lo hi : Int32} (hp : post (ca_b (decide (lo ≤ a) && decide (a ≤ hi)))) : (a < lo → post 0) ∧ (¬ a < lo → ((hi < a → post 0) ∧ (¬ hi < a → post 1))) := by
  by_cases h : a < lo
  · rw [decide_eq_false (Int32.not_le.mpr h), Bool.false_and] at hp
    exact br_t h hp
  · rw [decide_eq_true (Int32.not_lt.mp h), Bool.true_and] at hp
    exact br_f h (ca_decl hp)
theorem ca_rg1 {post : Int32 → Prop} {a lo hi hi1 : Int32} (h1 : hi1.toInt = hi.toInt + 1) (hp : post (ca_b (decide (lo ≤ a) && decide (a ≤ hi)))) : (a < lo → post 0) ∧ (¬ a < lo → ((hi1 ≤ a → post 0) ∧ (¬ hi1 ≤ a → post 1))) := by
  have z := ca_rg hp
  rw [show (hi1 ≤ a) = (hi < a) from propext (ca_nlt h1 a)]
  exact z
theorem cx_arg {post : Int32 → Prop} {k a : Int32} (hk : k = 0 ∨ k = 1 ∨ k = 2 ∨ k = 3 ∨ k = 4 ∨ k = 5 ∨ k = 6 ∨ k = 7 ∨ k = 8 ∨ k = 9 ∨ k = 10 ∨ k = 11 ∨ k = 12 ∨ k = 13) (hp : post (ca_b (ca_ok k a))) : wpX_isArgument post (fc, ft, fh, fp, fg, pa, cl, nm, mk, st, dk, da, pk, ag, pt, ti, cn, li, se) k a := by
  unfold wpX_isArgument
  rcases hk with rfl | rfl | rfl | rfl | rfl | rfl | rfl | rfl | rfl | rfl | rfl | rfl | rfl | rfl
  · exact br_f (by decide) (br_f (by decide) (br_t rfl (ca_rg1 (hi := 9) (by decide) hp)))
  · exact br_f (by decide) (br_f (by decide) (br_f (by decide) (br_t rfl (ca_rg1 (hi := 7) (by decide) hp))))
  · exact br_f (by decide) (br_f (by decide) (br_f (by decide) (br_f (by decide) (br_t rfl (ca_rg1 (hi := 7) (by decide) hp)))))
  · exact br_f (by decide) (br_f (by decide) (br_f (by decide) (br_f (by decide) (br_f (by decide) (br_t rfl (ca_rg1 (hi := 3) (by decide) hp))))))
  · exact br_f (by decide) (br_f (by decide) (br_f (by decide) (br_f (by decide) (br_f (by decide) (br_f (by decide) (br_t rfl (ca_rg1 (hi := 7) (by decide) hp)))))))
  · exact br_f (by decide) (br_f (by decide) (br_f (by decide) (br_f (by decide) (br_f (by decide) (br_f (by decide) (br_f (by decide) (br_t rfl (ca_rg (hi := 20) hp))))))))
  · exact br_f (by decide) (br_f (by decide) (br_f (by decide) (br_f (by decide) (br_f (by decide) (br_f (by decide) (br_f (by decide) (br_f (by decide) (br_t rfl hp))))))))
  · exact br_f (by decide) (br_f (by decide) (br_f (by decide) (br_f (by decide) (br_f (by decide) (br_f (by decide) (br_f (by decide) (br_f (by decide) (br_f (by decide) (br_t rfl hp)))))))))
  · exact br_f (by decide) (br_f (by decide) (br_f (by decide) (br_f (by decide) (br_f (by decide) (br_f (by decide) (br_f (by decide) (br_f (by decide) (br_f (by decide) (br_f (by decide) (br_t rfl hp))))))))))
  · exact br_f (by decide) (br_f (by decide) (br_f (by decide) (br_f (by decide) (br_f (by decide) (br_f (by decide) (br_f (by decide) (br_f (by decide) (br_f (by decide) (br_f (by decide) (br_f (by decide) (br_t rfl (ca_rg (hi := 5) hp))))))))))))
  · exact br_f (by decide) (br_t (by decide) hp)
  · exact br_f (by decide) (br_t (by decide) hp)
  · exact br_f (by decide) (br_t (by decide) hp)
  · exact br_f (by decide) (br_t (by decide) hp)
theorem cy_tok {post : Int32 → Prop} {k a : Int32} (hk : k = 0 ∨ k = 1 ∨ k = 2 ∨ k = 3 ∨ k = 4 ∨ k = 5 ∨ k = 6 ∨ k = 7 ∨ k = 8 ∨ k = 9 ∨ k = 10 ∨ k = 11 ∨ k = 12 ∨ k = 13) (hp : post (ca_b (ca_ok k a))) : wpY_isToken post (fc, ft, fh, fp, fg, tp, pa, cl, nm, mk, st, dk, da, pt, ti, cn, pk, ag, li, tr, pr) k a := by
  unfold wpY_isToken
  have most : ∀ (lo hi : Int32) (x1 : Int32), (∀ Q : Int32 → Prop, Q hi → wpY_most Q (fc, ft, fh, fp, fg, tp, pa, cl, nm, mk, st, dk, da, pt, ti, cn, pk, ag, li, tr, pr) x1) → post (ca_b (decide (lo ≤ a) && decide (a ≤ hi))) → wY_isToken_36 post x1 a lo a fc ft fh fp fg tp pa cl nm mk st dk da pt ti cn pk ag li tr pr := by
    intro lo hi x1 hm hq
    have z := ca_rg hq
    exact ⟨z.1, fun h => hm _ (z.2 h)⟩
  rcases hk with rfl | rfl | rfl | rfl | rfl | rfl | rfl | rfl | rfl | rfl | rfl | rfl | rfl | rfl
  · exact br_f (by decide) (br_t (by decide) (br_t (by decide) (br_f (by decide) (most 0 9 0 (fun Q h => br_t rfl h) hp))))
  · exact br_f (by decide) (br_t (by decide) (br_t (by decide) (br_f (by decide) (most 0 7 1 (fun Q h => br_f (by decide) (br_t rfl h)) hp))))
  · exact br_f (by decide) (br_t (by decide) (br_t (by decide) (br_f (by decide) (most 0 7 2 (fun Q h => br_f (by decide) (br_f (by decide) (br_t rfl h))) hp))))
  · exact br_f (by decide) (br_t (by decide) (br_t (by decide) (br_f (by decide) (most 0 3 3 (fun Q h => br_f (by decide) (br_f (by decide) (br_f (by decide) (br_f (by decide) (br_t rfl h))))) hp))))
  · exact br_f (by decide) (br_t (by decide) (br_t (by decide) (br_f (by decide) (most 0 7 4 (fun Q h => br_f (by decide) (br_f (by decide) (br_f (by decide) (br_t rfl h)))) hp))))
  · exact br_f (by decide) (br_t (by decide) (br_t (by decide) (br_f (by decide) (most 0 20 5 (fun Q h => br_f (by decide) (br_f (by decide) (br_f (by decide) (br_f (by decide) (br_f (by decide) (br_t rfl h)))))) hp))))
  · exact br_f (by decide) (br_t (by decide) (br_f (by decide) (br_f (by decide) hp)))
  · exact br_f (by decide) (br_t (by decide) (br_f (by decide) (br_f (by decide) hp)))
  · exact br_f (by decide) (br_t (by decide) (br_f (by decide) (br_f (by decide) hp)))
  · exact br_f (by decide) (br_t (by decide) (br_f (by decide) (br_t rfl (br_t rfl (most 1 5 9 (fun Q h => br_f (by decide) (br_f (by decide) (br_f (by decide) (br_f (by decide) (br_f (by decide) (br_f (by decide) h)))))) hp)))))
  · exact br_f (by decide) (br_t (by decide) (br_f (by decide) (br_f (by decide) hp)))
  · exact br_f (by decide) (br_t (by decide) (br_f (by decide) (br_f (by decide) hp)))
  · exact br_f (by decide) (br_t (by decide) (br_f (by decide) (br_f (by decide) hp)))
  · exact br_f (by decide) (br_t (by decide) (br_f (by decide) (br_f (by decide) hp)))
/-- the draft with one more token -/
theorem ca_wf_s {K A : Nat → Int32} {t : Nat} {k a : Int32} (h : ca_wf K A t) (hd : ∃ d, d < 14 ∧ k = nI d) (ha : (k = 2 ∨ k = 4) → ∃ o, o < 8 ∧ a = nI o) (htk : ca_tk k ≤ ca_h K t) (h6 : ca_h K t - ca_tk k + 1 ≤ 6) : ca_wf (upd K t k) (upd A t a) (t + 1) ∧ ca_h (upd K t k) (t + 1) = ca_h K t - ca_tk k + 1 := by
  have hh : ca_h (upd K t k) t = ca_h K t := ca_h_congr (fun s hs => pk_un (by omega))
  have e : ca_h (upd K t k) (t + 1) = ca_h K t - ca_tk k + 1 := by
    show ca_h (upd K t k) t - ca_tk (upd K t k t) + 1 = _
    rw [hh, pk_us]
  refine ⟨fun s hs => ?_, e⟩
  by_cases q : s = t
  · subst q
    rw [pk_us, pk_us, e, hh]
    exact ⟨hd, ha, htk, h6⟩
  · exact ca_wf_congr (K := K) (A := A) (n := t) (fun z hz => (pk_un (by omega)).symm) (fun z hz => (pk_un (by omega)).symm) h s (by omega)
theorem ca_ok24 {k a : Int32} (h : ca_ok k a = true) (hk : k = 2 ∨ k = 4) : ∃ o, o < 8 ∧ a = nI o := by
  have z : (decide ((0 : Int32) ≤ a) && decide (a ≤ 7)) = true := by
    rcases hk with rfl | rfl
    · exact h
    · exact h
  rw [Bool.and_eq_true, decide_eq_true_iff, decide_eq_true_iff] at z
  exact ca_rng 8 (by decide) (Int32.not_lt.mpr z.1) (fun y => (ca_nle (hi := 7) (hi1 := 8) (by decide) a).mp y z.2)
theorem i_vc_token {k : Nat} {u : SX} {v : SY} (I : i_Rel k u v) (hk : k + 5 ≤ 2560) (v1 : Int32) (v2 : Int32) : wpX_token (fun r u' => wpY_token (fun r' v' => r' = r ∧ i_Rel (k + 5) u' v') v v1 v2) u v1 v2 := by
  have R := i_up I
  obtain ⟨c, t, p, g, pa, cl, nm, mk, st, dk, da, pk, ag, pt, ti, cn, li, se, tp, tr, pr, rfl, rfl, hc, ht, hp6, hg, hP, hC, hS, hD, hQ⟩ := I
  have hH : ca_h dk t ≤ 6 := ca_wf_le hD
  have hle := ca_tk_le v1
  unfold wpX_token wpY_token
  by_cases a1 : v1 < 0
  · exact br_t a1 (br_t a1 (br_t rfl ⟨rfl, R⟩))
  by_cases a2 : 13 < v1
  · exact br_f a1 (br_t a2 (br_f a1 (br_f (Int32.not_le.mpr a2) (br_t rfl ⟨rfl, R⟩))))
  obtain ⟨d, hd, e1⟩ := ca_rng (v := v1) 14 (by decide) a1 (fun z => a2 ((ca_nlt (hi := 13) (hi1 := 14) (by decide) v1).mp z))
  have h14 := ca_k14 d hd
  rw [← e1] at h14
  refine br_f a1 (br_f a2 (cx_arg h14 (ca_if (fun eo => cy_tok h14 (ca_if (fun _ => ⟨rfl, R⟩) (fun z => absurd (eo.symm.trans z) (by decide)))) (fun eo => ?_))))
  have Y1 : ∀ {Q : Int32 → Prop}, Q 1 → wpY_isToken Q (nI c, nI t, nI (ca_h dk t), nI p, nI g, tp, pa, cl, nm, mk, st, dk, da, pt, ti, cn, pk, ag, li, tr, pr) v1 v2 := fun {Q} h => cy_tok h14 (by rw [eo]; exact h)
  by_cases a3 : t < 16
  · refine br_t (nI_lt (b := 16) a3 (by decide)) (cx_taken v1 ?_)
    have a3' : ¬ nI t = 16 := fun z => absurd ((nI_eq (b := 16) (by omega) (by decide)).mp z) (by omega)
    by_cases a4 : ca_tk v1 ≤ ca_h dk t
    · have a4' : nI (ca_tk v1) ≤ nI (ca_h dk t) := nI_le a4 (by omega)
      have hin : vp_in (nI t) 16 := vp_in_nI a3 (by decide)
      have hcl : (nI t).toNatClampNeg = t := nI_clamp (by omega)
      refine br_t a4' ?_
      have fin : ca_h dk t - ca_tk v1 + 1 ≤ 6 → wX_token_66 (fun r u' => wpY_token (fun r' v' => r' = r ∧ i_Rel (k + 5) u' v') (nI c, nI t, nI (ca_h dk t), nI p, nI g, tp, pa, cl, nm, mk, st, dk, da, pt, ti, cn, pk, ag, li, tr, pr) v1 v2) v1 v2 (nI (ca_tk v1)) (nI c) (nI t) (nI (ca_h dk t)) (nI p) (nI g) pa cl nm mk st dk da pk ag pt ti cn li se := by
        intro h6
        obtain ⟨hw, hh⟩ := ca_wf_s hD ⟨d, hd, e1⟩ (ca_ok24 eo) a4 h6
        unfold wX_token_66
        refine ⟨hin, nm_r (e' := upd dk t v1) (by rw [hcl]) ⟨hin, nm_r (e' := upd da t v2) (by rw [hcl]) (nm_r (nI_1 t) (nm_r (ca_hs hle a4) ?_))⟩⟩
        have fY : wY_token_58 (fun r' v' => r' = nI (ca_h dk t - ca_tk v1 + 1) ∧ i_Rel (k + 5) (nI c, nI (t + 1), nI (ca_h dk t - ca_tk v1 + 1), nI p, nI g, pa, cl, nm, mk, st, upd dk t v1, upd da t v2, pk, ag, pt, ti, cn, li, se) v') v1 v2 (nI c) (nI t) (nI (ca_h dk t)) (nI p) (nI g) tp pa cl nm mk st dk da pt ti cn pk ag li tr pr := by
          unfold wY_token_58
          refine ⟨hin, nm_r (e' := upd dk t v1) (by rw [hcl]) ⟨hin, nm_r (e' := upd da t v2) (by rw [hcl]) (nm_r (nI_1 t) (cy_taken v1 (nm_r (e' := nI (ca_h dk t - ca_tk v1 + 1)) (by rw [pk_sub a4, nI_1]) ⟨rfl, ?_⟩)))⟩⟩
          rw [← hh]
          exact ca_rel c (t + 1) p g ⟨hc, by omega, hp6, by omega, hP, hC, hS, hw, hQ⟩
        show wpY_token _ _ v1 v2
        unfold wpY_token
        refine Y1 (br_f (by decide) (br_f a3' (cy_taken v1 (br_t a4' (cy_taken v1 ?_)))))
        by_cases a5 : ca_tk v1 = 0
        · refine br_t (by rw [a5]; rfl) (br_f (fun z => absurd ((nI_eq (b := 6) (by omega) (by decide)).mp z) (by omega)) fY)
        · exact br_f (nI_ne0 (by omega) (by omega)) fY
      by_cases a5 : ca_tk v1 = 0
      · refine br_t (by rw [a5]; rfl) ?_
        by_cases a6 : ca_h dk t < 6
        · exact br_t (nI_lt (b := 6) a6 (by decide)) (fin (by omega))
        · refine br_f (nI_nlt (b := 6) (by omega) (by omega)) ?_
          refine Y1 (br_f (by decide) (br_f a3' (cy_taken v1 (br_t a4' (cy_taken v1 (br_t (by rw [a5]; rfl) (br_t ((nI_eq (b := 6) (by omega) (by decide)).mpr (by omega)) ⟨rfl, R⟩)))))))
      · exact br_f (nI_ne0 (by omega) (by omega)) (fin (by omega))
    · have a4' : ¬ nI (ca_tk v1) ≤ nI (ca_h dk t) := nI_ge (by omega) (by omega)
      exact br_f a4' (Y1 (br_f (by decide) (br_f a3' (cy_taken v1 (br_f a4' ⟨rfl, R⟩)))))
  · have a3' : nI t = 16 := (nI_eq (b := 16) (by omega) (by decide)).mpr (by omega)
    exact br_f (nI_nlt (b := 16) (by omega) (by omega)) (Y1 (br_f (by decide) (br_t a3' ⟨rfl, R⟩)))
theorem i_vc_clear {k : Nat} {u : SX} {v : SY} (I : i_Rel k u v) (hk : k + 5 ≤ 2560) : wpX_clear (fun r u' => wpY_clear (fun r' v' => r' = r ∧ i_Rel (k + 5) u' v') v) u := by
  obtain ⟨c, t, p, g, pa, cl, nm, mk, st, dk, da, pk, ag, pt, ti, cn, li, se, tp, tr, pr, rfl, rfl, hc, ht, hp6, hg, hP, hC, hS, hD, hQ⟩ := I
  unfold wpX_clear wpX_emptyDraft wpY_clear
  exact ⟨rfl, ca_rel c 0 p g ⟨hc, by omega, hp6, by omega, hP, hC, hS, fun z hz => absurd hz (Nat.not_lt_zero z), hQ⟩⟩
theorem i_vc_drop {k : Nat} {u : SX} {v : SY} (I : i_Rel k u v) (hk : k + 5 ≤ 2560) : wpX_drop (fun r u' => wpY_drop (fun r' v' => r' = r ∧ i_Rel (k + 5) u' v') v) u := by
  have R := i_up I
  obtain ⟨c, t, p, g, pa, cl, nm, mk, st, dk, da, pk, ag, pt, ti, cn, li, se, tp, tr, pr, rfl, rfl, hc, ht, hp6, hg, hP, hC, hS, hD, hQ⟩ := I
  unfold wpX_drop wpY_drop
  by_cases a1 : nI p = 0
  · exact br_t a1 (br_t a1 ⟨rfl, R⟩)
  by_cases a2 : nI c ≤ 0
  · obtain ⟨q, rfl⟩ : ∃ q, p = q + 1 := ⟨p - 1, by
      have z : p ≠ 0 := fun z => a1 (by rw [z]; rfl)
      omega⟩
    exact br_f a1 (br_t a2 (nm_r (nI_pred q) (br_f a1 (br_t a2 (nm_r (nI_pred q) ⟨rfl, ca_rel c t q g ⟨hc, ht, by omega, by omega, hP, hC, hS, hD, fun z hz => hQ z (by omega)⟩⟩)))))
  · exact br_f a1 (br_f a2 (br_f a1 (br_f a2 ⟨rfl, R⟩)))
theorem i_vc_unwind {k : Nat} {u : SX} {v : SY} (I : i_Rel k u v) (hk : k + 5 ≤ 2560) : wpX_unwind (fun r u' => wpY_unwind (fun r' v' => r' = r ∧ i_Rel (k + 5) u' v') v) u := by
  obtain ⟨c, t, p, g, pa, cl, nm, mk, st, dk, da, pk, ag, pt, ti, cn, li, se, tp, tr, pr, rfl, rfl, hc, ht, hp6, hg, hP, hC, hS, hD, hQ⟩ := I
  unfold wpX_unwind wpY_unwind
  exact ⟨rfl, ca_rel 0 t p g ⟨by omega, ht, hp6, by omega, hP, hC, hS, hD, hQ⟩⟩
theorem i_vc_depth {k : Nat} {u : SX} {v : SY} (I : i_Rel k u v) (hk : k + 5 ≤ 2560) : wpX_depth (fun r => wpY_depth (fun r' => r' = r ∧ i_Rel (k + 5) u v) v) u := by
  have R := i_up I
  obtain ⟨c, t, p, g, pa, cl, nm, mk, st, dk, da, pk, ag, pt, ti, cn, li, se, tp, tr, pr, rfl, rfl, hc, ht, hp6, hg, hP, hC, hS, hD, hQ⟩ := I
  unfold wpX_depth wpY_depth
  exact ⟨rfl, R⟩
theorem i_vc_given {k : Nat} {u : SX} {v : SY} (I : i_Rel k u v) (hk : k + 5 ≤ 2560) : wpX_given (fun r => wpY_given (fun r' => r' = r ∧ i_Rel (k + 5) u v) v) u := by
  have R := i_up I
  obtain ⟨c, t, p, g, pa, cl, nm, mk, st, dk, da, pk, ag, pt, ti, cn, li, se, tp, tr, pr, rfl, rfl, hc, ht, hp6, hg, hP, hC, hS, hD, hQ⟩ := I
  unfold wpX_given wpY_given
  exact ⟨rfl, R⟩
theorem i_vc_methodAt {k : Nat} {u : SX} {v : SY} (I : i_Rel k u v) (hk : k + 5 ≤ 2560) (v1 : Int32) : wpX_methodAt (fun r => wpY_methodAt (fun r' => r' = r ∧ i_Rel (k + 5) u v) v v1) u v1 := by
  have R := i_up I
  obtain ⟨c, t, p, g, pa, cl, nm, mk, st, dk, da, pk, ag, pt, ti, cn, li, se, tp, tr, pr, rfl, rfl, hc, ht, hp6, hg, hP, hC, hS, hD, hQ⟩ := I
  unfold wpX_methodAt wpX_isCall wpY_methodAt
  by_cases a1 : v1 < 0
  · exact br_t a1 (br_t rfl (br_t a1 ⟨rfl, R⟩))
  by_cases a2 : nI c ≤ v1
  · exact br_f a1 (br_t a2 (br_t rfl (br_f a1 (br_t a2 ⟨rfl, R⟩))))
  obtain ⟨i, hi, rfl⟩ := ca_rng c (by omega) a1 a2
  have hin : vp_in (nI i) 20 := vp_in_nI (by omega) (by decide)
  exact br_f a1 (br_f a2 (br_f (by decide) ⟨hin, br_f a1 (br_f a2 ⟨hin, rfl, R⟩)⟩))
theorem cx_isPiece {post : Int32 → Prop} {p : Nat} (hp : p < 2 ^ 31) (v : Int32) (h0 : (∀ {Q : Int32 → Prop}, ∀ {fc ft fh fg tp : Int32} {pa cl nm mk st dk da pk ag pt ti cn li tr pr : Nat → Int32}, Q 0 → wpY_isPiece Q (fc, ft, fh, nI p, fg, tp, pa, cl, nm, mk, st, dk, da, pt, ti, cn, pk, ag, li, tr, pr) v) → post 0) (h1 : ∀ q, q < p → v = nI q → (∀ {Q : Int32 → Prop}, ∀ {fc ft fh fg tp : Int32} {pa cl nm mk st dk da pk ag pt ti cn li tr pr : Nat → Int32}, Q 1 → wpY_isPiece Q (fc, ft, fh, nI p, fg, tp, pa, cl, nm, mk, st, dk, da, pt, ti, cn, pk, ag, li, tr, pr) v) → post 1) : wpX_isPiece post (fc, ft, fh, nI p, fg, pa, cl, nm, mk, st, dk, da, pk, ag, pt, ti, cn, li, se) v := by
  unfold wpX_isPiece
  by_cases a1 : v < 0
  · exact br_t a1 (h0 (fun h => br_t a1 h))
  by_cases a2 : nI p ≤ v
  · exact br_f a1 (br_t a2 (h0 (fun h => br_f a1 (br_t a2 h))))
  obtain ⟨q, hq, e⟩ := ca_rng p hp a1 a2
  exact br_f a1 (br_f a2 (h1 q hq e (fun h => br_f a1 (br_f a2 h))))
theorem i_vc_count {k : Nat} {u : SX} {v : SY} (I : i_Rel k u v) (hk : k + 5 ≤ 2560) (v1 : Int32) : wpX_count (fun r => wpY_count (fun r' => r' = r ∧ i_Rel (k + 5) u v) v v1) u v1 := by
  have R := i_up I
  obtain ⟨c, t, p, g, pa, cl, nm, mk, st, dk, da, pk, ag, pt, ti, cn, li, se, tp, tr, pr, rfl, rfl, hc, ht, hp6, hg, hP, hC, hS, hD, hQ⟩ := I
  unfold wpX_count wpY_count
  refine cx_isPiece (by omega) v1 (fun y => br_t rfl (y (br_t rfl ⟨rfl, R⟩))) (fun q hq e y => ?_)
  have hin : vp_in v1 6 := by
    rw [e]
    exact vp_in_nI (by omega) (by decide)
  exact br_f (by decide) ⟨hin, y (br_f (by decide) ⟨hin, rfl, R⟩)⟩
theorem i_vc_last {k : Nat} {u : SX} {v : SY} (I : i_Rel k u v) (hk : k + 5 ≤ 2560) (v1 : Int32) : wpX_last (fun r => wpY_last (fun r' => r' = r ∧ i_Rel (k + 5) u v) v v1) u v1 := by
  have R := i_up I
  obtain ⟨c, t, p, g, pa, cl, nm, mk, st, dk, da, pk, ag, pt, ti, cn, li, se, tp, tr, pr, rfl, rfl, hc, ht, hp6, hg, hP, hC, hS, hD, hQ⟩ := I
  unfold wpX_last wpY_last
  by_cases a1 : v1 < 0
  · exact br_t a1 (br_t a1 ⟨rfl, R⟩)
  by_cases a2 : 64 ≤ v1
  · exact br_f a1 (br_t a2 (br_f a1 (br_t a2 ⟨rfl, R⟩)))
  by_cases a3 : v1 < nI g
  · obtain ⟨j, hj, rfl⟩ := ca_rng 64 (by decide) a1 a2
    have a4 : j < g := (nI_ltI (by omega) (by omega)).mp a3
    have e : nI g - 1 - nI j = nI (g - 1 - j) := by
      rw [show nI g - 1 = nI (g - 1) from pk_sub (b := 1) (by omega), pk_sub (by omega)]
    have hm : (g - 1 - j) % 64 < 64 := Nat.mod_lt _ (by decide)
    have e1 : (nI g - 1 - nI j) &&& 63 = nI ((g - 1 - j) % 64) := by rw [e, ca_63 (by omega)]
    have e2 : (nI g - 1 - nI j) - (nI g - 1 - nI j) / 64 * 64 = nI ((g - 1 - j) % 64) := by rw [e, ca_r64 (by omega)]
    have hin : vp_in (nI ((g - 1 - j) % 64)) 64 := vp_in_nI hm (by decide)
    refine br_f a1 (br_f a2 (br_t a3 ⟨by rw [e1]; exact hin, br_f a1 (br_f a2 (br_f (Int32.not_le.mpr a3) ⟨by decide, by rw [e2]; exact hin, ?_, R⟩))⟩))
    rw [e1, e2]
  · exact br_f a1 (br_f a2 (br_f a3 (br_f a1 (br_f a2 (br_t (Int32.not_lt.mp a3) ⟨rfl, R⟩)))))
/-- n entries of D put into A from s on -/
def ca_cp (A : Nat → Int32) (s : Nat) (D : Nat → Int32) : Nat → Nat → Int32
  | 0 => A
  | n + 1 => upd (ca_cp A s D n) (s + n) (D n)
theorem ca_cp_lo (A : Nat → Int32) (s : Nat) (D : Nat → Int32) (n : Nat) {i : Nat} (h : i < s) : ca_cp A s D n i = A i := by
  induction n with
  | zero => rfl
  | succ n ih =>
    show upd (ca_cp A s D n) (s + n) (D n) i = A i
    rw [pk_un (by omega), ih]
theorem ca_cp_in (A : Nat → Int32) (s : Nat) (D : Nat → Int32) (n : Nat) {j : Nat} (h : j < n) : ca_cp A s D n (s + j) = D j := by
  induction n with
  | zero => exact absurd h (Nat.not_lt_zero j)
  | succ n ih =>
    show upd (ca_cp A s D n) (s + n) (D n) (s + j) = D j
    by_cases e : j = n
    · rw [e, pk_us]
    · rw [pk_un (by omega), ih (by omega)]
theorem cx_copy {post : SX → Prop} {t q : Nat} (ht : t ≤ 16) (hq : q < 6) (hp : post (fc, nI t, fh, fp, fg, pa, cl, nm, mk, st, dk, da, ca_cp pk (16 * q) dk t, ca_cp ag (16 * q) da t, upd pt q (nI t), ti, cn, li, se)) : wpX_copyDraftTo post (fc, nI t, fh, fp, fg, pa, cl, nm, mk, st, dk, da, pk, ag, pt, ti, cn, li, se) (nI q) := by
  have L : ∀ m j : Nat, j + m = t → wX_copyDraftTo_7 post (nI q) (nI (16 * q)) fc (nI t) fh fp fg (m + 1) (nI j) pa cl nm mk st dk da (ca_cp pk (16 * q) dk j) (ca_cp ag (16 * q) da j) pt ti cn li se := by
    intro m
    induction m with
    | zero =>
      intro j e
      have e' : j = t := e
      subst e'
      exact br_t (Int32.le_refl _) ⟨vp_in_nI hq (by decide), nm_r (e' := upd pt q (nI j)) (by rw [nI_clamp (by omega)]) hp⟩
    | succ m ih =>
      intro j e
      have h16 : vp_in (nI j) 16 := vp_in_nI (by omega) (by decide)
      have h96 : vp_in (nI (16 * q) + nI j) 96 := by
        rw [nI_add]
        exact vp_in_nI (by omega) (by decide)
      have hc1 : (nI (16 * q) + nI j).toNatClampNeg = 16 * q + j := by rw [nI_add, nI_clamp (by omega)]
      have hc2 : (nI j).toNatClampNeg = j := nI_clamp (by omega)
      exact br_f (nI_ge (by omega) (by omega)) ⟨h16, h96, nm_r (e' := ca_cp pk (16 * q) dk (j + 1)) (by rw [hc1, hc2]; rfl) ⟨h16, h96, nm_r (e' := ca_cp ag (16 * q) da (j + 1)) (by rw [hc1, hc2]; rfl) (nm_r (nI_1 j) (ih (j + 1) (by omega)))⟩⟩
  unfold wpX_copyDraftTo
  exact nm_r (e' := nI (16 * q)) ((pk_mul q 16).trans (by rw [Nat.mul_comm])) ⟨t + 1, L t 0 (by omega)⟩
theorem cy_copy {post : Int32 → SY → Prop} {t q : Nat} {tm : Int32} (ht : t ≤ 16) (hq : q < 6) (hp : post (nI q) (fc, 0, 0, nI (q + 1), fg, tp, pa, cl, nm, mk, st, dk, da, upd pt q (nI t), upd ti q tm, upd cn q 0, ca_cp pk (16 * q) dk t, ca_cp ag (16 * q) da t, li, tr, pr)) : ∃ n, wY_advise_46 post tm fc (nI t) fh (nI q) fg tp n 0 pa cl nm mk st dk da pt ti cn pk ag li tr pr := by
  have hq6 : vp_in (nI q) 6 := vp_in_nI hq (by decide)
  have hcq : (nI q).toNatClampNeg = q := nI_clamp (by omega)
  have L : ∀ m j : Nat, j + m = t → wY_advise_46 post tm fc (nI t) fh (nI q) fg tp (m + 1) (nI j) pa cl nm mk st dk da pt ti cn (ca_cp pk (16 * q) dk j) (ca_cp ag (16 * q) da j) li tr pr := by
    intro m
    induction m with
    | zero =>
      intro j e
      have e' : j = t := e
      subst e'
      refine br_t (Int32.le_refl _) ⟨hq6, nm_r (e' := upd pt q (nI j)) (by rw [hcq]) ⟨hq6, nm_r (e' := upd ti q tm) (by rw [hcq]) ⟨hq6, nm_r (e' := upd cn q 0) (by rw [hcq]) (nm_r (nI_1 q) ?_)⟩⟩⟩
      rw [nI_pred q]
      exact hp
    | succ m ih =>
      intro j e
      have h16 : vp_in (nI j) 16 := vp_in_nI (by omega) (by decide)
      have h96 : vp_in ((16 : Int32) * nI q + nI j) 96 := by
        rw [ca_16]
        exact vp_in_nI (by omega) (by decide)
      have hc1 : ((16 : Int32) * nI q + nI j).toNatClampNeg = 16 * q + j := by rw [ca_16, nI_clamp (by omega)]
      have hc2 : (nI j).toNatClampNeg = j := nI_clamp (by omega)
      exact br_f (nI_ge (by omega) (by omega)) ⟨h16, h96, nm_r (e' := ca_cp pk (16 * q) dk (j + 1)) (by rw [hc1, hc2]; rfl) ⟨h16, h96, nm_r (e' := ca_cp ag (16 * q) da (j + 1)) (by rw [hc1, hc2]; rfl) (nm_r (nI_1 j) (ih (j + 1) (by omega)))⟩⟩
  exact ⟨t + 1, L t 0 (by omega)⟩
theorem i_vc_advise {k : Nat} {u : SX} {v : SY} (I : i_Rel k u v) (hk : k + 5 ≤ 2560) (v1 : Int32) : wpX_advise (fun r u' => wpY_advise (fun r' v' => r' = r ∧ i_Rel (k + 5) u' v') v v1) u v1 := by
  have R := i_up I
  obtain ⟨c, t, p, g, pa, cl, nm, mk, st, dk, da, pk, ag, pt, ti, cn, li, se, tp, tr, pr, rfl, rfl, hc, ht, hp6, hg, hP, hC, hS, hD, hQ⟩ := I
  have hH : ca_h dk t ≤ 6 := ca_wf_le hD
  have main : ∀ post : Int32 → SX → Prop, (∀ r u', wY_advise_11 (fun r' v' => r' = r ∧ i_Rel (k + 5) u' v') v1 (nI c) (nI t) (nI (ca_h dk t)) (nI p) (nI g) tp pa cl nm mk st dk da pt ti cn pk ag li tr pr → post r u') → wX_advise_11 post v1 (nI c) (nI t) (nI (ca_h dk t)) (nI p) (nI g) pa cl nm mk st dk da pk ag pt ti cn li se := by
    intro post hpost
    unfold wX_advise_11
    by_cases a1 : ca_h dk t = 1
    · have a1' : nI (ca_h dk t) = 1 := (nI_eq (b := 1) (by omega) (by decide)).mpr a1
      refine br_t a1' ?_
      by_cases a2 : p < 6
      · have a2' : ¬ nI p = 6 := fun z => absurd ((nI_eq (b := 6) (by omega) (by decide)).mp z) (by omega)
        refine br_t (nI_lt (b := 6) a2 (by decide)) ?_
        by_cases a3 : nI c ≤ 0
        · have hq6 : vp_in (nI p) 6 := vp_in_nI a2 (by decide)
          have hcq : (nI p).toNatClampNeg = p := nI_clamp (by omega)
          refine br_t a3 (cx_copy ht a2 ⟨hq6, nm_r (e' := upd ti p v1) (by rw [hcq]) ⟨hq6, nm_r (e' := upd cn p 0) (by rw [hcq]) (nm_r (nI_1 p) ?_)⟩⟩)
          unfold wpX_emptyDraft
          refine hpost _ _ ?_
          unfold wY_advise_11
          refine br_t a1' (br_f a2' (br_t a3 (cy_copy ht a2 ⟨rfl, ?_⟩)))
          refine ca_rel c 0 (p + 1) g ⟨hc, by omega, by omega, by omega, hP, hC, hS, fun z hz => absurd hz (Nat.not_lt_zero z), fun q hq => ?_⟩
          by_cases e : q = p
          · subst e
            exact ⟨t, ht, pk_us, ca_wf_congr (fun z hz => (ca_cp_in pk (16 * q) dk t hz).symm) (fun z hz => (ca_cp_in ag (16 * q) da t hz).symm) hD, (ca_h_congr (fun z hz => ca_cp_in pk (16 * q) dk t hz)).trans a1⟩
          · obtain ⟨n, hn, e1, hw, h1⟩ := hQ q (by omega)
            exact ⟨n, hn, by rw [pk_un e, e1], ca_wf_congr (fun z hz => (ca_cp_lo pk (16 * p) dk t (by omega)).symm) (fun z hz => (ca_cp_lo ag (16 * p) da t (by omega)).symm) hw, (ca_h_congr (fun z hz => ca_cp_lo pk (16 * p) dk t (by omega))).trans h1⟩
        · refine br_f a3 (hpost _ _ ?_)
          unfold wY_advise_11
          exact br_t a1' (br_f a2' (br_f a3 ⟨rfl, R⟩))
      · refine br_f (nI_nlt (b := 6) (by omega) (by omega)) (hpost _ _ ?_)
        unfold wY_advise_11
        exact br_t a1' (br_t ((nI_eq (b := 6) (by omega) (by decide)).mpr (by omega)) ⟨rfl, R⟩)
    · have a1' : ¬ nI (ca_h dk t) = 1 := fun z => a1 ((nI_eq (b := 1) (by omega) (by decide)).mp z)
      refine br_f a1' (hpost _ _ ?_)
      unfold wY_advise_11
      exact br_f a1' ⟨rfl, R⟩
  unfold wpX_advise wpY_advise
  by_cases b0 : v1 = 0
  · exact br_t b0 (main _ (fun r u' h => br_t b0 h))
  by_cases b1 : v1 = 1
  · exact br_f b0 (br_t b1 (main _ (fun r u' h => br_f b0 (br_t b1 h))))
  · exact br_f b0 (br_f b1 (br_f b0 (br_f b1 ⟨rfl, R⟩)))
end V1
