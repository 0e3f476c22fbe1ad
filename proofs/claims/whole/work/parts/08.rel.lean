/-! the relation -/
def ca_Inv (k c t p g : Nat) (pa cl st dk da pk ag pt : Nat → Int32) : Prop :=
  c ≤ 20 ∧ t ≤ 16 ∧ p ≤ 6 ∧ g ≤ 2 * k ∧ ca_Par pa ∧ ca_Cls cl ∧ ca_Stk st ∧ ca_wf dk da t ∧ ∀ q, q < p → ca_pc pk ag pt q
/-- both keep the same tables, stack, draft, pieces, counts and list; X's sets and Y's top, truth, parts are scratch -/
def i_Rel (k : Nat) (u : SX) (v : SY) : Prop :=
  ∃ (c t p g : Nat) (pa cl nm mk st dk da pk ag pt ti cn li se : Nat → Int32) (tp : Int32) (tr pr : Nat → Int32),
    u = (nI c, nI t, nI (ca_h dk t), nI p, nI g, pa, cl, nm, mk, st, dk, da, pk, ag, pt, ti, cn, li, se) ∧ v = (nI c, nI t, nI (ca_h dk t), nI p, nI g, tp, pa, cl, nm, mk, st, dk, da, pt, ti, cn, pk, ag, li, tr, pr) ∧ ca_Inv k c t p g pa cl st dk da pk ag pt
section RL
variable {fc ft fh fp fg tp : Int32} {pa cl nm mk st dk da pk ag pt ti cn li se tr pr : Nat → Int32}
theorem ca_rel {k : Nat} (c t p g : Nat) (H : ca_Inv k c t p g pa cl st dk da pk ag pt) : i_Rel k (nI c, nI t, nI (ca_h dk t), nI p, nI g, pa, cl, nm, mk, st, dk, da, pk, ag, pt, ti, cn, li, se) (nI c, nI t, nI (ca_h dk t), nI p, nI g, tp, pa, cl, nm, mk, st, dk, da, pt, ti, cn, pk, ag, li, tr, pr) :=
  ⟨c, t, p, g, pa, cl, nm, mk, st, dk, da, pk, ag, pt, ti, cn, li, se, tp, tr, pr, rfl, rfl, H⟩
theorem i_up {k : Nat} {u : SX} {v : SY} (h : i_Rel k u v) : i_Rel (k + 5) u v := by
  obtain ⟨c, t, p, g, pa, cl, nm, mk, st, dk, da, pk, ag, pt, ti, cn, li, se, tp, tr, pr, rfl, rfl, hc, ht, hp6, hg, H⟩ := h
  exact ca_rel c t p g ⟨hc, ht, hp6, by omega, H⟩
def ca_in : Nat → Nat → Int32
  | 0 => fun _ => 0
  | n + 1 => upd (ca_in n) n (-1)
theorem ca_in_8 : ∀ m, m < 8 → ca_in 8 m = -1 := by decide +kernel
theorem cx_init {post : SX → Prop} : ∀ n j : Nat, j + n = 8 → post (fc, ft, fh, fp, fg, ca_in 8, cl, nm, mk, st, dk, da, pk, ag, pt, ti, cn, li, se) → wX_init_118 post fc ft fh fp fg (n + 1) (nI j) (ca_in j) cl nm mk st dk da pk ag pt ti cn li se := by
  intro n
  induction n with
  | zero =>
    intro j e hp
    have e' : j = 8 := e
    subst e'
    exact br_t (Int32.le_refl _) hp
  | succ n ih =>
    intro j e hp
    exact br_f (nI_ge (b := 8) (by omega) (by decide)) ⟨vp_in_nI (by omega) (by decide), nm_r (e' := ca_in (j + 1)) (by rw [nI_clamp (by omega)]; rfl) (nm_r (nI_1 j) (ih (j + 1) (by omega) hp))⟩
theorem cy_init {post : SY → Prop} : ∀ n j : Nat, j + n = 8 → post (fc, ft, fh, fp, fg, tp, ca_in 8, cl, nm, mk, st, dk, da, pt, ti, cn, pk, ag, li, tr, pr) → wY_init_127 post fc ft fh fp fg tp (n + 1) (nI j) (ca_in j) cl nm mk st dk da pt ti cn pk ag li tr pr := by
  intro n
  induction n with
  | zero =>
    intro j e hp
    have e' : j = 8 := e
    subst e'
    exact br_t (Int32.le_refl _) hp
  | succ n ih =>
    intro j e hp
    exact br_f (nI_ge (b := 8) (by omega) (by decide)) ⟨vp_in_nI (by omega) (by decide), nm_r (e' := ca_in (j + 1)) (by rw [nI_clamp (by omega)]; rfl) (nm_r (nI_1 j) (ih (j + 1) (by omega) hp))⟩
theorem i_vc0 : wpX_init (fun u => wpY_init (fun v => i_Rel 0 u v)) := by
  unfold wpX_init
  refine ⟨9, cx_init 8 0 rfl ?_⟩
  unfold wpY_init
  refine ⟨9, cy_init 8 0 rfl ?_⟩
  exact ca_rel 0 0 0 0 ⟨by omega, by omega, by omega, by omega, fun m hm => Or.inl (ca_in_8 m hm), fun _ => ⟨0, by omega, rfl⟩, fun _ => ⟨0, by omega, rfl⟩, fun t ht => absurd ht (Nat.not_lt_zero t), fun q hq => absurd hq (Nat.not_lt_zero q)⟩
end RL
