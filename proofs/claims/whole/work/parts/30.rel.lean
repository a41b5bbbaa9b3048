/-! the relation, the start, the calls that only look at tip, valid, total -/
variable {tc bc tip : Nat} {fs ss pd sn rc pa mi tl bn st br ca fi am wk ins th ya ow dn : Nat → Int32}
/-- the two objects: shared arrays are the same functions; the reference's scratch is free -/
def i_Rel (k : Nat) (u : SX) (v : SY) : Prop :=
  ∃ (tc bc tip : Nat) (fs ss pd sn rc pa mi tl bn st br ca fi am wk ins th ya ow dn : Nat → Int32), u = (nI tc, nI bc, nI tip, fs, ss, pd, sn, rc, pa, mi, tl, bn, st, br, ca, fi, am) ∧ v = (nI tc, nI bc, nI tip, fs, ss, pd, sn, rc, pa, mi, wk, ins, bn, th, ya, ow, dn) ∧ rl_P tc bc tip fs ss pd pa bn tl st br ca fi am wk ins
theorem i_up {k : Nat} {u : SX} {v : SY} (h : i_Rel k u v) : i_Rel (k + 5) u v := h
theorem rv_mk {k : Nat} (h : rl_P tc bc tip fs ss pd pa bn tl st br ca fi am wk ins) : i_Rel k (nI tc, nI bc, nI tip, fs, ss, pd, sn, rc, pa, mi, tl, bn, st, br, ca, fi, am) (nI tc, nI bc, nI tip, fs, ss, pd, sn, rc, pa, mi, wk, ins, bn, th, ya, ow, dn) :=
  ⟨tc, bc, tip, fs, ss, pd, sn, rc, pa, mi, tl, bn, st, br, ca, fi, am, wk, ins, th, ya, ow, dn, rfl, rfl, h⟩
theorem rv_P0 : rl_P 0 1 0 (fun _ => 0) (fun _ => 0) (fun _ => 0) (fun _ => 0) (fun _ => 0) (fun _ => 0) (upd (fun _ => 0) 0 1) (upd (fun _ => 0) 0 1) (fun _ => 0) (upd (fun _ => 0) 0 1) (upd (fun _ => 0) 32 50) (fun _ => 0) (upd (upd (fun _ => 0) 0 (-1)) 1 (-1)) := by
  have hrow : rl_row (upd (fun _ => 0) 32 50) 0 = upd (fun _ => 0) 32 50 := by
    have e := rl_row_u (am := fun _ => 0) (b := 0) (c := 32) (v := 50) (by omega)
    have e2 : rl_row (fun _ => 0) 0 = fun _ => 0 := funext fun c => ite_self _
    rw [e2] at e
    exact e
  have hbo : rl_bo (upd (fun _ => 0) 0 1) (fun _ => 0) (upd (fun _ => 0) 32 50) 0 = some (upd (fun _ => 0) 32 50, 0) := by
    rw [rl_bo_y (by rw [pk_us]; decide), hrow]
  have H : rl_G 0 1 (fun _ => 0) (fun _ => 0) (fun _ => 0) (fun _ => 0) (fun _ => 0) (upd (fun _ => 0) 0 1) (upd (fun _ => 0) 0 1) (fun _ => 0) (upd (fun _ => 0) 32 50) (fun _ => 0) (upd (upd (fun _ => 0) 0 (-1)) 1 (-1)) := by
    refine ⟨⟨rfl, fun j => rl_b1 j, fun b h1 h2 => ?_⟩, ⟨rfl, rfl⟩, ⟨rfl, rfl, hbo⟩, fun b h1 h2 => ?_⟩
    · omega
    · omega
  have hV : rl_V (fun _ => 0) (upd (fun _ => 0) 0 1) (upd (fun _ => 0) 0 1) 0 := rl_V_0 H rfl
  refine ⟨by omega, by omega, by omega, by omega, fun t ht => absurd ht (Nat.not_lt_zero t), H, rfl, fun _ _ => rfl, fun b hb => ?_, hV⟩
  have e : b = 0 := by omega
  subst e
  exact Or.inl ⟨pk_us, hV⟩
theorem i_vc0 : wpX_init (fun u => wpY_init (fun v => i_Rel 0 u v)) := by
  refine nm_r (congrArg (upd _ 0) rl_n1) (nm_r (congrArg (upd _ 0) rl_n1) (nm_e (nm_e ?_)))
  refine nm_e (nm_e ?_)
  exact ⟨0, 1, 0, _, _, _, _, _, _, _, _, _, _, _, _, _, _, _, _, _, _, _, _, rfl, rfl, rv_P0⟩
theorem i_vc_tip {k : Nat} {u : SX} {v : SY} (I : i_Rel k u v) (hk : k + 5 ≤ 2560) : wpX_tip (fun r => wpY_tip (fun r' => r' = r ∧ i_Rel (k + 5) u v) v) u := by
  have I2 := i_up I
  obtain ⟨tc, bc, tip, fs, ss, pd, sn, rc, pa, mi, tl, bn, st, br, ca, fi, am, wk, ins, th, ya, ow, dn, rfl, rfl, P⟩ := I
  exact ⟨rfl, I2⟩
theorem i_vc_valid {k : Nat} {u : SX} {v : SY} (I : i_Rel k u v) (hk : k + 5 ≤ 2560) (v1 : Int32) : wpX_valid (fun r => wpY_valid (fun r' v' => r' = r ∧ i_Rel (k + 5) u v') v v1) u v1 := by
  obtain ⟨tc, bc, tip, fs, ss, pd, sn, rc, pa, mi, tl, bn, st, br, ca, fi, am, wk, ins, th, ya, ow, dn, rfl, rfl, P⟩ := I
  obtain ⟨htc, h0, hbc, ht, T, H, hz, hbn, S, hV⟩ := id P
  have bad : v1 < 0 ∨ nI bc ≤ v1 → wpX_valid (fun r => wpY_valid (fun r' v' => r' = r ∧ i_Rel (k + 5) (nI tc, nI bc, nI tip, fs, ss, pd, sn, rc, pa, mi, tl, bn, st, br, ca, fi, am) v') (nI tc, nI bc, nI tip, fs, ss, pd, sn, rc, pa, mi, wk, ins, bn, th, ya, ow, dn) v1) (nI tc, nI bc, nI tip, fs, ss, pd, sn, rc, pa, mi, tl, bn, st, br, ca, fi, am) v1 := by
    intro hx
    unfold wpX_valid
    refine rx_isBlock_n hx (br_t rfl ?_)
    unfold wpY_valid
    exact ry_isBlock_n hx (br_t rfl ⟨rfl, rv_mk P⟩)
  rcases pk_ix v1 (n := bc) (by omega) with h | h | ⟨b, hb, rfl⟩
  · exact bad (Or.inl h)
  · exact bad (Or.inr h)
  · unfold wpX_valid
    refine rx_isBlock_y hbc hb (br_f (by decide) ⟨vp_in_nI (by omega) (by decide), ?_⟩)
    rw [nI_clamp (n := b) (by omega)]
    refine br_c (fun z => ?_) (fun z => ?_)
    · exact ry_valid T htc hbc H hb (fun hV th ya ow dn => absurd z ((rl_sd_V S hb).mpr hV)) (fun hV th ya ow dn => ⟨rfl, rv_mk P⟩)
    · exact ry_valid T htc hbc H hb (fun hV th ya ow dn => ⟨rfl, rv_mk P⟩) (fun hV th ya ow dn => absurd ((rl_sd_V S hb).mp z) hV)
theorem i_vc_total {k : Nat} {u : SX} {v : SY} (I : i_Rel k u v) (hk : k + 5 ≤ 2560) (v1 : Int32) : wpX_total (fun r => wpY_total (fun r' => r' = r ∧ i_Rel (k + 5) u v) v v1) u v1 := by
  obtain ⟨tc, bc, tip, fs, ss, pd, sn, rc, pa, mi, tl, bn, st, br, ca, fi, am, wk, ins, th, ya, ow, dn, rfl, rfl, P⟩ := I
  obtain ⟨htc, h0, hbc, ht, T, H, hz, hbn, S, hV⟩ := id P
  have bad : v1 < 0 ∨ nI bc ≤ v1 → wpX_total (fun r => wpY_total (fun r' => r' = r ∧ i_Rel (k + 5) (nI tc, nI bc, nI tip, fs, ss, pd, sn, rc, pa, mi, tl, bn, st, br, ca, fi, am) (nI tc, nI bc, nI tip, fs, ss, pd, sn, rc, pa, mi, wk, ins, bn, th, ya, ow, dn)) (nI tc, nI bc, nI tip, fs, ss, pd, sn, rc, pa, mi, wk, ins, bn, th, ya, ow, dn) v1) (nI tc, nI bc, nI tip, fs, ss, pd, sn, rc, pa, mi, tl, bn, st, br, ca, fi, am) v1 := by
    intro hx
    unfold wpX_total
    refine rx_isBlock_n hx (br_t rfl ?_)
    unfold wpY_total
    exact ry_isBlock_n hx (br_t rfl ⟨rfl, rv_mk P⟩)
  rcases pk_ix v1 (n := bc) (by omega) with h | h | ⟨b, hb, rfl⟩
  · exact bad (Or.inl h)
  · exact bad (Or.inr h)
  · unfold wpX_total
    refine rx_isBlock_y hbc hb (br_f (by decide) ⟨vp_in_nI (by omega) (by decide), ?_⟩)
    rw [nI_clamp (n := b) (by omega)]
    exact ry_total hbc H hb ⟨rfl, rv_mk P⟩
