/-! transaction, block, ban -/
variable {tc bc tip : Nat} {fs ss pd sn rc pa mi tl bn st br ca fi am wk ins th ya ow dn : Nat → Int32}
theorem rl_ltm1 {x : Int32} (h : x < 0) (h1 : ¬ x = -1) : x < -1 := by
  have h2 : x.toInt ≠ -1 := fun z => h1 (Int32.toInt_inj.mp (z.trans (by decide)))
  rw [Int32.lt_iff_toInt_lt, show (0 : Int32).toInt = 0 from by decide] at h
  rw [Int32.lt_iff_toInt_lt, show (-1 : Int32).toInt = -1 from by decide]
  omega
theorem rl_nltm1 {n : Nat} (h : n < 2 ^ 31) : ¬ nI n < -1 := by
  rw [Int32.lt_iff_toInt_lt, show (-1 : Int32).toInt = -1 from by decide, nI_toInt h]
  omega
theorem rv_tx24 {k x : Nat} {y v3 v4 : Int32} (P : rl_P tc bc tip fs ss pd pa bn tl st br ca fi am wk ins) (hx : x < 64) (hy : y = -1 ∨ ∃ z, z < 64 ∧ y = nI z) :
    wX_transaction_24 (fun r u' => wpY_transaction (fun r' v' => r' = r ∧ i_Rel (k + 5) u' v') (nI tc, nI bc, nI tip, fs, ss, pd, sn, rc, pa, mi, wk, ins, bn, th, ya, ow, dn) (nI x) y v3 v4) (nI x) y v3 v4 (nI tc) (nI bc) (nI tip) fs ss pd sn rc pa mi tl bn st br ca fi am := by
  obtain ⟨htc, h0, hbc, ht, T, H, hz, hbn, S, hV⟩ := id P
  have hx0 : ¬ nI x < 0 := nI_pos (by omega)
  have hx1 : ¬ (63 : Int32) < nI x := nI_nlt (a := 63) (by omega) (by decide)
  have hy0 : ¬ y < -1 := by
    rcases hy with e | ⟨z, hz, e⟩
    · rw [e]
      decide
    · rw [e]
      exact rl_nltm1 (by omega)
  have hy1 : y ≤ 63 := by
    rcases hy with e | ⟨z, hz, e⟩
    · rw [e]
      decide
    · rw [e]
      exact nI_le (b := 63) (by omega) (by decide)
  by_cases a1 : v3 < 1
  · exact br_t a1 (br_f hx0 (br_f hx1 (br_f hy0 (br_t hy1 (br_t a1 ⟨rfl, rv_mk P⟩)))))
  by_cases a2 : v3 ≤ 1000
  · by_cases c : tc < 16
    · have c1 : nI tc < 16 := nI_lt (b := 16) c (by decide)
      have c2 : ¬ nI tc = 16 := fun z => by
        rw [z] at c1
        exact absurd c1 (by decide)
      have hi : vp_in (nI tc) 16 := vp_in_nI c (by decide)
      have a3 : ¬ v3 < 0 := fun z => a1 (Int32.lt_iff_toInt_lt.mpr (by
        have q := Int32.lt_iff_toInt_lt.mp z
        rw [show (0 : Int32).toInt = 0 from by decide] at q
        rw [show (1 : Int32).toInt = 1 from by decide]
        omega))
      obtain ⟨a, ha, rfl⟩ := nI_of a3
      have b1 : 1 ≤ a := Nat.not_lt.mp (fun z => a1 (nI_lt (b := 1) z (by decide)))
      have b2 : a ≤ 1000 := (nI_leI ha (by decide)).mp a2
      have P2 : rl_P (tc + 1) bc tip (upd fs tc (nI x)) (upd ss tc y) (upd pd tc (nI a)) pa bn tl st br ca fi am wk ins :=
        ⟨by omega, h0, hbc, ht, rl_tx_a T hx hy b1 b2, rl_G_tx htc H (nI x) y (nI a), hz, hbn, S, hV⟩
      refine br_f a1 (br_t a2 (br_t c1 ?_))
      rw [nI_clamp (n := tc) (by omega)]
      refine ⟨hi, nm_e ⟨hi, nm_e ⟨hi, nm_e ⟨hi, nm_e ⟨hi, nm_e (nm_r (nI_1 tc) ?_)⟩⟩⟩⟩⟩
      refine br_f hx0 (br_f hx1 (br_f hy0 (br_t hy1 (br_f a1 (br_t a2 (br_f c2 ?_))))))
      rw [nI_clamp (n := tc) (by omega)]
      exact ⟨hi, nm_e ⟨hi, nm_e ⟨hi, nm_e ⟨hi, nm_e ⟨hi, nm_e (nm_r (nI_1 tc) ⟨nI_pred tc, rv_mk P2⟩)⟩⟩⟩⟩⟩
    · have e : tc = 16 := by omega
      have c1 : ¬ nI tc < 16 := nI_nlt (b := 16) (by omega) (by omega)
      have c2 : nI tc = 16 := congrArg nI e
      exact br_f a1 (br_t a2 (br_f c1 (br_f hx0 (br_f hx1 (br_f hy0 (br_t hy1 (br_f a1 (br_t a2 (br_t c2 ⟨rfl, rv_mk P⟩)))))))))
  · exact br_f a1 (br_f a2 (br_f hx0 (br_f hx1 (br_f hy0 (br_t hy1 (br_f a1 (br_f a2 ⟨rfl, rv_mk P⟩)))))))
theorem i_vc_transaction {k : Nat} {u : SX} {v : SY} (I : i_Rel k u v) (hk : k + 5 ≤ 2560) (v1 : Int32) (v2 : Int32) (v3 : Int32) (v4 : Int32) : wpX_transaction (fun r u' => wpY_transaction (fun r' v' => r' = r ∧ i_Rel (k + 5) u' v') v v1 v2 v3 v4) u v1 v2 v3 v4 := by
  obtain ⟨tc, bc, tip, fs, ss, pd, sn, rc, pa, mi, tl, bn, st, br, ca, fi, am, wk, ins, th, ya, ow, dn, rfl, rfl, P⟩ := I
  unfold wpX_transaction
  rcases pk_ix v1 (n := 64) (by omega) with h | h | ⟨x, hx, rfl⟩
  · exact rx_isCoin_n (Or.inl h) (br_t rfl (br_t h ⟨rfl, rv_mk P⟩))
  · refine rx_isCoin_n (Or.inr h) (br_t rfl ?_)
    have h63 : (63 : Int32) < v1 := rl_gt (n := 63) (by omega) h
    by_cases h0 : v1 < 0
    · exact br_t h0 ⟨rfl, rv_mk P⟩
    · exact br_f h0 (br_t h63 ⟨rfl, rv_mk P⟩)
  · have hx0 : ¬ nI x < 0 := nI_pos (by omega)
    have hx1 : ¬ (63 : Int32) < nI x := nI_nlt (a := 63) (by omega) (by decide)
    refine rx_isCoin_y hx (br_f (by decide) ?_)
    by_cases e : v2 = -1
    · exact br_t e (rv_tx24 P hx (Or.inl e))
    · refine br_f e ?_
      rcases pk_ix v2 (n := 64) (by omega) with h | h | ⟨y, hy, rfl⟩
      · exact rx_isCoin_n (Or.inl h) (br_t rfl (br_f hx0 (br_f hx1 (br_t (rl_ltm1 h e) ⟨rfl, rv_mk P⟩))))
      · refine rx_isCoin_n (Or.inr h) (br_t rfl (br_f hx0 (br_f hx1 ?_)))
        have h63 : (63 : Int32) < v2 := rl_gt (n := 63) (by omega) h
        by_cases h0 : v2 < -1
        · exact br_t h0 ⟨rfl, rv_mk P⟩
        · exact br_f h0 (br_f (Int32.not_le.mpr h63) ⟨rfl, rv_mk P⟩)
      · exact rx_isCoin_y hy (br_f (by decide) (rv_tx24 P hx (Or.inr ⟨y, hy, rfl⟩)))
theorem rl_io_of {c f : Int32} (htc : tc ≤ 16) (e : f = (c &&& 31) - 1) (h : ¬ nI tc ≤ f) : rl_io tc f := by
  obtain ⟨j, hj, e2⟩ := pk_andE c (m := 31) 5 (by decide)
  rw [e2] at e
  by_cases z : j = 0
  · left
    rw [e, z]
    decide
  · right
    obtain ⟨i, rfl⟩ : ∃ i, j = i + 1 := ⟨j - 1, by omega⟩
    rw [nI_pred] at e
    refine ⟨i, ?_, e⟩
    rw [e, nI_leI (by omega) (by omega)] at h
    omega
theorem i_vc_ban {k : Nat} {u : SX} {v : SY} (I : i_Rel k u v) (hk : k + 5 ≤ 2560) (v1 : Int32) (v2 : Int32) : wpX_ban (fun r u' => wpY_ban (fun r' v' => r' = r ∧ i_Rel (k + 5) u' v') v v1 (lw_bz v2)) u v1 (lw_bz v2) := by
  obtain ⟨tc, bc, tip, fs, ss, pd, sn, rc, pa, mi, tl, bn, st, br, ca, fi, am, wk, ins, th, ya, ow, dn, rfl, rfl, P⟩ := I
  obtain ⟨htc, h0, hbc, ht, T, H, hz, hbn, S, hV⟩ := id P
  unfold wpX_ban
  have bad : v1 < 0 ∨ nI bc ≤ v1 → wpX_ban (fun r u' => wpY_ban (fun r' v' => r' = r ∧ i_Rel (k + 5) u' v') (nI tc, nI bc, nI tip, fs, ss, pd, sn, rc, pa, mi, wk, ins, bn, th, ya, ow, dn) v1 (lw_bz v2)) (nI tc, nI bc, nI tip, fs, ss, pd, sn, rc, pa, mi, tl, bn, st, br, ca, fi, am) v1 (lw_bz v2) := by
    intro hx
    unfold wpX_ban
    refine rx_isBlock_n hx (br_t rfl ?_)
    unfold wpY_ban
    exact ry_isBlock_n hx (br_t rfl ⟨rfl, rv_mk P⟩)
  rcases pk_ix v1 (n := bc) (by omega) with h | h | ⟨b, hb, rfl⟩
  · exact bad (Or.inl h)
  · exact bad (Or.inr h)
  · by_cases e : b = 0
    · subst e
      refine rx_isBlock_y hbc hb (br_f (by decide) (br_t rfl ?_))
      unfold wpY_ban
      exact ry_isBlock_y hbc hb (br_f (by decide) (br_t rfl ⟨rfl, rv_mk P⟩))
    · have hne : ¬ nI b = 0 := nI_ne0 (by omega) (by omega)
      have hi : vp_in (nI b) 21 := vp_in_nI (by omega) (by decide)
      have hz2 : upd bn b (vp_nar .boolean (lw_bz v2)) 0 = 0 := by rw [pk_un (by omega)]; exact hz
      have hb2 : ∀ j, bc ≤ j → upd bn b (vp_nar .boolean (lw_bz v2)) j = 0 := fun j hj => by rw [pk_un (by omega)]; exact hbn j hj
      have hst : st 0 = 1 := (S 0 h0).elim (fun q => q.1) (fun q => absurd (rl_V_0 H hz) q.2)
      have fin : ∀ st' : Nat → Int32, rl_sd bc (upd bn b (vp_nar .boolean (lw_bz v2))) br fi st' → rl_P tc bc (rl_tp st' tl bc tip) fs ss pd pa (upd bn b (vp_nar .boolean (lw_bz v2))) tl st' br ca fi am wk ins := by
        intro st' S'
        have q := rl_tp_ok tl S' h0 (rl_V_0 H hz2) ht
        exact ⟨htc, h0, hbc, q.1, T, H, hz2, hb2, S', q.2⟩
      refine rx_isBlock_y hbc hb (br_f (by decide) (br_f hne ⟨hi, ?_⟩))
      rw [nI_clamp (n := b) (by omega)]
      refine br_c (fun z => ⟨hi, nm_r (congrArg (fun j => upd bn j _) (nI_clamp (by omega))) (rx_choose hbc h0 H hz2 hst ht (fun st' S' => ?_))⟩) (fun z => ⟨hi, nm_r (congrArg (fun j => upd bn j _) (nI_clamp (by omega))) (rx_choose hbc h0 H hz2 hst ht (fun st' S' => ?_))⟩)
      · unfold wpY_ban
        refine ry_isBlock_y hbc hb (br_f (by decide) (br_f hne ⟨hi, ?_⟩))
        rw [nI_clamp (n := b) (by omega)]
        exact br_t z ⟨hi, nm_r (congrArg (fun j => upd bn j _) (nI_clamp (by omega))) (ry_choose T htc hbc H S' ht (fun th ya ow dn => ⟨rfl, rv_mk (fin st' S')⟩))⟩
      · unfold wpY_ban
        refine ry_isBlock_y hbc hb (br_f (by decide) (br_f hne ⟨hi, ?_⟩))
        rw [nI_clamp (n := b) (by omega)]
        exact br_f z ⟨hi, nm_r (congrArg (fun j => upd bn j _) (nI_clamp (by omega))) (ry_choose T htc hbc H S' ht (fun th ya ow dn => ⟨rfl, rv_mk (fin st' S')⟩))⟩
