/-! the component's own walks: amountBehind, setAmountBehind, isCarried, isOnBranch, spendable, fitsBehind, carryOut -/
variable {tc bc tip : Nat} {fs ss pd sn rc pa mi tl bn st br ca fi am wk ins th ya ow dn : Nat → Int32}
theorem rx_ix (b c : Nat) : nI b * 64 + nI c = nI (b * 64 + c) := by
  rw [show (64 : Int32) = nI 64 from rfl, pk_mul, nI_add]
theorem rx_ab {post : Int32 → Prop} {b c : Nat} (hb : b < 21) (hc : c < 64) (h : post (rl_row am b c)) : wpX_amountBehind post (nI tc, nI bc, nI tip, fs, ss, pd, sn, rc, pa, mi, tl, bn, st, br, ca, fi, am) (nI b) (nI c) := by
  unfold wpX_amountBehind
  dsimp only
  rw [rx_ix, nI_clamp (by omega)]
  rw [rl_row_lt hc] at h
  exact ⟨vp_in_nI (by omega) (by decide), h⟩
theorem rx_set {post : SX → Prop} {b c : Nat} {v : Int32} (hb : b < 21) (hc : c < 64) (h : post (nI tc, nI bc, nI tip, fs, ss, pd, sn, rc, pa, mi, tl, bn, st, br, ca, fi, upd am (b * 64 + c) v)) : wpX_setAmountBehind post (nI tc, nI bc, nI tip, fs, ss, pd, sn, rc, pa, mi, tl, bn, st, br, ca, fi, am) (nI b) (nI c) v := by
  unfold wpX_setAmountBehind
  dsimp only
  rw [rx_ix, nI_clamp (by omega)]
  exact ⟨vp_in_nI (by omega) (by decide), nm_e h⟩
theorem rx_bit {x : Int32} {j : Nat} (hj : j < 32) : ((x >>> (nI j &&& 31)) &&& 1) = 1 ↔ bt x j = true := by
  rw [rl_bit x hj]
  by_cases h : bt x j = true
  · rw [if_pos h]
    exact ⟨fun _ => h, fun _ => rfl⟩
  · rw [if_neg h]
    exact ⟨fun z => absurd z (by decide), fun z => absurd z h⟩
theorem rx_carried {post : Int32 → Prop} {t b : Nat} (ht : t < 32) (hb : b < 21) (h1 : bt (ca b) t = true → post 1) (h0 : ¬ bt (ca b) t = true → post 0) : wpX_isCarried post (nI tc, nI bc, nI tip, fs, ss, pd, sn, rc, pa, mi, tl, bn, st, br, ca, fi, am) (nI t) (nI b) := by
  unfold wpX_isCarried
  dsimp only
  rw [nI_clamp (by omega), rx_bit ht]
  exact ⟨vp_in_nI hb (by decide), br_c h1 h0⟩
theorem rx_ob {post : Int32 → Prop} {j b : Nat} (hj : j < 32) (hb : b < 21) (h1 : bt (br b) j = true → post 1) (h0 : ¬ bt (br b) j = true → post 0) : wpX_isOnBranch post (nI tc, nI bc, nI tip, fs, ss, pd, sn, rc, pa, mi, tl, bn, st, br, ca, fi, am) (nI j) (nI b) := by
  unfold wpX_isOnBranch
  dsimp only
  rw [nI_clamp (by omega), rx_bit hj]
  exact ⟨vp_in_nI hb (by decide), br_c h1 h0⟩
theorem rx_isBlock_y {post : Int32 → Prop} {b : Nat} (hbc : bc ≤ 21) (hb : b < bc) (h : post 1) : wpX_isBlock post (nI tc, nI bc, nI tip, fs, ss, pd, sn, rc, pa, mi, tl, bn, st, br, ca, fi, am) (nI b) :=
  br_f (nI_pos (by omega)) (br_f (nI_ge hb (by omega)) h)
theorem rx_isBlock_n {post : Int32 → Prop} {x : Int32} (hx : x < 0 ∨ nI bc ≤ x) (h : post 0) : wpX_isBlock post (nI tc, nI bc, nI tip, fs, ss, pd, sn, rc, pa, mi, tl, bn, st, br, ca, fi, am) x := by
  by_cases h0 : x < 0
  · exact br_t h0 h
  · exact br_f h0 (br_t (hx.resolve_left h0) h)
theorem rx_isTx_y {post : Int32 → Prop} {b : Nat} (hbc : tc ≤ 21) (hb : b < tc) (h : post 1) : wpX_isTransaction post (nI tc, nI bc, nI tip, fs, ss, pd, sn, rc, pa, mi, tl, bn, st, br, ca, fi, am) (nI b) :=
  br_f (nI_pos (by omega)) (br_f (nI_ge hb (by omega)) h)
theorem rx_isTx_n {post : Int32 → Prop} {x : Int32} (hx : x < 0 ∨ nI tc ≤ x) (h : post 0) : wpX_isTransaction post (nI tc, nI bc, nI tip, fs, ss, pd, sn, rc, pa, mi, tl, bn, st, br, ca, fi, am) x := by
  by_cases h0 : x < 0
  · exact br_t h0 h
  · exact br_f h0 (br_t (hx.resolve_left h0) h)
theorem rx_isCoin_y {post : Int32 → Prop} {c : Nat} (hc : c < 64) (h : post 1) : wpX_isCoin post (nI tc, nI bc, nI tip, fs, ss, pd, sn, rc, pa, mi, tl, bn, st, br, ca, fi, am) (nI c) :=
  br_f (nI_pos (by omega)) (br_f (nI_ge (b := 64) hc (by omega)) h)
theorem rx_isCoin_n {post : Int32 → Prop} {x : Int32} (hx : x < 0 ∨ nI 64 ≤ x) (h : post 0) : wpX_isCoin post (nI tc, nI bc, nI tip, fs, ss, pd, sn, rc, pa, mi, tl, bn, st, br, ca, fi, am) x := by
  by_cases h0 : x < 0
  · exact br_t h0 h
  · exact br_f h0 (br_t (hx.resolve_left h0) h)
theorem rx_isOwner_y {post : Int32 → Prop} {c : Nat} (hc : c < 8) (h : post 1) : wpX_isOwner post (nI tc, nI bc, nI tip, fs, ss, pd, sn, rc, pa, mi, tl, bn, st, br, ca, fi, am) (nI c) :=
  br_f (nI_pos (by omega)) (br_f (nI_ge (b := 8) hc (by omega)) h)
theorem rx_isOwner_n {post : Int32 → Prop} {x : Int32} (hx : x < 0 ∨ nI 8 ≤ x) (h : post 0) : wpX_isOwner post (nI tc, nI bc, nI tip, fs, ss, pd, sn, rc, pa, mi, tl, bn, st, br, ca, fi, am) x := by
  by_cases h0 : x < 0
  · exact br_t h0 h
  · exact br_f h0 (br_t (hx.resolve_left h0) h)
theorem rx_sp {post : Int32 → Prop} {t b : Nat} (T : rl_tx tc fs ss pd) (htc : tc ≤ 16) (ht : t < tc) (hb : b < 21) (h : post (rl_sp fs ss (rl_row am b) t)) : wpX_spendable post (nI tc, nI bc, nI tip, fs, ss, pd, sn, rc, pa, mi, tl, bn, st, br, ca, fi, am) (nI b) (nI t) := by
  have hi : vp_in (nI t) 16 := vp_in_nI (by omega) (by decide)
  obtain ⟨⟨x, hx, e1⟩, hy, -⟩ := T t ht
  unfold wpX_spendable
  dsimp only
  rw [nI_clamp (by omega)]
  rcases hy with e2 | ⟨y, hy, e2⟩
  · rw [rl_sp1 hx e1 e2] at h
    exact ⟨hi, nm_r e1 ⟨hi, nm_r e2 (rx_ab hb hx (br_t rfl h))⟩⟩
  · refine ⟨hi, nm_r e1 ⟨hi, nm_r e2 (rx_ab hb hx (br_f (rl_nm1 (by omega)) (rx_ab hb hy ?_)))⟩⟩
    by_cases z1 : x = y
    · rw [rl_sp0 hx hy e1 e2 (Or.inl z1)] at h
      exact br_t (congrArg nI z1) h
    · refine br_f (fun z => z1 ((nI_eq (by omega) (by omega)).mp z)) ?_
      by_cases z2 : rl_row am b x = 0
      · rw [rl_sp0 hx hy e1 e2 (Or.inr (Or.inl z2))] at h
        exact br_t z2 h
      · refine br_f z2 ?_
        by_cases z3 : rl_row am b y = 0
        · rw [rl_sp0 hx hy e1 e2 (Or.inr (Or.inr z3))] at h
          exact br_t z3 h
        · rw [rl_sp2 hx hy e1 e2 z1 z2 z3] at h
          exact br_f z3 h
theorem rx_fits {post : Int32 → Prop} {t b : Nat} (T : rl_tx tc fs ss pd) (htc : tc ≤ 16) (ht : t < tc) (hb : b < 21) (h1 : rl_fit fs ss pd (rl_row am b, ca b) t → post 1) (h0 : ¬ rl_fit fs ss pd (rl_row am b, ca b) t → post 0) : wpX_fitsBehind post (nI tc, nI bc, nI tip, fs, ss, pd, sn, rc, pa, mi, tl, bn, st, br, ca, fi, am) (nI b) (nI t) := by
  have hi : vp_in (nI t) 16 := vp_in_nI (by omega) (by decide)
  unfold wpX_fitsBehind
  dsimp only
  rw [nI_clamp (by omega)]
  refine rx_carried (by omega) hb (fun z => ?_) (fun z => ?_)
  · exact br_f (by decide) (h0 fun w => absurd (z.symm.trans w.1) (by decide))
  · refine br_t rfl (rx_sp T htc ht hb ⟨hi, ?_⟩)
    exact br_c (fun w => h0 fun v => absurd v.2 (Int32.not_le.mpr w)) (fun w => h1 ⟨Bool.eq_false_iff.mpr z, Int32.not_lt.mp w⟩)
