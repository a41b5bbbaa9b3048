/-! the component's carryOut and buildState -/
variable {tc bc tip : Nat} {fs ss pd sn rc pa mi tl bn st br ca fi am wk ins th ya ow dn : Nat → Int32}
theorem rx_put {t b : Nat} (ht : t < 16) {am1 : Nat → Int32} (hc : rl_row am1 b = rl_cl fs ss (rl_row am b) t) {e : Int32} (he : e = rl_sp fs ss (rl_row am b) t - pd t) : rl_put fs ss pd (rl_row am b, ca b) t = (rl_row (upd (upd am1 (b * 64 + 2 * t) (pd t)) (b * 64 + (2 * t + 1)) e) b, upd ca b (ca b ||| ((1 : Int32) <<< (nI t &&& 31))) b) := by
  rw [rl_row_u (by omega), rl_row_u (by omega), hc, pk_us, he]
  exact rfl
theorem rx_co66 {post : Int32 → SX → Prop} {t b : Nat} {e : Int32} (ht : t < 16) (hb : b < 21) (h : post 1 (nI tc, nI bc, nI tip, fs, ss, pd, sn, rc, pa, mi, tl, bn, st, br, upd ca b (ca b ||| ((1 : Int32) <<< (nI t &&& 31))), fi, upd (upd am (b * 64 + 2 * t) (pd t)) (b * 64 + (2 * t + 1)) e)) : wX_carryOut_66 post (nI b) (nI t) e (nI tc) (nI bc) (nI tip) fs ss pd sn rc pa mi tl bn st br ca fi am := by
  have hi : vp_in (nI t) 16 := vp_in_nI ht (by decide)
  have hib : vp_in (nI b) 21 := vp_in_nI hb (by decide)
  unfold wX_carryOut_66
  rw [nI_clamp (n := t) (by omega), nI_clamp (n := b) (by omega), show (2 : Int32) * nI t = nI (2 * t) from pk_mul 2 t, nI_1 (2 * t)]
  exact ⟨hi, rx_set hb (by omega) (rx_set hb (by omega) ⟨hib, hib, nm_e h⟩)⟩
theorem rx_carry {post : Int32 → SX → Prop} {i : Int32} {b : Nat} (T : rl_tx tc fs ss pd) (htc : tc ≤ 16) (hi : rl_io tc i) (hb : b < 21)
    (h1 : ∀ am' ca' : Nat → Int32, rl_cy fs ss pd (rl_row am b, ca b) i = some (rl_row am' b, ca' b) → (∀ k, k ≠ b → rl_row am' k = rl_row am k ∧ ca' k = ca k) → post 1 (nI tc, nI bc, nI tip, fs, ss, pd, sn, rc, pa, mi, tl, bn, st, br, ca', fi, am'))
    (h0 : rl_cy fs ss pd (rl_row am b, ca b) i = none → post 0 (nI tc, nI bc, nI tip, fs, ss, pd, sn, rc, pa, mi, tl, bn, st, br, ca, fi, am)) : wpX_carryOut post (nI tc, nI bc, nI tip, fs, ss, pd, sn, rc, pa, mi, tl, bn, st, br, ca, fi, am) (nI b) i := by
  rcases hi with e | ⟨t, ht, e⟩
  · subst e
    exact br_t rfl (h1 am ca (rl_cy_m _ _ _ _) (fun k _ => ⟨rfl, rfl⟩))
  · subst e
    have hi : vp_in (nI t) 16 := vp_in_nI (by omega) (by decide)
    obtain ⟨⟨x, hx, e1⟩, hy, -⟩ := T t ht
    unfold wpX_carryOut
    dsimp only
    rw [nI_clamp (n := t) (by omega), e1]
    refine br_f (rl_nm1 (by omega)) (rx_fits T htc ht hb (fun hf => br_f (by decide) ?_) (fun hf => br_t rfl (h0 (rl_cy_n (by omega) hf))))
    refine rx_sp T htc ht hb ⟨hi, nm_e ⟨hi, rx_set hb hx ⟨hi, ?_⟩⟩⟩
    rcases hy with e2 | ⟨y, hy, e2⟩
    · have hc : rl_row (upd am (b * 64 + x) 0) b = rl_cl fs ss (rl_row am b) t := by rw [rl_row_u hx, rl_cl1 hx e1 e2]
      refine br_t e2 (rx_co66 (by omega) hb (h1 _ _ ((rl_cy_t (by omega) hf).trans (congrArg some (rx_put (by omega) hc rfl))) (fun k hk => ⟨?_, pk_un hk⟩)))
      rw [rl_row_o (by omega) hk, rl_row_o (by omega) hk, rl_row_o hx hk]
    · have hc : rl_row (upd (upd am (b * 64 + x) 0) (b * 64 + y) 0) b = rl_cl fs ss (rl_row am b) t := by rw [rl_row_u hy, rl_row_u hx, rl_cl2 hx hy e1 e2]
      dsimp only
      rw [e2]
      refine br_f (rl_nm1 (by omega)) ⟨hi, rx_set hb hy (rx_co66 (by omega) hb (h1 _ _ ((rl_cy_t (by omega) hf).trans (congrArg some (rx_put (by omega) hc rfl))) (fun k hk => ⟨?_, pk_un hk⟩)))⟩
      rw [rl_row_o (by omega) hk, rl_row_o (by omega) hk, rl_row_o hy hk, rl_row_o hx hk]
theorem rx_build_loop {post : SX → Prop} {b p : Nat} {f g : Int32} (T : rl_tx tc fs ss pd) (htc : tc ≤ 16) (hb : b < 21) (hp : p < b) (hf : rl_io tc f) (hg : rl_io tc g)
    (h : ∀ am' ca' fi' : Nat → Int32, (∀ k, k ≠ b → rl_row am' k = rl_row am k ∧ ca' k = ca k ∧ fi' k = fi k) → rl_bo fi' ca' am' b = (rl_bo fi ca am p).bind (rl_st fs ss pd b f g) → post (nI tc, nI bc, nI tip, fs, ss, pd, sn, rc, pa, mi, tl, bn, st, br, ca', fi', am')) :
    ∀ m c n : Nat, c + m = 64 → m < n → wX_buildState_11 post (nI b) f g (nI p) (nI tc) (nI bc) (nI tip) n (nI c) fs ss pd sn rc pa mi tl bn st br ca fi (rl_cp am b p c) := by
  have hib : vp_in (nI b) 21 := vp_in_nI hb (by decide)
  have hip : vp_in (nI p) 21 := vp_in_nI (by omega) (by decide)
  intro m
  induction m with
  | zero =>
    intro c n hc hn
    obtain ⟨n, rfl⟩ : ∃ n', n = n' + 1 := ⟨n - 1, by omega⟩
    have e : c = 64 := by omega
    subst e
    refine br_t (nI_le (a := 64) (by omega) (by omega)) ?_
    rw [nI_clamp (n := b) (by omega), nI_clamp (n := p) (by omega), show (32 : Int32) + nI b = nI (32 + b) from nI_add 32 b]
    refine ⟨hip, hib, nm_e (rx_set hb (by omega) ⟨hip, ?_⟩)⟩
    generalize hm2 : upd (rl_cp am b p 64) (b * 64 + (32 + b)) 50 = am2
    generalize hc2 : upd ca b (ca p) = ca2
    have E1 : rl_row am2 b = upd (rl_row am p) (32 + b) 50 := by rw [← hm2, rl_row_u (by omega), rl_cp_b]
    have E2 : ca2 b = ca p := by rw [← hc2, pk_us]
    have O : ∀ k, k ≠ b → rl_row am2 k = rl_row am k ∧ ca2 k = ca k := fun k hk => by rw [← hm2, ← hc2, rl_row_o (by omega) hk, rl_cp_o am p hk, pk_un hk]; exact ⟨rfl, rfl⟩
    have U : ∀ (v : Int32) (k : Nat), k ≠ b → upd fi b v k = fi k := fun v k hk => pk_un hk
    have N0 : ∀ am' ca' : Nat → Int32, rl_bo (upd fi b 0) ca' am' b = none := fun am' ca' => rl_bo_n.mpr pk_us
    have N1 : ∀ am' ca' : Nat → Int32, rl_bo (upd fi b 1) ca' am' b = some (rl_row am' b, ca' b) := fun am' ca' => rl_bo_y (by rw [pk_us]; decide)
    refine br_c (fun z => ⟨hib, nm_r (congrArg (upd fi b) rl_n0) (h am2 ca2 _ (fun k hk => ⟨(O k hk).1, (O k hk).2, U 0 k hk⟩) ?_)⟩) (fun z => rx_carry T htc hf hb (fun am3 ca3 c1 o1 => br_f (by decide) (rx_carry T htc hg hb (fun am4 ca4 c2 o2 => br_f (by decide) ⟨hib, nm_r (congrArg (upd fi b) rl_n1) (h am4 ca4 _ (fun k hk => ⟨(o2 k hk).1.trans ((o1 k hk).1.trans (O k hk).1), (o2 k hk).2.trans ((o1 k hk).2.trans (O k hk).2), U 1 k hk⟩) ?_)⟩) (fun c2 => br_t rfl ⟨hib, nm_r (congrArg (upd fi b) rl_n0) (h am3 ca3 _ (fun k hk => ⟨(o1 k hk).1.trans (O k hk).1, (o1 k hk).2.trans (O k hk).2, U 0 k hk⟩) ?_)⟩))) (fun c1 => br_t rfl ⟨hib, nm_r (congrArg (upd fi b) rl_n0) (h am2 ca2 _ (fun k hk => ⟨(O k hk).1, (O k hk).2, U 0 k hk⟩) ?_)⟩))
    · rw [N0, rl_bo_n.mpr z]
      exact rfl
    · rw [E1, E2] at c1
      rw [N1, rl_bo_y z]
      exact (rl_st_y (s := (rl_row am p, ca p)) c1 c2).symm
    · rw [E1, E2] at c1
      rw [N0, rl_bo_y z]
      exact (rl_st_n2 (s := (rl_row am p, ca p)) c1 c2).symm
    · rw [E1, E2] at c1
      rw [N0, rl_bo_y z]
      exact (rl_st_n1 (s := (rl_row am p, ca p)) c1).symm
  | succ m ih =>
    intro c n hc hn
    obtain ⟨n, rfl⟩ : ∃ n', n = n' + 1 := ⟨n - 1, by omega⟩
    refine br_f (nI_ge (b := 64) (by omega) (by decide)) ?_
    rw [rx_ix p c, rx_ix b c, nI_clamp (n := p * 64 + c) (by omega), nI_clamp (n := b * 64 + c) (by omega)]
    exact ⟨vp_in_nI (by omega) (by decide), vp_in_nI (by omega) (by decide), nm_r (e' := rl_cp am b p (c + 1)) (by rw [rl_cp_r am hp (by omega), rl_cp_s]) (nm_r (nI_1 c) (ih (c + 1) n (by omega) (by omega)))⟩
theorem rx_build {post : SX → Prop} {b p : Nat} {f g : Int32} (T : rl_tx tc fs ss pd) (htc : tc ≤ 16) (hb : b < 21) (hp : p < b) (hpa : pa b = nI p) (hf : rl_io tc f) (hg : rl_io tc g)
    (h : ∀ am' ca' fi' : Nat → Int32, (∀ k, k ≠ b → rl_row am' k = rl_row am k ∧ ca' k = ca k ∧ fi' k = fi k) → rl_bo fi' ca' am' b = (rl_bo fi ca am p).bind (rl_st fs ss pd b f g) → post (nI tc, nI bc, nI tip, fs, ss, pd, sn, rc, pa, mi, tl, bn, st, br, ca', fi', am')) : wpX_buildState post (nI tc, nI bc, nI tip, fs, ss, pd, sn, rc, pa, mi, tl, bn, st, br, ca, fi, am) (nI b) f g := by
  have hib : vp_in (nI b) 21 := vp_in_nI hb (by decide)
  have hl := rx_build_loop (post := post) (bc := bc) (tip := tip) (pa := pa) (mi := mi) T htc hb hp hf hg h 64 0 65 (by omega) (by omega)
  rw [rl_cp_0] at hl
  exact ⟨hib, nm_r (by rw [nI_clamp (by omega), hpa]) ⟨65, hl⟩⟩
