/-! balance -/
variable {tc bc tip : Nat} {fs ss pd sn rc pa mi tl bn st br ca fi am wk ins th ya ow dn : Nat → Int32}
def rl_g (mi rc sn r : Nat → Int32) (o : Int32) (c : Nat) : Int32 := if rl_ow mi rc sn c = o then r c else 0
theorem rl_g_y {r : Nat → Int32} {o : Int32} {c : Nat} (h : rl_ow mi rc sn c = o) : rl_g mi rc sn r o c = r c := if_pos h
theorem rl_g_n {r : Nat → Int32} {o : Int32} {c : Nat} (h : ¬ rl_ow mi rc sn c = o) : rl_g mi rc sn r o c = 0 := if_neg h
theorem rl_g_0 {r : Nat → Int32} (o : Int32) {c : Nat} (h : r c = 0) : rl_g mi rc sn r o c = 0 := by
  unfold rl_g
  rw [h]
  exact ite_self _
theorem rx_bal87 {post : Int32 → Prop} {J : Int32 → Int32 → Prop} {t : Nat} {o x : Int32} (htt : t < 16) (ht : tip < 21) (h : J (x + rl_g mi rc sn (rl_row am tip) o (2 * t + 1)) (nI (t + 1))) : wX_balance_87 post J o x (nI t) (nI tc) (nI bc) (nI tip) fs ss pd sn rc pa mi tl bn st br ca fi am := by
  have e := rl_ow_o mi rc sn htt
  unfold wX_balance_87
  rw [nI_clamp (n := t) (by omega), show (2 : Int32) * nI t = nI (2 * t) from pk_mul 2 t, nI_1 (2 * t), nI_1 t]
  refine ⟨vp_in_nI htt (by decide), br_c (fun z => rx_ab ht (by omega) (nm_e (nm_e ?_))) (fun z => nm_e ?_)⟩
  · rw [rl_g_y (e.trans z)] at h
    exact h
  · rw [rl_g_n (fun w => z (e.symm.trans w)), Int32.add_zero] at h
    exact h
theorem rx_bal55 {post : Int32 → Prop} {o s0 : Int32} (htc : tc ≤ 16) (ht : tip < 21) (h : post (rl_tm (rl_g mi rc sn (rl_row am tip) o) s0 tc)) :
    ∀ m i n : Nat, i + m = tc → m < n → wX_balance_55 post o (nI tc) (nI bc) (nI tip) fs ss pd sn rc pa mi tl bn st br ca fi am n (rl_tm (rl_g mi rc sn (rl_row am tip) o) s0 i) (nI i) := by
  intro m
  induction m with
  | zero =>
    intro i n him hn
    obtain ⟨n, rfl⟩ : ∃ n', n = n' + 1 := ⟨n - 1, by omega⟩
    have e : i = tc := by omega
    rw [e]
    exact br_t (nI_le (by omega) (by omega)) h
  | succ m ih =>
    intro i n him hn
    obtain ⟨n, rfl⟩ : ∃ n', n = n' + 1 := ⟨n - 1, by omega⟩
    have hh := ih (i + 1) n (by omega) (by omega)
    have e := rl_ow_e mi rc sn (t := i) (by omega)
    refine br_f (nI_ge (by omega) (by omega)) ?_
    rw [nI_clamp (n := i) (by omega), show (2 : Int32) * nI i = nI (2 * i) from pk_mul 2 i]
    refine ⟨vp_in_nI (by omega) (by decide), br_c (fun z => rx_ab ht (by omega) (nm_e (rx_bal87 (by omega) ht ?_))) (fun z => rx_bal87 (by omega) ht ?_)⟩
    · rw [← rl_g_y (mi := mi) (r := rl_row am tip) (e.trans z)]
      exact hh
    · have h2 : rl_tm (rl_g mi rc sn (rl_row am tip) o) s0 (i + 1) = rl_tm (rl_g mi rc sn (rl_row am tip) o) s0 i + rl_g mi rc sn (rl_row am tip) o (2 * i + 1) := by
        show rl_tm (rl_g mi rc sn (rl_row am tip) o) s0 i + rl_g mi rc sn (rl_row am tip) o (2 * i) + rl_g mi rc sn (rl_row am tip) o (2 * i + 1) = _
        rw [rl_g_n (fun w => z (e.symm.trans w)), Int32.add_zero]
      rw [h2] at hh
      exact hh
theorem rx_bal14 {post : Int32 → Prop} {o : Int32} (hbc : bc ≤ 21) (ht : tip < bc) (hK : ∃ n, wX_balance_55 post o (nI tc) (nI bc) (nI tip) fs ss pd sn rc pa mi tl bn st br ca fi am n (rl_sm (fun b => rl_g mi rc sn (rl_row am tip) o (32 + b)) bc) 0) :
    ∀ m i n : Nat, i + m = bc → m < n → wX_balance_14 post o (nI tc) (nI bc) (nI tip) fs ss pd sn rc pa mi tl bn st br ca fi am n (rl_sm (fun b => rl_g mi rc sn (rl_row am tip) o (32 + b)) i) (nI i) := by
  intro m
  induction m with
  | zero =>
    intro i n him hn
    obtain ⟨n, rfl⟩ : ∃ n', n = n' + 1 := ⟨n - 1, by omega⟩
    have e : i = bc := by omega
    rw [e]
    exact br_t (nI_le (by omega) (by omega)) hK
  | succ m ih =>
    intro i n him hn
    obtain ⟨n, rfl⟩ : ∃ n', n = n' + 1 := ⟨n - 1, by omega⟩
    have hh := ih (i + 1) n (by omega) (by omega)
    have e := rl_ow_b mi rc sn i
    have e2 : rl_sm (fun b => rl_g mi rc sn (rl_row am tip) o (32 + b)) (i + 1) = rl_sm (fun b => rl_g mi rc sn (rl_row am tip) o (32 + b)) i + rl_g mi rc sn (rl_row am tip) o (32 + i) := rfl
    rw [e2] at hh
    refine br_f (nI_ge (by omega) (by omega)) ?_
    rw [nI_clamp (n := i) (by omega), show (32 : Int32) + nI i = nI (32 + i) from nI_add 32 i]
    refine ⟨vp_in_nI (by omega) (by decide), br_c (fun z => rx_ab (by omega) (by omega) (nm_e (nm_r (nI_1 i) ?_))) (fun z => nm_r (nI_1 i) ?_)⟩
    · rw [rl_g_y (e.trans z)] at hh
      exact hh
    · rw [rl_g_n (fun w => z (e.symm.trans w)), Int32.add_zero] at hh
      exact hh
theorem ry_bal25 {post : Int32 → SY → Prop} {o : Int32} {s : rl_S} (R : rl_R mi rc sn s th ya ow dn) (h : post (rl_sm (rl_g mi rc sn s.1 o) 64) (nI tc, nI bc, nI tip, fs, ss, pd, sn, rc, pa, mi, wk, ins, bn, th, ya, ow, dn)) :
    ∀ m i n : Nat, i + m = 64 → m < n → wY_balance_25 post o (nI tc) (nI bc) (nI tip) fs ss pd sn rc pa mi wk ins bn th ya ow dn n (rl_sm (rl_g mi rc sn s.1 o) i) (nI i) := by
  intro m
  induction m with
  | zero =>
    intro i n him hn
    obtain ⟨n, rfl⟩ : ∃ n', n = n' + 1 := ⟨n - 1, by omega⟩
    have e : i = 64 := by omega
    rw [e]
    exact br_t (nI_le (a := 64) (by omega) (by omega)) h
  | succ m ih =>
    intro i n him hn
    obtain ⟨n, rfl⟩ : ∃ n', n = n' + 1 := ⟨n - 1, by omega⟩
    have hi : vp_in (nI i) 64 := vp_in_nI (by omega) (by decide)
    have hh := ih (i + 1) n (by omega) (by omega)
    have e2 : rl_sm (rl_g mi rc sn s.1 o) (i + 1) = rl_sm (rl_g mi rc sn s.1 o) i + rl_g mi rc sn s.1 o i := rfl
    rw [e2] at hh
    refine br_f (nI_ge (b := 64) (by omega) (by decide)) ?_
    rw [nI_clamp (n := i) (by omega)]
    refine ⟨hi, br_c (fun z => nm_r (nI_1 i) ?_) (fun z => ⟨hi, br_c (fun w => ⟨hi, nm_e (nm_r (nI_1 i) ?_)⟩) (fun w => nm_r (nI_1 i) ?_)⟩)⟩
    · rw [rl_g_0 o ((R.1 i (by omega)).mp z), Int32.add_zero] at hh
      exact hh
    · have q := R.2.1 i (by omega) (fun q => z ((R.1 i (by omega)).mpr q))
      rw [q.2] at w
      rw [rl_g_y w, ← q.1] at hh
      exact hh
    · have q := R.2.1 i (by omega) (fun q => z ((R.1 i (by omega)).mpr q))
      rw [q.2] at w
      rw [rl_g_n w, Int32.add_zero] at hh
      exact hh
theorem i_vc_balance {k : Nat} {u : SX} {v : SY} (I : i_Rel k u v) (hk : k + 5 ≤ 2560) (v1 : Int32) : wpX_balance (fun r => wpY_balance (fun r' v' => r' = r ∧ i_Rel (k + 5) u v') v v1) u v1 := by
  obtain ⟨tc, bc, tip, fs, ss, pd, sn, rc, pa, mi, tl, bn, st, br, ca, fi, am, wk, ins, th, ya, ow, dn, rfl, rfl, P⟩ := I
  obtain ⟨htc, h0, hbc, ht, T, H, hz, hbn, S, hV⟩ := id P
  rcases pk_ix v1 (n := 8) (by omega) with h | h | ⟨o, ho, rfl⟩
  · unfold wpX_balance
    exact rx_isOwner_n (Or.inl h) (br_t rfl (br_t h ⟨rfl, rv_mk P⟩))
  · unfold wpX_balance
    refine rx_isOwner_n (Or.inr h) (br_t rfl ?_)
    have h7 : (7 : Int32) < v1 := rl_gt (n := 7) (by omega) h
    by_cases h0 : v1 < 0
    · exact br_t h0 ⟨rfl, rv_mk P⟩
    · exact br_f h0 (br_f (Int32.not_le.mpr h7) ⟨rfl, rv_mk P⟩)
  · have hg := rl_gd_bo T htc H tip ht _ (rl_bo_y hV.1)
    have e : rl_tm (rl_g mi rc sn (rl_row am tip) (nI o)) (rl_sm (fun b => rl_g mi rc sn (rl_row am tip) (nI o) (32 + b)) bc) tc = rl_sm (rl_g mi rc sn (rl_row am tip) (nI o)) 64 := by
      refine rl_sum htc (by omega) (fun c h1 h2 => rl_g_0 _ (Classical.byContradiction fun z => ?_)) (fun c h1 => rl_g_0 _ (Classical.byContradiction fun z => ?_))
      · have := hg.2.2.1 _ (hg.2.1 c h2 z)
        omega
      · have := hg.2.2.2 c (by omega) z
        omega
    unfold wpX_balance
    refine rx_isOwner_y ho (br_f (by decide) ⟨bc + 1, rx_bal14 hbc ht ⟨tc + 1, rx_bal55 htc (by omega) ?_ tc 0 (tc + 1) (by omega) (by omega)⟩ bc 0 (bc + 1) (by omega) (by omega)⟩)
    refine br_f (nI_pos (by omega)) (br_t (nI_le (b := 7) (by omega) (by decide)) (ry_replay T htc hbc H ht (fun _ th ya ow dn R => ?_) (fun z => absurd hV z)))
    exact ⟨65, ry_bal25 R ⟨e.symm, rv_mk P⟩ 64 0 65 (by omega) (by omega)⟩
