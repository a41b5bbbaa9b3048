/-! unspent, fits, shared, confirmations -/
variable {tc bc tip : Nat} {fs ss pd sn rc pa mi tl bn st br ca fi am wk ins th ya ow dn : Nat → Int32}
theorem rl_gt {x : Int32} {n : Nat} (hn : n < 2 ^ 31 - 1) (h : nI (n + 1) ≤ x) : nI n < x := by
  rw [Int32.le_iff_toInt_le, nI_toInt (by omega)] at h
  rw [Int32.lt_iff_toInt_lt, nI_toInt (by omega)]
  omega
theorem i_vc_unspent {k : Nat} {u : SX} {v : SY} (I : i_Rel k u v) (hk : k + 5 ≤ 2560) (v1 : Int32) : wpX_unspent (fun r => wpY_unspent (fun r' v' => r' = r ∧ i_Rel (k + 5) u v') v v1) u v1 := by
  obtain ⟨tc, bc, tip, fs, ss, pd, sn, rc, pa, mi, tl, bn, st, br, ca, fi, am, wk, ins, th, ya, ow, dn, rfl, rfl, P⟩ := I
  obtain ⟨htc, h0, hbc, ht, T, H, hz, hbn, S, hV⟩ := id P
  rcases pk_ix v1 (n := 64) (by omega) with h | h | ⟨c, hc, rfl⟩
  · unfold wpX_unspent
    exact rx_isCoin_n (Or.inl h) (br_t rfl (br_t h ⟨rfl, rv_mk P⟩))
  · unfold wpX_unspent
    refine rx_isCoin_n (Or.inr h) (br_t rfl ?_)
    have h63 : (63 : Int32) < v1 := rl_gt (n := 63) (by omega) h
    by_cases h0 : v1 < 0
    · exact br_t h0 ⟨rfl, rv_mk P⟩
    · exact br_f h0 (br_f (Int32.not_le.mpr h63) ⟨rfl, rv_mk P⟩)
  · have hg := rl_gd_bo T htc H tip ht _ (rl_bo_y hV.1)
    have Y : ∀ r : Int32, r = (if rl_row am tip c = 0 then 0 else 1) → wpY_unspent (fun r' v' => r' = r ∧ i_Rel (k + 5) (nI tc, nI bc, nI tip, fs, ss, pd, sn, rc, pa, mi, tl, bn, st, br, ca, fi, am) v') (nI tc, nI bc, nI tip, fs, ss, pd, sn, rc, pa, mi, wk, ins, bn, th, ya, ow, dn) (nI c) := by
      intro r hr
      refine br_f (nI_pos (by omega)) (br_t (nI_le (b := 63) (by omega) (by decide)) (ry_replay T htc hbc H ht (fun _ th ya ow dn R => ⟨vp_in_nI hc (by decide), ?_⟩) (fun z => absurd hV z)))
      rw [nI_clamp (n := c) (by omega)]
      dsimp only
      rcases R.2.2.2 c hc with e | e
      · rw [e, hr, if_pos ((R.1 c hc).mp e)]
        exact ⟨rfl, rfl, rv_mk P⟩
      · rw [e, hr, if_neg (fun z => absurd (e.symm.trans ((R.1 c hc).mpr z)) (by decide))]
        exact ⟨rfl, rfl, rv_mk P⟩
    unfold wpX_unspent
    refine rx_isCoin_y hc (br_f (by decide) (rx_ab (by omega) hc (br_c (fun w => Y 0 ?_) (fun w => Y 1 ?_))))
    · rw [if_pos (Int32.le_antisymm w (hg.1 c))]
    · rw [if_neg (fun z => w (by rw [z]; exact Int32.le_refl 0))]
theorem i_vc_fits {k : Nat} {u : SX} {v : SY} (I : i_Rel k u v) (hk : k + 5 ≤ 2560) (v1 : Int32) : wpX_fits (fun r => wpY_fits (fun r' v' => r' = r ∧ i_Rel (k + 5) u v') v v1) u v1 := by
  obtain ⟨tc, bc, tip, fs, ss, pd, sn, rc, pa, mi, tl, bn, st, br, ca, fi, am, wk, ins, th, ya, ow, dn, rfl, rfl, P⟩ := I
  obtain ⟨htc, h0, hbc, ht, T, H, hz, hbn, S, hV⟩ := id P
  rcases pk_ix v1 (n := tc) (by omega) with h | h | ⟨t, htt, rfl⟩
  · unfold wpX_fits
    exact rx_isTx_n (Or.inl h) (br_t rfl (br_t h ⟨rfl, rv_mk P⟩))
  · unfold wpX_fits
    refine rx_isTx_n (Or.inr h) (br_t rfl ?_)
    by_cases h0 : v1 < 0
    · exact br_t h0 ⟨rfl, rv_mk P⟩
    · exact br_f h0 (br_f (Int32.not_lt.mpr h) ⟨rfl, rv_mk P⟩)
  · have Y : ∀ r : Int32, (rl_fit fs ss pd (rl_row am tip, ca tip) t → r = 1) → (¬ rl_fit fs ss pd (rl_row am tip, ca tip) t → r = 0) → wpY_fits (fun r' v' => r' = r ∧ i_Rel (k + 5) (nI tc, nI bc, nI tip, fs, ss, pd, sn, rc, pa, mi, tl, bn, st, br, ca, fi, am) v') (nI tc, nI bc, nI tip, fs, ss, pd, sn, rc, pa, mi, wk, ins, bn, th, ya, ow, dn) (nI t) := by
      intro r h1 h2
      refine br_f (nI_pos (by omega)) (br_t (nI_lt htt (by omega)) (ry_replay T htc hbc H ht (fun _ th ya ow dn R => ?_) (fun z => absurd hV z)))
      exact ry_fits T htc htt R (fun hf => ⟨rfl, (h1 hf).symm, rv_mk P⟩) (fun hf => ⟨rfl, (h2 hf).symm, rv_mk P⟩)
    unfold wpX_fits
    exact rx_isTx_y (by omega) htt (br_f (by decide) (rx_fits T htc htt (by omega) (fun hf => br_f (by decide) (Y 1 (fun _ => rfl) (fun z => absurd hf z))) (fun hf => br_t rfl (Y 0 (fun z => absurd z hf) (fun _ => rfl)))))
theorem rx_shared_loop {post : Int32 → Prop} {a b : Nat} (hbc : bc ≤ 21) (ha : a < bc) (hb : b < bc) (h : post (rl_ct (fun i => bt (br a) i && bt (br b) i) bc)) :
    ∀ m i n : Nat, i + m = bc → m < n → wX_shared_24 post (nI a) (nI b) (nI tc) (nI bc) (nI tip) fs ss pd sn rc pa mi tl bn st br ca fi am n (rl_ct (fun i => bt (br a) i && bt (br b) i) i) (nI i) := by
  intro m
  induction m with
  | zero =>
    intro i n him hn
    obtain ⟨n, rfl⟩ : ∃ n', n = n' + 1 := ⟨n - 1, by omega⟩
    have e : i = bc := by omega
    rw [e]
    exact br_t (nI_le (by omega) (by omega)) h
  | succ m ih =>
    intro i n him hn
    obtain ⟨n, rfl⟩ : ∃ n', n = n' + 1 := ⟨n - 1, by omega⟩
    have hh := ih (i + 1) n (by omega) (by omega)
    refine br_f (nI_ge (by omega) (by omega)) (rx_ob (by omega) (by omega) (fun z => br_f (by decide) (rx_ob (by omega) (by omega) (fun w => br_f (by decide) (nm_e (nm_r (nI_1 i) ?_))) (fun w => br_t rfl (nm_r (nI_1 i) ?_)))) (fun z => br_t rfl (nm_r (nI_1 i) ?_)))
    · rw [rl_ct_y (by rw [z, w]; rfl)] at hh
      exact hh
    · rw [rl_ct_n (fun q => w ((Bool.and_eq_true _ _).mp q).2)] at hh
      exact hh
    · rw [rl_ct_n (fun q => z ((Bool.and_eq_true _ _).mp q).1)] at hh
      exact hh
theorem ry_shared_loop {post : Int32 → Prop} {a b : Nat} (hbc : bc ≤ 21) (H : rl_A bc pa br) (ha : a < bc) (hb : b < bc) (h : post (rl_ct (fun i => bt (br a) i && bt (br b) i) bc)) :
    ∀ m i n : Nat, i + m = bc → m < n → wY_shared_24 post (nI a) (nI b) (nI tc) (nI bc) (nI tip) fs ss pd sn rc pa mi wk ins bn th ya ow dn n (rl_ct (fun i => bt (br a) i && bt (br b) i) i) (nI i) := by
  intro m
  induction m with
  | zero =>
    intro i n him hn
    obtain ⟨n, rfl⟩ : ∃ n', n = n' + 1 := ⟨n - 1, by omega⟩
    have e : i = bc := by omega
    rw [e]
    exact br_t (nI_le (by omega) (by omega)) h
  | succ m ih =>
    intro i n him hn
    obtain ⟨n, rfl⟩ : ∃ n', n = n' + 1 := ⟨n - 1, by omega⟩
    have hh := ih (i + 1) n (by omega) (by omega)
    refine br_f (nI_ge (by omega) (by omega)) (ry_ob hbc H (by omega) ha (fun z => br_f (by decide) (ry_ob hbc H (by omega) hb (fun w => br_f (by decide) (nm_e (nm_r (nI_1 i) ?_))) (fun w => br_t rfl (nm_r (nI_1 i) ?_)))) (fun z => br_t rfl (nm_r (nI_1 i) ?_)))
    · rw [rl_ct_y (by rw [z, w]; rfl)] at hh
      exact hh
    · rw [rl_ct_n (fun q => w ((Bool.and_eq_true _ _).mp q).2)] at hh
      exact hh
    · rw [rl_ct_n (fun q => z ((Bool.and_eq_true _ _).mp q).1)] at hh
      exact hh
theorem i_vc_shared {k : Nat} {u : SX} {v : SY} (I : i_Rel k u v) (hk : k + 5 ≤ 2560) (v1 : Int32) (v2 : Int32) : wpX_shared (fun r => wpY_shared (fun r' => r' = r ∧ i_Rel (k + 5) u v) v v1 v2) u v1 v2 := by
  obtain ⟨tc, bc, tip, fs, ss, pd, sn, rc, pa, mi, tl, bn, st, br, ca, fi, am, wk, ins, th, ya, ow, dn, rfl, rfl, P⟩ := I
  obtain ⟨htc, h0, hbc, ht, T, H, hz, hbn, S, hV⟩ := id P
  have split : ∀ x : Int32, (x < 0 ∨ nI bc ≤ x) ∨ ∃ j, j < bc ∧ x = nI j := by
    intro x
    rcases pk_ix x (n := bc) (by omega) with h | h | h
    · exact Or.inl (Or.inl h)
    · exact Or.inl (Or.inr h)
    · exact Or.inr h
  unfold wpX_shared
  rcases split v1 with hx | ⟨a, ha, rfl⟩
  · refine rx_isBlock_n hx (br_t rfl ?_)
    unfold wpY_shared
    exact ry_isBlock_n hx (br_t rfl ⟨rfl, rv_mk P⟩)
  · rcases split v2 with hx | ⟨b, hb, rfl⟩
    · refine rx_isBlock_y hbc ha (br_f (by decide) (rx_isBlock_n hx (br_t rfl ?_)))
      unfold wpY_shared
      exact ry_isBlock_y hbc ha (br_f (by decide) (ry_isBlock_n hx (br_t rfl ⟨rfl, rv_mk P⟩)))
    · refine rx_isBlock_y hbc ha (br_f (by decide) (rx_isBlock_y hbc hb (br_f (by decide) ⟨bc + 1, rx_shared_loop hbc ha hb ?_ bc 0 (bc + 1) (by omega) (by omega)⟩)))
      unfold wpY_shared
      exact ry_isBlock_y hbc ha (br_f (by decide) (ry_isBlock_y hbc hb (br_f (by decide) ⟨bc + 1, ry_shared_loop hbc H.1 ha hb ⟨rfl, rv_mk P⟩ bc 0 (bc + 1) (by omega) (by omega)⟩)))
theorem rx_conf_loop {post : Int32 → Prop} {t : Nat} (hbc : bc ≤ 21) (ht : tip < bc) (htt : t < 16) (h : post (rl_ct (fun i => bt (br tip) i && bt (ca i) t) bc)) :
    ∀ m i n : Nat, i + m = bc → m < n → wX_confirmations_15 post (nI t) (nI tc) (nI bc) (nI tip) fs ss pd sn rc pa mi tl bn st br ca fi am n (rl_ct (fun i => bt (br tip) i && bt (ca i) t) i) (nI i) := by
  intro m
  induction m with
  | zero =>
    intro i n him hn
    obtain ⟨n, rfl⟩ : ∃ n', n = n' + 1 := ⟨n - 1, by omega⟩
    have e : i = bc := by omega
    rw [e]
    exact br_t (nI_le (by omega) (by omega)) h
  | succ m ih =>
    intro i n him hn
    obtain ⟨n, rfl⟩ : ∃ n', n = n' + 1 := ⟨n - 1, by omega⟩
    have hh := ih (i + 1) n (by omega) (by omega)
    refine br_f (nI_ge (by omega) (by omega)) (rx_ob (by omega) (by omega) (fun z => br_f (by decide) (rx_carried (by omega) (by omega) (fun w => br_f (by decide) (nm_e (nm_r (nI_1 i) ?_))) (fun w => br_t rfl (nm_r (nI_1 i) ?_)))) (fun z => br_t rfl (nm_r (nI_1 i) ?_)))
    · rw [rl_ct_y (by rw [z, w]; rfl)] at hh
      exact hh
    · rw [rl_ct_n (fun q => w ((Bool.and_eq_true _ _).mp q).2)] at hh
      exact hh
    · rw [rl_ct_n (fun q => z ((Bool.and_eq_true _ _).mp q).1)] at hh
      exact hh
/-- the walk along the tip's branch has come to i: found says whether t was carried out -/
def rl_F (br ca : Nat → Int32) (tip t i : Nat) (x : Int32) : Prop :=
  (i = 0 ∧ x = 0) ∨ ∃ q, rl_Q br tip i q ∧ ((x = 1 ∧ bt (ca q) t = true) ∨ (x = 0 ∧ ¬ bt (ca q) t = true))
theorem rl_F_next {t i : Nat} {x : Int32} (htc : tc ≤ 16) (H : rl_G tc bc fs ss pd pa tl br fi ca am wk ins) (ht : tip < bc) (hV : rl_V bn br fi tip) (htt : t < 16) (hA : bt (br tip) i = true) (hF : rl_F br ca tip t i x) :
    bt (ca i) t = true ↔ (x ≠ 0 ∨ ins (i * 2) = nI t) ∨ ins (i * 2 + 1) = nI t := by
  have hib := rl_an_le H.1 tip ht i hA
  have some_of : ∀ j, bt (br tip) j = true → rl_bo fi ca am j = some (rl_row am j, ca j) := fun j hj => rl_bo_y (fun z => hV.1 (rl_bo_n.mp (rl_bo_up H tip ht j hj (rl_bo_n.mpr z))))
  rcases hF with ⟨e, hx⟩ | ⟨q, hQ, hx⟩
  · subst e
    have h1 := some_of 0 hA
    rw [H.2.2.1.2.2] at h1
    have h2 : ca 0 = 0 := (congrArg Prod.snd (Option.some.inj h1)).symm
    have e1 : ins (0 * 2) = -1 := H.2.2.1.1
    have e2 : ins (0 * 2 + 1) = -1 := H.2.2.1.2.1
    rw [h2, b_0, e1, e2, hx]
    refine ⟨fun z => absurd z (by decide), fun z => ?_⟩
    rcases z with (z | z) | z
    · exact absurd rfl z
    · exact absurd z.symm (rl_nm1 (by omega))
    · exact absurd z.symm (rl_nm1 (by omega))
  · have hq := hQ.1
    have e := rl_Q_par H.1 ht (by omega) hA hQ
    obtain ⟨_, h1, h2, h3⟩ := H.2.2.2 i (by omega) (by omega)
    rw [e, some_of q hQ.2.1, some_of i hA] at h3
    have h4 := rl_ca_st (t := t) htc h1 h2 h3.symm (by omega)
    have h5 : x ≠ 0 ↔ bt (ca q) t = true := by
      rcases hx with hx | hx
      · exact ⟨fun _ => hx.2, fun _ => by rw [hx.1]; decide⟩
      · exact ⟨fun z => absurd hx.1 z, fun z => absurd z hx.2⟩
    rw [h5]
    exact h4
theorem ry_conf81 {post : Int32 → Prop} {J : Int32 → Int32 → Int32 → Prop} {t i : Nat} {x z0 : Int32} (h0 : z0 = 0 → J x z0 (nI (i + 1))) (h1 : ¬ z0 = 0 → J (x + 1) z0 (nI (i + 1))) : wY_confirmations_81 post J (nI t) x (nI i) z0 (nI tc) (nI bc) (nI tip) fs ss pd sn rc pa mi wk ins bn th ya ow dn :=
  br_c (fun z => nm_r (nI_1 i) (h0 z)) (fun z => nm_e (nm_r (nI_1 i) (h1 z)))
theorem ry_conf_loop {post : Int32 → Prop} {t : Nat} (htc : tc ≤ 16) (hbc : bc ≤ 21) (H : rl_G tc bc fs ss pd pa tl br fi ca am wk ins) (ht : tip < bc) (hV : rl_V bn br fi tip) (htt : t < 16) (h : post (rl_ct (fun i => bt (br tip) i && bt (ca i) t) (tip + 1))) :
    ∀ (m i n : Nat) (x : Int32), i + m = tip + 1 → m < n → rl_F br ca tip t i x → wY_confirmations_22 post (nI t) (nI tc) (nI bc) (nI tip) fs ss pd sn rc pa mi wk ins bn th ya ow dn n (rl_ct (fun i => bt (br tip) i && bt (ca i) t) i) x (nI i) := by
  intro m
  induction m with
  | zero =>
    intro i n x him hn hF
    obtain ⟨n, rfl⟩ : ∃ n', n = n' + 1 := ⟨n - 1, by omega⟩
    have e : i = tip + 1 := by omega
    rw [e]
    exact br_t (nI_lt (by omega) (by omega)) h
  | succ m ih =>
    intro i n x him hn hF
    obtain ⟨n, rfl⟩ : ∃ n', n = n' + 1 := ⟨n - 1, by omega⟩
    have hi2 : vp_in (nI (i * 2)) 42 := vp_in_nI (by omega) (by decide)
    have hi3 : vp_in (nI (i * 2 + 1)) 42 := vp_in_nI (by omega) (by decide)
    refine br_f (nI_nlt (by omega) (by omega)) (ry_ob hbc H.1 (by omega) ht (fun hA => br_f (by decide) ?_) (fun hA => br_t rfl (nm_r (nI_1 i) ?_)))
    · have N := rl_F_next htc H ht hV htt hA hF
      have yes : bt (ca i) t = true → wY_confirmations_22 post (nI t) (nI tc) (nI bc) (nI tip) fs ss pd sn rc pa mi wk ins bn th ya ow dn n (rl_ct (fun i => bt (br tip) i && bt (ca i) t) i + 1) 1 (nI (i + 1)) := by
        intro z
        have hh := ih (i + 1) n 1 (by omega) (by omega) (Or.inr ⟨i, rl_Q_y hA, Or.inl ⟨rfl, z⟩⟩)
        rw [rl_ct_y (by rw [hA, z]; rfl)] at hh
        exact hh
      have no : ¬ bt (ca i) t = true → wY_confirmations_22 post (nI t) (nI tc) (nI bc) (nI tip) fs ss pd sn rc pa mi wk ins bn th ya ow dn n (rl_ct (fun i => bt (br tip) i && bt (ca i) t) i) 0 (nI (i + 1)) := by
        intro z
        have hh := ih (i + 1) n 0 (by omega) (by omega) (Or.inr ⟨i, rl_Q_y hA, Or.inr ⟨rfl, z⟩⟩)
        rw [rl_ct_n (fun q => z ((Bool.and_eq_true _ _).mp q).2)] at hh
        exact hh
      rw [show nI i * 2 = nI (i * 2) from pk_mul i 2, nI_1 (i * 2), nI_clamp (n := i * 2) (by omega), nI_clamp (n := i * 2 + 1) (by omega)]
      refine br_c (fun z1 => ⟨hi2, br_c (fun z2 => ?_) (fun z2 => ⟨hi3, br_c (fun z3 => ?_) (fun z3 => ?_)⟩)⟩) (fun z1 => ?_)
      · exact ry_conf81 (fun q => absurd q (by decide)) (fun _ => yes (N.mpr (Or.inl (Or.inr z2))))
      · exact ry_conf81 (fun q => absurd q (by decide)) (fun _ => yes (N.mpr (Or.inr z3)))
      · exact ry_conf81 (fun _ => no (fun q => (N.mp q).elim (fun q => q.elim (fun q => q z1) z2) z3)) (fun q => absurd rfl q)
      · exact ry_conf81 (fun q => absurd q (by decide)) (fun _ => yes (N.mpr (Or.inl (Or.inl z1))))
    · have hh := ih (i + 1) n x (by omega) (by omega) (by
        rcases hF with ⟨e, _⟩ | ⟨q, hQ, hx⟩
        · rw [e] at hA
          exact absurd (rl_an_z H.1 tip ht) hA
        · exact Or.inr ⟨q, rl_Q_n hA hQ, hx⟩)
      rw [rl_ct_n (fun q => hA ((Bool.and_eq_true _ _).mp q).1)] at hh
      exact hh
theorem i_vc_confirmations {k : Nat} {u : SX} {v : SY} (I : i_Rel k u v) (hk : k + 5 ≤ 2560) (v1 : Int32) : wpX_confirmations (fun r => wpY_confirmations (fun r' => r' = r ∧ i_Rel (k + 5) u v) v v1) u v1 := by
  obtain ⟨tc, bc, tip, fs, ss, pd, sn, rc, pa, mi, tl, bn, st, br, ca, fi, am, wk, ins, th, ya, ow, dn, rfl, rfl, P⟩ := I
  obtain ⟨htc, h0, hbc, ht, T, H, hz, hbn, S, hV⟩ := id P
  rcases pk_ix v1 (n := tc) (by omega) with h | h | ⟨t, htt, rfl⟩
  · unfold wpX_confirmations
    exact rx_isTx_n (Or.inl h) (br_t rfl (br_t h ⟨rfl, rv_mk P⟩))
  · unfold wpX_confirmations
    refine rx_isTx_n (Or.inr h) (br_t rfl ?_)
    by_cases h0 : v1 < 0
    · exact br_t h0 ⟨rfl, rv_mk P⟩
    · exact br_f h0 (br_f (Int32.not_lt.mpr h) ⟨rfl, rv_mk P⟩)
  · unfold wpX_confirmations
    refine rx_isTx_y (by omega) htt (br_f (by decide) ⟨bc + 1, rx_conf_loop hbc ht (by omega) ?_ bc 0 (bc + 1) (by omega) (by omega)⟩)
    have e : rl_ct (fun i => bt (br tip) i && bt (ca i) t) bc = rl_ct (fun i => bt (br tip) i && bt (ca i) t) (tip + 1) :=
      rl_ct_z bc (by omega) (fun i h1 h2 q => by have := rl_an_le H.1 tip ht i ((Bool.and_eq_true _ _).mp q).1; omega)
    exact br_f (nI_pos (by omega)) (br_t (nI_lt htt (by omega)) ⟨tip + 2, ry_conf_loop htc hbc H ht hV (by omega) ⟨e.symm, rv_mk P⟩ (tip + 1) 0 (tip + 2) 0 (by omega) (by omega) (Or.inl ⟨rfl, rfl⟩)⟩)
