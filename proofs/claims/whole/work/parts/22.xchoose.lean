/-! the component's chooseTip -/
variable {tc bc tip : Nat} {fs ss pd sn rc pa mi tl bn st br ca fi am wk ins th ya ow dn : Nat → Int32}
theorem rx_ct63 {post : SX → Prop} (hbc : bc ≤ 21) (h0 : 0 < bc) (hs : st 0 ≠ 0) (ht : tip < bc) (h : post (nI tc, nI bc, nI (rl_tp st tl bc tip), fs, ss, pd, sn, rc, pa, mi, tl, bn, st, br, ca, fi, am)) :
    ∀ m i n : Nat, i + m = bc → m < n → wX_chooseTip_63 post (nI tc) (nI bc) (nI tip) fs ss pd sn rc pa mi tl bn st br ca fi am n (nI (rl_cb st tl i)) (nI i) := by
  have hit : vp_in (nI tip) 21 := vp_in_nI (by omega) (by decide)
  intro m
  induction m with
  | zero =>
    intro i n him hn
    obtain ⟨n, rfl⟩ : ∃ n', n = n' + 1 := ⟨n - 1, by omega⟩
    have e : i = bc := by omega
    have hc := (rl_cb_ok tl hs i).2
    subst e
    refine br_t (nI_le (by omega) (by omega)) ?_
    rw [nI_clamp (n := tip) (by omega), nI_clamp (n := rl_cb st tl i) (by omega)]
    refine ⟨hit, br_c (fun z => ?_) (fun z => ⟨vp_in_nI (by omega) (by decide), hit, br_c (fun w => ?_) (fun w => ?_)⟩)⟩
    · have e : rl_tp st tl i tip = rl_cb st tl i := if_pos (Or.inl z)
      rw [e] at h
      exact h
    · have e : rl_tp st tl i tip = tip := if_neg (fun v => v.elim z (fun v => absurd w (Int32.not_le.mpr v)))
      rw [e] at h
      exact h
    · have e : rl_tp st tl i tip = rl_cb st tl i := if_pos (Or.inr (Int32.not_le.mp w))
      rw [e] at h
      exact h
  | succ m ih =>
    intro i n him hn
    obtain ⟨n, rfl⟩ : ∃ n', n = n' + 1 := ⟨n - 1, by omega⟩
    have hc := (rl_cb_ok tl hs i).2
    have hi : vp_in (nI i) 21 := vp_in_nI (by omega) (by decide)
    refine br_f (nI_ge (by omega) (by omega)) ?_
    have hn2 := ih (i + 1) n (by omega) (by omega)
    rw [nI_clamp (n := i) (by omega), nI_clamp (n := rl_cb st tl i) (by omega)]
    refine ⟨hi, br_c (fun z => nm_r (nI_1 i) ?_) (fun z => ⟨hi, vp_in_nI (by omega) (by decide), br_c (fun w => nm_r (nI_1 i) ?_) (fun w => nm_r (nI_1 i) ?_)⟩)⟩
    · rw [rl_cb_n1 z] at hn2
      exact hn2
    · rw [rl_cb_n2 (Int32.not_lt.mpr w)] at hn2
      exact hn2
    · rw [rl_cb_y z (Int32.not_le.mp w)] at hn2
      exact hn2
theorem rx_ct2 {post : SX → Prop} (hbc : bc ≤ 21) (H : rl_G tc bc fs ss pd pa tl br fi ca am wk ins)
    (hK : ∀ st : Nat → Int32, rl_sd bc bn br fi st → ∃ n, wX_chooseTip_63 post (nI tc) (nI bc) (nI tip) fs ss pd sn rc pa mi tl bn st br ca fi am n 0 1) :
    ∀ (m i n : Nat) (st : Nat → Int32), i + m = bc → m < n → 0 < i → (∀ k, k < i → (st k = 1 ∧ rl_V bn br fi k) ∨ (st k = 0 ∧ ¬ rl_V bn br fi k)) → wX_chooseTip_2 post (nI tc) (nI bc) (nI tip) n (nI i) fs ss pd sn rc pa mi tl bn st br ca fi am := by
  intro m
  induction m with
  | zero =>
    intro i n st him hn h0 hS
    obtain ⟨n, rfl⟩ : ∃ n', n = n' + 1 := ⟨n - 1, by omega⟩
    have e : i = bc := by omega
    subst e
    exact br_t (nI_le (by omega) (by omega)) (hK st hS)
  | succ m ih =>
    intro i n st him hn h0 hS
    obtain ⟨n, rfl⟩ : ∃ n', n = n' + 1 := ⟨n - 1, by omega⟩
    have hi : vp_in (nI i) 21 := vp_in_nI (by omega) (by decide)
    have hA := H.1.2.2 i h0 (by omega)
    have hpl := hA.1
    have hV := rl_V_s bn H h0 (b := i) (by omega)
    have ext : ∀ v : Int32, ((v = 1 ∧ rl_V bn br fi i) ∨ (v = 0 ∧ ¬ rl_V bn br fi i)) → ∀ k, k < i + 1 → (upd st i v k = 1 ∧ rl_V bn br fi k) ∨ (upd st i v k = 0 ∧ ¬ rl_V bn br fi k) := by
      intro v hv k hk
      by_cases e : k = i
      · subst e
        rw [pk_us]
        exact hv
      · rw [pk_un e]
        exact hS k (by omega)
    refine br_f (nI_ge (by omega) (by omega)) ?_
    rw [nI_clamp (n := i) (by omega), hA.2.1, nI_clamp (n := rl_pp pa i) (by omega)]
    refine ⟨hi, br_c (fun z => ⟨hi, nm_r (congrArg (upd st i) rl_n0) (nm_r (nI_1 i) (ih (i + 1) n _ (by omega) (by omega) (by omega) (ext 0 (Or.inr ⟨rfl, fun v => (hV.mp v).1 z⟩))))⟩) (fun z => ⟨hi, br_c (fun w => ⟨hi, vp_in_nI (by omega) (by decide), br_c (fun v => ⟨hi, nm_r (congrArg (upd st i) rl_n0) (nm_r (nI_1 i) (ih (i + 1) n _ (by omega) (by omega) (by omega) (ext 0 (Or.inr ⟨rfl, fun q => ?_⟩))))⟩) (fun v => ⟨hi, nm_r (congrArg (upd st i) rl_n1) (nm_r (nI_1 i) (ih (i + 1) n _ (by omega) (by omega) (by omega) (ext 1 (Or.inl ⟨rfl, ?_⟩))))⟩)⟩) (fun w => ⟨hi, nm_r (congrArg (upd st i) rl_n0) (nm_r (nI_1 i) (ih (i + 1) n _ (by omega) (by omega) (by omega) (ext 0 (Or.inr ⟨rfl, fun v => w (hV.mp v).2.1⟩))))⟩)⟩)⟩
    · rcases hS (rl_pp pa i) hpl with y | y
      · rw [y.1] at v
        exact absurd v (by decide)
      · exact y.2 (hV.mp q).2.2
    · rcases hS (rl_pp pa i) hpl with y | y
      · exact hV.mpr ⟨z, w, y.2⟩
      · exact absurd y.1 v
theorem rx_choose {post : SX → Prop} (hbc : bc ≤ 21) (h0 : 0 < bc) (H : rl_G tc bc fs ss pd pa tl br fi ca am wk ins) (hz : bn 0 = 0) (hst : st 0 = 1) (ht : tip < bc)
    (h : ∀ st' : Nat → Int32, rl_sd bc bn br fi st' → post (nI tc, nI bc, nI (rl_tp st' tl bc tip), fs, ss, pd, sn, rc, pa, mi, tl, bn, st', br, ca, fi, am)) : wpX_chooseTip post (nI tc, nI bc, nI tip, fs, ss, pd, sn, rc, pa, mi, tl, bn, st, br, ca, fi, am) := by
  have hV0 := rl_V_0 H hz
  refine ⟨bc, rx_ct2 hbc H (fun st' S => ⟨bc, ?_⟩) (bc - 1) 1 bc st (by omega) (by omega) (by omega) (fun k hk => ?_)⟩
  · have hh := rx_ct63 (post := post) (sn := sn) (rc := rc) (mi := mi) (bn := bn) hbc h0 ((rl_sd_V S h0).mpr hV0) ht (h st' S) (bc - 1) 1 bc (by omega) (by omega)
    rw [rl_cb_1] at hh
    exact hh
  · have e : k = 0 := by omega
    subst e
    exact Or.inl ⟨hst, hV0⟩
