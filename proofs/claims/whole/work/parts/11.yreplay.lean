/-! the reference's walks: replay, valid, total, choose -/
variable {tc bc tip : Nat} {fs ss pd sn rc pa mi tl bn st br ca fi am wk ins th ya ow dn : Nat → Int32}
theorem rl_st_y {b : Nat} {f k : Int32} {s s1 s2 : rl_S} (h1 : rl_cy fs ss pd (upd s.1 (32 + b) 50, s.2) f = some s1) (h2 : rl_cy fs ss pd s1 k = some s2) : rl_st fs ss pd b f k s = some s2 := by
  unfold rl_st
  rw [h1]
  exact h2
theorem rl_st_n1 {b : Nat} {f k : Int32} {s : rl_S} (h1 : rl_cy fs ss pd (upd s.1 (32 + b) 50, s.2) f = none) : rl_st fs ss pd b f k s = none := by
  unfold rl_st
  rw [h1]
  exact rfl
theorem rl_st_n2 {b : Nat} {f k : Int32} {s s1 : rl_S} (h1 : rl_cy fs ss pd (upd s.1 (32 + b) 50, s.2) f = some s1) (h2 : rl_cy fs ss pd s1 k = none) : rl_st fs ss pd b f k s = none := by
  unfold rl_st
  rw [h1]
  exact h2
/-- the walk along the branch of b has come to i -/
def rl_I (mi rc sn bn br fi ca am : Nat → Int32) (b i : Nat) (th ya ow dn : Nat → Int32) : Prop :=
  (i = 0 ∧ rl_R mi rc sn (fun _ => 0, 0) th ya ow dn) ∨ ∃ q s, rl_Q br b i q ∧ rl_bo fi ca am q = some s ∧ rl_R mi rc sn s th ya ow dn ∧ ∀ j, bt (br q) j = true → bn j = 0
theorem rl_next {b i : Nat} (T : rl_tx tc fs ss pd) (htc : tc ≤ 16) (H : rl_G tc bc fs ss pd pa tl br fi ca am wk ins) (hb : b < bc) (hA : bt (br b) i = true) (hI : rl_I mi rc sn bn br fi ca am b i th ya ow dn) :
    ∃ s, rl_R mi rc sn s th ya ow dn ∧ rl_gd tc i s ∧ rl_io tc (ins (i * 2)) ∧ rl_io tc (ins (i * 2 + 1)) ∧ rl_bo fi ca am i = rl_st fs ss pd i (ins (i * 2)) (ins (i * 2 + 1)) s ∧ ∀ j, bt (br i) j = true → j ≠ i → bn j = 0 := by
  have hib := rl_an_le H.1 b hb i hA
  rcases hI with ⟨e, R⟩ | ⟨q, s, hQ, hs, R, hn⟩
  · subst e
    refine ⟨_, R, rl_gd_0 tc, Or.inl H.2.2.1.1, Or.inl H.2.2.1.2.1, ?_, fun j hj hne => absurd ((rl_an_0 H.1 j).mp hj) hne⟩
    rw [H.2.2.1.2.2]
    show _ = rl_st fs ss pd 0 (ins 0) (ins 1) (fun _ => 0, 0)
    rw [H.2.2.1.1, H.2.2.1.2.1]
    exact (rl_st_y (b := 0) (s := (fun _ => 0, 0)) (rl_cy_m fs ss pd _) (rl_cy_m fs ss pd _)).symm
  · have hq := hQ.1
    have e := rl_Q_par H.1 hb (by omega) hA hQ
    obtain ⟨_, h1, h2, h3⟩ := H.2.2.2 i (by omega) (by omega)
    rw [e, hs] at h3
    refine ⟨s, R, rl_gd_m (rl_gd_bo T htc H q (by omega) s hs) (by omega), h1, h2, h3, fun j hj hne => ?_⟩
    rcases (rl_an_s H.1 (by omega) (by omega) j).mp hj with z | z
    · rw [e] at z
      exact hn j z
    · exact absurd z hne
theorem ry_rep_loop {post : Int32 → SY → Prop} {b : Nat} (T : rl_tx tc fs ss pd) (htc : tc ≤ 16) (hbc : bc ≤ 21) (H : rl_G tc bc fs ss pd pa tl br fi ca am wk ins) (hb : b < bc)
    (h1 : rl_V bn br fi b → ∀ th ya ow dn : Nat → Int32, rl_R mi rc sn (rl_row am b, ca b) th ya ow dn → post 1 (nI tc, nI bc, nI tip, fs, ss, pd, sn, rc, pa, mi, wk, ins, bn, th, ya, ow, dn))
    (h0 : ¬ rl_V bn br fi b → ∀ th ya ow dn : Nat → Int32, post 0 (nI tc, nI bc, nI tip, fs, ss, pd, sn, rc, pa, mi, wk, ins, bn, th, ya, ow, dn)) :
    ∀ (m i n : Nat) (th ya ow dn : Nat → Int32), i + m = b + 1 → m < n → rl_I mi rc sn bn br fi ca am b i th ya ow dn → wY_replay_44 post (nI b) n (nI i) (nI tc) (nI bc) (nI tip) fs ss pd sn rc pa mi wk ins bn th ya ow dn := by
  intro m
  induction m with
  | zero =>
    intro i n th ya ow dn him hn hI
    obtain ⟨n, rfl⟩ : ∃ n', n = n' + 1 := ⟨n - 1, by omega⟩
    have hi : i = b + 1 := by omega
    subst hi
    rcases hI with ⟨h, _⟩ | ⟨q, s, hQ, hs, R, hban⟩
    · omega
    · have e := rl_Q_e H.1 hb hQ
      rw [e] at hs hban
      obtain ⟨hf, e2⟩ := rl_bo_i hs
      rw [e2] at R
      exact br_t (nI_lt (by omega) (by omega)) (h1 ⟨hf, hban⟩ th ya ow dn R)
  | succ m ih =>
    intro i n th ya ow dn him hn hI
    obtain ⟨n, rfl⟩ : ∃ n', n = n' + 1 := ⟨n - 1, by omega⟩
    have hi : vp_in (nI i) 21 := vp_in_nI (by omega) (by decide)
    refine br_f (nI_nlt (by omega) (by omega)) (ry_ob hbc H.1 (by omega) hb (fun hA => br_f (by decide) ?_) (fun hA => br_t rfl ?_))
    · have hno : rl_bo fi ca am i = none → ¬ rl_V bn br fi b := fun z v => v.1 (rl_bo_n.mp (rl_bo_up H b hb i hA z))
      obtain ⟨s, R, g, io1, io2, hst, hban⟩ := rl_next T htc H hb hA hI
      rw [nI_clamp (n := i) (by omega), show nI i * 2 = nI (i * 2) from pk_mul i 2, nI_1 (i * 2), nI_clamp (n := i * 2) (by omega), nI_clamp (n := i * 2 + 1) (by omega), show (32 : Int32) + nI i = nI (32 + i) from nI_add 32 i]
      refine ⟨hi, br_c (fun hbn => ⟨hi, ry_bring (by omega) ⟨vp_in_nI (by omega) (by decide), ?_⟩⟩) (fun hbn => h0 (fun v => hbn (v.2 i hA)) th ya ow dn)⟩
      have R0 : rl_R mi rc sn (upd s.1 (32 + i) 50, s.2) (upd th (32 + i) 1) (upd ya (32 + i) 50) (upd ow (32 + i) (mi i)) dn := rl_R_b R (by decide) (rl_ow_b mi rc sn i).symm
      refine ry_carry T htc io1 (rl_gd_b g) R0 (fun s1 c1 th ya ow dn R1 => br_f (by decide) ⟨vp_in_nI (by omega) (by decide), ?_⟩) (fun c1 th ya ow dn => br_t rfl (h0 (hno (by rw [hst]; exact rl_st_n1 c1)) th ya ow dn))
      refine ry_carry T htc io2 (rl_gd_cy T htc (rl_gd_b g) io1 c1) R1 (fun s2 c2 th ya ow dn R2 => br_f (by decide) ?_) (fun c2 th ya ow dn => br_t rfl (h0 (hno (by rw [hst]; exact rl_st_n2 c1 c2)) th ya ow dn))
      refine nm_r (nI_1 i) (ih (i + 1) n th ya ow dn (by omega) (by omega) (Or.inr ⟨i, s2, rl_Q_y hA, by rw [hst]; exact rl_st_y c1 c2, R2, fun j hj => ?_⟩))
      by_cases e : j = i
      · rw [e]
        exact hbn
      · exact hban j hj e
    · refine nm_r (nI_1 i) (ih (i + 1) n th ya ow dn (by omega) (by omega) ?_)
      rcases hI with ⟨e, _⟩ | ⟨q, s, hQ, hs, R, hban⟩
      · rw [e] at hA
        exact absurd (rl_an_z H.1 b hb) hA
      · exact Or.inr ⟨q, s, rl_Q_n hA hQ, hs, R, hban⟩
theorem ry_rep23 {post : Int32 → SY → Prop} {b : Nat} (hK : ∀ dn : Nat → Int32, (∀ t, t < 16 → dn t = 0) → ∃ n, wY_replay_44 post (nI b) n 0 (nI tc) (nI bc) (nI tip) fs ss pd sn rc pa mi wk ins bn th ya ow dn) : ∀ (m k n : Nat) (dn : Nat → Int32), k + m = 16 → m < n → (∀ t, t < k → dn t = 0) → wY_replay_23 post (nI b) (nI tc) (nI bc) (nI tip) n (nI k) fs ss pd sn rc pa mi wk ins bn th ya ow dn := by
  intro m
  induction m with
  | zero =>
    intro k n dn hk hn h
    obtain ⟨n, rfl⟩ : ∃ n', n = n' + 1 := ⟨n - 1, by omega⟩
    exact br_t (nI_le (a := 16) (by omega) (by omega)) (hK dn (fun t ht => h t (by omega)))
  | succ m ih =>
    intro k n dn hk hn h
    obtain ⟨n, rfl⟩ : ∃ n', n = n' + 1 := ⟨n - 1, by omega⟩
    refine br_f (nI_ge (b := 16) (by omega) (by decide)) ⟨vp_in_nI (by omega) (by decide), nm_r (e' := upd dn k 0) (by rw [nI_clamp (by omega), rl_n0]) (nm_r (nI_1 k) (ih (k + 1) n (upd dn k 0) (by omega) (by omega) (fun t ht => ?_)))⟩
    by_cases e : t = k
    · rw [e]
      exact pk_us
    · rw [pk_un e]
      exact h t (by omega)
theorem ry_rep2 {post : Int32 → SY → Prop} {b : Nat} (hK : ∀ th : Nat → Int32, (∀ c, c < 64 → th c = 0) → ∃ n, wY_replay_23 post (nI b) (nI tc) (nI bc) (nI tip) n 0 fs ss pd sn rc pa mi wk ins bn th ya ow dn) : ∀ (m k n : Nat) (th : Nat → Int32), k + m = 64 → m < n → (∀ t, t < k → th t = 0) → wY_replay_2 post (nI b) (nI tc) (nI bc) (nI tip) n (nI k) fs ss pd sn rc pa mi wk ins bn th ya ow dn := by
  intro m
  induction m with
  | zero =>
    intro k n th hk hn h
    obtain ⟨n, rfl⟩ : ∃ n', n = n' + 1 := ⟨n - 1, by omega⟩
    exact br_t (nI_le (a := 64) (by omega) (by omega)) (hK th (fun t ht => h t (by omega)))
  | succ m ih =>
    intro k n th hk hn h
    obtain ⟨n, rfl⟩ : ∃ n', n = n' + 1 := ⟨n - 1, by omega⟩
    refine br_f (nI_ge (b := 64) (by omega) (by decide)) ⟨vp_in_nI (by omega) (by decide), nm_r (e' := upd th k 0) (by rw [nI_clamp (by omega), rl_n0]) (nm_r (nI_1 k) (ih (k + 1) n (upd th k 0) (by omega) (by omega) (fun t ht => ?_)))⟩
    by_cases e : t = k
    · rw [e]
      exact pk_us
    · rw [pk_un e]
      exact h t (by omega)
theorem ry_replay {post : Int32 → SY → Prop} {b : Nat} (T : rl_tx tc fs ss pd) (htc : tc ≤ 16) (hbc : bc ≤ 21) (H : rl_G tc bc fs ss pd pa tl br fi ca am wk ins) (hb : b < bc)
    (h1 : rl_V bn br fi b → ∀ th ya ow dn : Nat → Int32, rl_R mi rc sn (rl_row am b, ca b) th ya ow dn → post 1 (nI tc, nI bc, nI tip, fs, ss, pd, sn, rc, pa, mi, wk, ins, bn, th, ya, ow, dn))
    (h0 : ¬ rl_V bn br fi b → ∀ th ya ow dn : Nat → Int32, post 0 (nI tc, nI bc, nI tip, fs, ss, pd, sn, rc, pa, mi, wk, ins, bn, th, ya, ow, dn)) : wpY_replay post (nI tc, nI bc, nI tip, fs, ss, pd, sn, rc, pa, mi, wk, ins, bn, th, ya, ow, dn) (nI b) :=
  ⟨65, ry_rep2 (fun th hth => ⟨17, ry_rep23 (fun dn hdn => ⟨b + 2, ry_rep_loop T htc hbc H hb h1 h0 (b + 1) 0 (b + 2) th ya ow dn (by omega) (by omega) (Or.inl ⟨rfl, rl_R_0 ya ow hth hdn⟩)⟩) 16 0 17 dn rfl (by omega) (fun t ht => absurd ht (Nat.not_lt_zero t))⟩) 64 0 65 th rfl (by omega) (fun t ht => absurd ht (Nat.not_lt_zero t))⟩
theorem ry_valid {post : Int32 → SY → Prop} {b : Nat} (T : rl_tx tc fs ss pd) (htc : tc ≤ 16) (hbc : bc ≤ 21) (H : rl_G tc bc fs ss pd pa tl br fi ca am wk ins) (hb : b < bc)
    (h1 : rl_V bn br fi b → ∀ th ya ow dn : Nat → Int32, post 1 (nI tc, nI bc, nI tip, fs, ss, pd, sn, rc, pa, mi, wk, ins, bn, th, ya, ow, dn))
    (h0 : ¬ rl_V bn br fi b → ∀ th ya ow dn : Nat → Int32, post 0 (nI tc, nI bc, nI tip, fs, ss, pd, sn, rc, pa, mi, wk, ins, bn, th, ya, ow, dn)) : wpY_valid post (nI tc, nI bc, nI tip, fs, ss, pd, sn, rc, pa, mi, wk, ins, bn, th, ya, ow, dn) (nI b) := by
  unfold wpY_valid
  refine ry_isBlock_y hbc hb (br_f (by decide) (ry_replay T htc hbc H hb (fun hV th ya ow dn _ => ?_) (fun hV th ya ow dn => ?_)))
  · exact br_f (by decide) (h1 hV th ya ow dn)
  · exact br_t rfl (h0 hV th ya ow dn)
theorem ry_total_loop {post : Int32 → Prop} {b : Nat} (hbc : bc ≤ 21) (H : rl_G tc bc fs ss pd pa tl br fi ca am wk ins) (hb : b < bc) (h : post (tl b)) :
    ∀ (m i n : Nat) (x : Int32), i + m = b + 1 → m < n → ((i = 0 ∧ x = 0) ∨ ∃ q, rl_Q br b i q ∧ x = tl q) → wY_total_15 post (nI b) (nI tc) (nI bc) (nI tip) fs ss pd sn rc pa mi wk ins bn th ya ow dn n x (nI i) := by
  intro m
  induction m with
  | zero =>
    intro i n x him hn hI
    obtain ⟨n, rfl⟩ : ∃ n', n = n' + 1 := ⟨n - 1, by omega⟩
    have hi : i = b + 1 := by omega
    subst hi
    rcases hI with ⟨z, _⟩ | ⟨q, hQ, e⟩
    · omega
    · rw [rl_Q_e H.1 hb hQ] at e
      rw [e]
      exact br_t (nI_lt (by omega) (by omega)) h
  | succ m ih =>
    intro i n x him hn hI
    obtain ⟨n, rfl⟩ : ∃ n', n = n' + 1 := ⟨n - 1, by omega⟩
    refine br_f (nI_nlt (by omega) (by omega)) (ry_ob hbc H.1 (by omega) hb (fun hA => br_f (by decide) ⟨vp_in_nI (by omega) (by decide), ?_⟩) (fun hA => br_t rfl ?_))
    · have e : x + wk i = tl i := by
        rcases hI with ⟨z, e⟩ | ⟨q, hQ, e⟩
        · rw [z, e, H.2.1.1, H.2.1.2]
          rfl
        · have hq := hQ.1
          have hib := rl_an_le H.1 b hb i hA
          rw [(H.2.2.2 i (by omega) (by omega)).1, rl_Q_par H.1 hb (by omega) hA hQ, e]
      exact nm_r (e' := tl i) (by rw [nI_clamp (by omega), e]) (nm_r (nI_1 i) (ih (i + 1) n (tl i) (by omega) (by omega) (Or.inr ⟨i, rl_Q_y hA, rfl⟩)))
    · refine nm_r (nI_1 i) (ih (i + 1) n x (by omega) (by omega) ?_)
      rcases hI with ⟨z, _⟩ | ⟨q, hQ, e⟩
      · rw [z] at hA
        exact absurd (rl_an_z H.1 b hb) hA
      · exact Or.inr ⟨q, rl_Q_n hA hQ, e⟩
theorem ry_total {post : Int32 → Prop} {b : Nat} (hbc : bc ≤ 21) (H : rl_G tc bc fs ss pd pa tl br fi ca am wk ins) (hb : b < bc) (h : post (tl b)) : wpY_total post (nI tc, nI bc, nI tip, fs, ss, pd, sn, rc, pa, mi, wk, ins, bn, th, ya, ow, dn) (nI b) := by
  unfold wpY_total
  exact ry_isBlock_y hbc hb (br_f (by decide) ⟨b + 2, ry_total_loop hbc H hb h (b + 1) 0 (b + 2) 0 (by omega) (by omega) (Or.inl ⟨rfl, rfl⟩)⟩)
theorem ry_choose_loop {post : SY → Prop} (T : rl_tx tc fs ss pd) (htc : tc ≤ 16) (hbc : bc ≤ 21) (H : rl_G tc bc fs ss pd pa tl br fi ca am wk ins) (S : rl_sd bc bn br fi st) (ht : tip < bc)
    (hp : ∀ th ya ow dn : Nat → Int32, post (nI tc, nI bc, nI (rl_tp st tl bc tip), fs, ss, pd, sn, rc, pa, mi, wk, ins, bn, th, ya, ow, dn)) :
    ∀ (m i n : Nat) (th ya ow dn : Nat → Int32), i + m = bc → m < n → wY_choose_6 post n (tl (rl_cb st tl i)) (nI (rl_cb st tl i)) (nI i) (nI tc) (nI bc) (nI tip) fs ss pd sn rc pa mi wk ins bn th ya ow dn := by
  intro m
  induction m with
  | zero =>
    intro i n th ya ow dn him hn
    obtain ⟨n, rfl⟩ : ∃ n', n = n' + 1 := ⟨n - 1, by omega⟩
    have hi : i = bc := by omega
    subst hi
    refine br_t (nI_le (by omega) (by omega)) (ry_valid T htc hbc H ht (fun hV th ya ow dn => br_f (by decide) (ry_total hbc H ht (br_c (fun w => ?_) (fun w => ?_)))) (fun hV th ya ow dn => br_t rfl ?_))
    · have e : rl_tp st tl i tip = tip := if_neg (fun z => z.elim ((rl_sd_V S ht).mpr hV) (fun z => absurd w (Int32.not_le.mpr z)))
      have h := hp th ya ow dn
      rw [e] at h
      exact h
    · have e : rl_tp st tl i tip = rl_cb st tl i := if_pos (Or.inr (Int32.not_le.mp w))
      have h := hp th ya ow dn
      rw [e] at h
      exact h
    · have e : rl_tp st tl i tip = rl_cb st tl i := if_pos (Or.inl (Classical.byContradiction fun z => hV ((rl_sd_V S ht).mp z)))
      have h := hp th ya ow dn
      rw [e] at h
      exact h
  | succ m ih =>
    intro i n th ya ow dn him hn
    obtain ⟨n, rfl⟩ : ∃ n', n = n' + 1 := ⟨n - 1, by omega⟩
    have hib : i < bc := by omega
    refine br_f (nI_ge (by omega) (by omega)) (ry_valid T htc hbc H hib (fun hV th ya ow dn => br_f (by decide) (ry_total hbc H hib (br_c (fun w => nm_r (nI_1 i) ?_) (fun w => ry_total hbc H hib (nm_r (nI_1 i) ?_))))) (fun hV th ya ow dn => br_t rfl (nm_r (nI_1 i) ?_)))
    · have h := ih (i + 1) n th ya ow dn (by omega) (by omega)
      rw [rl_cb_n2 (Int32.not_lt.mpr w)] at h
      exact h
    · have h := ih (i + 1) n th ya ow dn (by omega) (by omega)
      rw [rl_cb_y ((rl_sd_V S hib).mpr hV) (Int32.not_le.mp w)] at h
      exact h
    · have h := ih (i + 1) n th ya ow dn (by omega) (by omega)
      rw [rl_cb_n1 (Classical.byContradiction fun z => hV ((rl_sd_V S hib).mp z))] at h
      exact h
theorem ry_choose {post : SY → Prop} (T : rl_tx tc fs ss pd) (htc : tc ≤ 16) (hbc : bc ≤ 21) (H : rl_G tc bc fs ss pd pa tl br fi ca am wk ins) (S : rl_sd bc bn br fi st) (ht : tip < bc)
    (hp : ∀ th ya ow dn : Nat → Int32, post (nI tc, nI bc, nI (rl_tp st tl bc tip), fs, ss, pd, sn, rc, pa, mi, wk, ins, bn, th, ya, ow, dn)) : wpY_choose post (nI tc, nI bc, nI tip, fs, ss, pd, sn, rc, pa, mi, wk, ins, bn, th, ya, ow, dn) := by
  have h := ry_choose_loop T htc hbc H S ht hp bc 0 (bc + 1) th ya ow dn (by omega) (by omega)
  rw [show tl (rl_cb st tl 0) = 0 from H.2.1.1] at h
  exact ⟨bc + 1, h⟩
