/-! the reference's walks: isBlock, onBranch, bring, spends, fitsNow, carryOut -/
variable {tc bc tip : Nat} {fs ss pd sn rc pa mi tl bn st br ca fi am wk ins th ya ow dn : Nat → Int32}
theorem rl_n1 : vp_nar .boolean 1 = 1 := rfl
theorem rl_n0 : vp_nar .boolean 0 = 0 := rfl
theorem ry_isBlock_y {post : Int32 → Prop} {b : Nat} (hbc : bc ≤ 21) (hb : b < bc) (h : post 1) : wpY_isBlock post (nI tc, nI bc, nI tip, fs, ss, pd, sn, rc, pa, mi, wk, ins, bn, th, ya, ow, dn) (nI b) :=
  br_f (nI_pos (by omega)) (br_f (nI_ge hb (by omega)) h)
theorem ry_isBlock_n {post : Int32 → Prop} {x : Int32} (hx : x < 0 ∨ nI bc ≤ x) (h : post 0) : wpY_isBlock post (nI tc, nI bc, nI tip, fs, ss, pd, sn, rc, pa, mi, wk, ins, bn, th, ya, ow, dn) x := by
  by_cases h0 : x < 0
  · exact br_t h0 h
  · exact br_f h0 (br_t (hx.resolve_left h0) h)
theorem ry_ob_loop {post : Int32 → Prop} {j : Nat} (hbc : bc ≤ 21) (H : rl_A bc pa br) (hj : j < 2 ^ 31) : ∀ (m k a n : Nat), k + m = 21 → m < n → a < bc → (a < m ∨ (a = 0 ∧ j ≠ 0)) → (bt (br a) j = true → post 1) → (¬ bt (br a) j = true → post 0) → wY_onBranch_5 post (nI j) (nI tc) (nI bc) (nI tip) fs ss pd sn rc pa mi wk ins bn th ya ow dn n (nI a) (nI k) := by
  intro m
  induction m with
  | zero =>
    intro k a n hk hn ha hm h1 h0
    obtain ⟨n, rfl⟩ : ∃ n', n = n' + 1 := ⟨n - 1, by omega⟩
    have e : a = 0 ∧ j ≠ 0 := by omega
    refine br_t (nI_le (a := 21) (by omega) (by omega)) (h0 fun z => ?_)
    rw [e.1] at z
    exact e.2 ((rl_an_0 H j).mp z)
  | succ m ih =>
    intro k a n hk hn ha hm h1 h0
    obtain ⟨n, rfl⟩ : ∃ n', n = n' + 1 := ⟨n - 1, by omega⟩
    refine br_f (nI_ge (b := 21) (by omega) (by decide)) ?_
    by_cases e : a = j
    · subst e
      exact br_t rfl (h1 (rl_an_self H ha))
    · refine br_f (fun z => e ((nI_eq (by omega) hj).mp z)) ⟨vp_in_nI (by omega) (by decide), ?_⟩
      rw [nI_clamp (by omega)]
      by_cases h : a = 0
      · subst h
        refine nm_r (e' := nI 0) H.1 (nm_r (nI_1 k) (ih (k + 1) 0 n (by omega) (by omega) ha (Or.inr ⟨rfl, fun z => e z.symm⟩) h1 h0))
      · have hh := H.2.2 a (by omega) ha
        have hs := rl_an_s H (by omega) ha j
        refine nm_r hh.2.1 (nm_r (nI_1 k) (ih (k + 1) (rl_pp pa a) n (by omega) (by omega) (by omega) (Or.inl (by omega)) (fun z => h1 (hs.mpr (Or.inl z))) (fun z => h0 fun w => ?_)))
        rcases hs.mp w with w | w
        · exact z w
        · exact e w.symm
theorem ry_ob {post : Int32 → Prop} {j b : Nat} (hbc : bc ≤ 21) (H : rl_A bc pa br) (hj : j < 2 ^ 31) (hb : b < bc) (h1 : bt (br b) j = true → post 1) (h0 : ¬ bt (br b) j = true → post 0) : wpY_onBranch post (nI tc, nI bc, nI tip, fs, ss, pd, sn, rc, pa, mi, wk, ins, bn, th, ya, ow, dn) (nI j) (nI b) :=
  ⟨22, ry_ob_loop hbc H hj 21 0 b 22 rfl (by omega) hb (Or.inl (by omega)) h1 h0⟩
theorem ry_bring {post : SY → Prop} {c : Nat} {v o : Int32} (hc : c < 64) (h : post (nI tc, nI bc, nI tip, fs, ss, pd, sn, rc, pa, mi, wk, ins, bn, upd th c 1, upd ya c v, upd ow c o, dn)) : wpY_bring post (nI tc, nI bc, nI tip, fs, ss, pd, sn, rc, pa, mi, wk, ins, bn, th, ya, ow, dn) (nI c) v o := by
  have hi : vp_in (nI c) 64 := vp_in_nI hc (by decide)
  unfold wpY_bring
  dsimp only
  rw [nI_clamp (by omega)]
  exact ⟨hi, nm_r (congrArg (upd th c) rl_n1) ⟨hi, nm_e ⟨hi, nm_e h⟩⟩⟩
theorem ry_spendsA {post : Int32 → Prop} {t x : Nat} (ht : t < 16) (hx : x < 64) (e1 : fs t = nI x) (e2 : ss t = -1) (h : post (ya x)) : wpY_spends post (nI tc, nI bc, nI tip, fs, ss, pd, sn, rc, pa, mi, wk, ins, bn, th, ya, ow, dn) (nI t) := by
  have hi : vp_in (nI t) 16 := vp_in_nI ht (by decide)
  unfold wpY_spends
  dsimp only
  rw [nI_clamp (by omega), e1, e2, nI_clamp (by omega)]
  exact ⟨hi, vp_in_nI hx (by decide), nm_e ⟨hi, br_t (by decide) h⟩⟩
theorem ry_spendsB {post : Int32 → Prop} {t x y : Nat} (ht : t < 16) (hx : x < 64) (hy : y < 64) (e1 : fs t = nI x) (e2 : ss t = nI y) (h : post (ya x + ya y)) : wpY_spends post (nI tc, nI bc, nI tip, fs, ss, pd, sn, rc, pa, mi, wk, ins, bn, th, ya, ow, dn) (nI t) := by
  have hi : vp_in (nI t) 16 := vp_in_nI ht (by decide)
  unfold wpY_spends
  dsimp only
  rw [nI_clamp (by omega), e1, e2, nI_clamp (by omega), nI_clamp (by omega)]
  exact ⟨hi, vp_in_nI hx (by decide), nm_e ⟨hi, br_f (nI_pos (by omega)) ⟨hi, vp_in_nI hy (by decide), nm_e h⟩⟩⟩
theorem ry_fitJ {post : Int32 → Prop} {t : Nat} {e : Int32} (ht : t < 16) (hs : ∀ p : Int32 → Prop, p e → wpY_spends p (nI tc, nI bc, nI tip, fs, ss, pd, sn, rc, pa, mi, wk, ins, bn, th, ya, ow, dn) (nI t)) (h1 : pd t ≤ e → post 1) (h0 : ¬ pd t ≤ e → post 0) : wY_fitsNow_65 post (nI t) (nI tc) (nI bc) (nI tip) fs ss pd sn rc pa mi wk ins bn th ya ow dn := by
  have hi : vp_in (nI t) 16 := vp_in_nI ht (by decide)
  unfold wY_fitsNow_65
  rw [nI_clamp (by omega)]
  exact hs _ ⟨hi, br_c (fun w => h0 (Int32.not_le.mpr w)) (fun w => h1 (Int32.not_lt.mp w))⟩
theorem ry_fits {post : Int32 → Prop} {t : Nat} {s : rl_S} (T : rl_tx tc fs ss pd) (htc : tc ≤ 16) (ht : t < tc) (R : rl_R mi rc sn s th ya ow dn) (h1 : rl_fit fs ss pd s t → post 1) (h0 : ¬ rl_fit fs ss pd s t → post 0) : wpY_fitsNow post (nI tc, nI bc, nI tip, fs, ss, pd, sn, rc, pa, mi, wk, ins, bn, th, ya, ow, dn) (nI t) := by
  have hi : vp_in (nI t) 16 := vp_in_nI (by omega) (by decide)
  obtain ⟨⟨x, hx, e1⟩, hy, -⟩ := T t ht
  have hix : vp_in (nI x) 64 := vp_in_nI hx (by decide)
  rcases hy with e2 | ⟨y, hy, e2⟩
  · have F := rl_fA T htc ht R hx e1 e2
    unfold wpY_fitsNow
    dsimp only
    rw [nI_clamp (by omega), e1, e2, nI_clamp (by omega)]
    exact ⟨hi, br_c (fun hd => ⟨hi, hix, br_c (fun z => h0 fun w => (F.mp w).2.1 z) (fun hth => ⟨hi, hi, br_f (rl_nm1 (by omega)) ⟨hi, br_t (by decide) (ry_fitJ (by omega) (fun p hp => ry_spendsA (by omega) hx e1 e2 hp) (fun w => h1 (F.mpr ⟨hd, hth, w⟩)) (fun w => h0 fun v => w (F.mp v).2.2))⟩⟩)⟩) (fun hd => h0 fun w => hd (F.mp w).1)⟩
  · have F := rl_fB T htc ht R hx hy e1 e2
    have hiy : vp_in (nI y) 64 := vp_in_nI hy (by decide)
    unfold wpY_fitsNow
    dsimp only
    rw [nI_clamp (by omega), e1, e2, nI_clamp (by omega), nI_clamp (by omega)]
    refine ⟨hi, br_c (fun hd => ⟨hi, hix, br_c (fun z => h0 fun w => (F.mp w).2.1 z) (fun hth => ⟨hi, hi, br_c (fun z => h0 fun w => (F.mp w).2.2.1 ((nI_eq (by omega) (by omega)).mp z)) (fun z => ⟨hi, br_f (nI_pos (by omega)) ⟨hi, hiy, br_c (fun w => h0 fun v => (F.mp v).2.2.2.1 w) (fun w => ?_)⟩⟩)⟩)⟩) (fun hd => h0 fun w => hd (F.mp w).1)⟩
    have z1 : ¬ x = y := fun q => z (congrArg nI q)
    exact ry_fitJ (by omega) (fun p hp => ry_spendsB (by omega) hx hy e1 e2 hp) (fun v => h1 (F.mpr ⟨hd, hth, z1, w, v⟩)) (fun v => h0 fun q => v (F.mp q).2.2.2.2)
theorem ry_co62 {post : Int32 → SY → Prop} {t : Nat} {e : Int32} (ht : t < 16)
    (h1 : 0 < e → post 1 (nI tc, nI bc, nI tip, fs, ss, pd, sn, rc, pa, mi, wk, ins, bn, upd (upd th (2 * t) 1) (2 * t + 1) 1, upd (upd ya (2 * t) (pd t)) (2 * t + 1) e, upd (upd ow (2 * t) (rc t)) (2 * t + 1) (sn t), upd dn t 1))
    (h0 : ¬ 0 < e → post 1 (nI tc, nI bc, nI tip, fs, ss, pd, sn, rc, pa, mi, wk, ins, bn, upd th (2 * t) 1, upd ya (2 * t) (pd t), upd ow (2 * t) (rc t), upd dn t 1)) : wY_carryOut_62 post (nI t) e (nI tc) (nI bc) (nI tip) fs ss pd sn rc pa mi wk ins bn th ya ow dn := by
  have hi : vp_in (nI t) 16 := vp_in_nI ht (by decide)
  unfold wY_carryOut_62
  rw [nI_clamp (by omega), show (2 : Int32) * nI t = nI (2 * t) from pk_mul 2 t, nI_1 (2 * t)]
  refine ⟨hi, hi, ry_bring (by omega) ?_⟩
  refine br_c (fun w => ?_) (fun w => ?_)
  · exact ⟨hi, nm_r (congrArg (upd dn t) rl_n1) (h0 (Int32.not_lt.mpr w))⟩
  · exact ⟨hi, ry_bring (by omega) ⟨hi, nm_r (congrArg (upd dn t) rl_n1) (h1 (Int32.not_le.mp w))⟩⟩
theorem ry_carry {post : Int32 → SY → Prop} {i : Int32} {m : Nat} {s : rl_S} (T : rl_tx tc fs ss pd) (htc : tc ≤ 16) (hi : rl_io tc i) (g : rl_gd tc m s) (R : rl_R mi rc sn s th ya ow dn)
    (h1 : ∀ s', rl_cy fs ss pd s i = some s' → ∀ th ya ow dn : Nat → Int32, rl_R mi rc sn s' th ya ow dn → post 1 (nI tc, nI bc, nI tip, fs, ss, pd, sn, rc, pa, mi, wk, ins, bn, th, ya, ow, dn))
    (h0 : rl_cy fs ss pd s i = none → ∀ th ya ow dn : Nat → Int32, post 0 (nI tc, nI bc, nI tip, fs, ss, pd, sn, rc, pa, mi, wk, ins, bn, th, ya, ow, dn)) : wpY_carryOut post (nI tc, nI bc, nI tip, fs, ss, pd, sn, rc, pa, mi, wk, ins, bn, th, ya, ow, dn) i := by
  rcases hi with e | ⟨t, ht, e⟩
  · subst e
    exact br_f (by decide) (h1 s (rl_cy_m _ _ _ _) th ya ow dn R)
  · subst e
    have hi : vp_in (nI t) 16 := vp_in_nI (by omega) (by decide)
    obtain ⟨⟨x, hx, e1⟩, hy, -⟩ := T t ht
    have hpd := rl_pd T ht
    have hix : vp_in (nI x) 64 := vp_in_nI hx (by decide)
    unfold wpY_carryOut
    dsimp only
    rw [nI_clamp (by omega), e1, nI_clamp (by omega)]
    refine br_t (nI_pos' (by omega)) (ry_fits T htc ht R (fun hf => br_f (by decide) ?_) (fun hf => br_t rfl (h0 (rl_cy_n (by omega) hf) th ya ow dn)))
    have hs := h1 _ (rl_cy_t (by omega) hf)
    rcases hy with e2 | ⟨y, hy, e2⟩
    · have F := (rl_fA T htc ht R hx e1 e2).mp hf
      have es := rl_fA_s R hx e1 e2 F.2.1
      have R1 : rl_R mi rc sn (rl_cl fs ss s.1 t, s.2) (upd th x 0) ya ow dn := by
        rw [rl_cl1 hx e1 e2]
        exact rl_R_d R x
      refine ry_spendsA (by omega) hx e1 e2 ⟨hi, nm_e ⟨hi, hix, nm_r (congrArg (upd th x) rl_n0) ⟨hi, ?_⟩⟩⟩
      rw [e2]
      exact br_t (by decide) (ry_co62 (by omega) (fun w => hs _ _ _ _ (rl_R_p1 hpd.2.2 (by omega) R1 (by rw [es]) w)) (fun w => hs _ _ _ _ (rl_R_p2 T g hf ht (by omega) R1 (by rw [es]) w)))
    · have F := (rl_fB T htc ht R hx hy e1 e2).mp hf
      have es := rl_fB_s R hx hy e1 e2 F.2.1 F.2.2.1 F.2.2.2.1
      have hiy : vp_in (nI y) 64 := vp_in_nI hy (by decide)
      have R1 : rl_R mi rc sn (rl_cl fs ss s.1 t, s.2) (upd (upd th x 0) y 0) ya ow dn := by
        rw [rl_cl2 hx hy e1 e2]
        exact rl_R_d (rl_R_d R x) y
      refine ry_spendsB (by omega) hx hy e1 e2 ⟨hi, nm_e ⟨hi, hix, nm_r (congrArg (upd th x) rl_n0) ⟨hi, ?_⟩⟩⟩
      rw [e2, nI_clamp (by omega)]
      exact br_f (nI_pos (by omega)) ⟨hi, hiy, nm_r (congrArg (upd (upd th x 0) y) rl_n0) (ry_co62 (by omega) (fun w => hs _ _ _ _ (rl_R_p1 hpd.2.2 (by omega) R1 (by rw [es]) w)) (fun w => hs _ _ _ _ (rl_R_p2 T g hf ht (by omega) R1 (by rw [es]) w)))⟩
