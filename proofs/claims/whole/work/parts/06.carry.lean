/-! the reference's test and its carrying out, against the pure step -/
theorem rl_fA {tc t x : Nat} {fs ss pd mi rc sn th ya ow dn : Nat → Int32} {s : rl_S} (T : rl_tx tc fs ss pd) (htc : tc ≤ 16) (ht : t < tc) (R : rl_R mi rc sn s th ya ow dn) (hx : x < 64) (e1 : fs t = nI x) (e2 : ss t = -1) : rl_fit fs ss pd s t ↔ (dn t = 0 ∧ ¬ th x = 0 ∧ pd t ≤ ya x) := by
  have es : rl_sp fs ss s.1 t = s.1 x := rl_sp1 hx e1 e2
  constructor
  · intro h
    have h2 := h.2
    rw [es] at h2
    have hz : s.1 x ≠ 0 := fun z => by
      rw [z] at h2
      exact (rl_pd T ht).2.1 h2
    refine ⟨(R.2.2.1 t (by omega)).mpr h.1, fun z => hz ((R.1 x hx).mp z), ?_⟩
    rw [(R.2.1 x hx hz).1]
    exact h2
  · intro h
    have hz : s.1 x ≠ 0 := fun z => h.2.1 ((R.1 x hx).mpr z)
    have h3 := h.2.2
    rw [(R.2.1 x hx hz).1] at h3
    refine ⟨(R.2.2.1 t (by omega)).mp h.1, ?_⟩
    rw [es]
    exact h3
theorem rl_fA_s {t x : Nat} {fs ss mi rc sn th ya ow dn : Nat → Int32} {s : rl_S} (R : rl_R mi rc sn s th ya ow dn) (hx : x < 64) (e1 : fs t = nI x) (e2 : ss t = -1) (h : ¬ th x = 0) : rl_sp fs ss s.1 t = ya x := by
  have hz : s.1 x ≠ 0 := fun z => h ((R.1 x hx).mpr z)
  rw [rl_sp1 hx e1 e2, (R.2.1 x hx hz).1]
theorem rl_fB {tc t x y : Nat} {fs ss pd mi rc sn th ya ow dn : Nat → Int32} {s : rl_S} (T : rl_tx tc fs ss pd) (htc : tc ≤ 16) (ht : t < tc) (R : rl_R mi rc sn s th ya ow dn) (hx : x < 64) (hy : y < 64) (e1 : fs t = nI x) (e2 : ss t = nI y) : rl_fit fs ss pd s t ↔ (dn t = 0 ∧ ¬ th x = 0 ∧ ¬ x = y ∧ ¬ th y = 0 ∧ pd t ≤ ya x + ya y) := by
  constructor
  · intro h
    have hh : ∀ z : x = y ∨ s.1 x = 0 ∨ s.1 y = 0, False := fun z => by
      have h2 := h.2
      rw [rl_sp0 hx hy e1 e2 z] at h2
      exact (rl_pd T ht).2.1 h2
    have h1 : ¬ x = y := fun z => hh (Or.inl z)
    have h2 : s.1 x ≠ 0 := fun z => hh (Or.inr (Or.inl z))
    have h3 : s.1 y ≠ 0 := fun z => hh (Or.inr (Or.inr z))
    have h4 := h.2
    rw [rl_sp2 hx hy e1 e2 h1 h2 h3] at h4
    refine ⟨(R.2.2.1 t (by omega)).mpr h.1, fun z => h2 ((R.1 x hx).mp z), h1, fun z => h3 ((R.1 y hy).mp z), ?_⟩
    rw [(R.2.1 x hx h2).1, (R.2.1 y hy h3).1]
    exact h4
  · intro h
    have h2 : s.1 x ≠ 0 := fun z => h.2.1 ((R.1 x hx).mpr z)
    have h3 : s.1 y ≠ 0 := fun z => h.2.2.2.1 ((R.1 y hy).mpr z)
    have h4 := h.2.2.2.2
    rw [(R.2.1 x hx h2).1, (R.2.1 y hy h3).1] at h4
    refine ⟨(R.2.2.1 t (by omega)).mp h.1, ?_⟩
    rw [rl_sp2 hx hy e1 e2 h.2.2.1 h2 h3]
    exact h4
theorem rl_fB_s {t x y : Nat} {fs ss mi rc sn th ya ow dn : Nat → Int32} {s : rl_S} (R : rl_R mi rc sn s th ya ow dn) (hx : x < 64) (hy : y < 64) (e1 : fs t = nI x) (e2 : ss t = nI y) (h : ¬ th x = 0) (h1 : ¬ x = y) (h' : ¬ th y = 0) : rl_sp fs ss s.1 t = ya x + ya y := by
  have h2 : s.1 x ≠ 0 := fun z => h ((R.1 x hx).mpr z)
  have h3 : s.1 y ≠ 0 := fun z => h' ((R.1 y hy).mpr z)
  rw [rl_sp2 hx hy e1 e2 h1 h2 h3, (R.2.1 x hx h2).1, (R.2.1 y hy h3).1]
theorem rl_R_p1 {t : Nat} {fs ss pd mi rc sn th ya ow dn : Nat → Int32} {s : rl_S} {e : Int32} (hp : pd t ≠ 0) (ht : t < 16) (R : rl_R mi rc sn (rl_cl fs ss s.1 t, s.2) th ya ow dn) (he : e = rl_sp fs ss s.1 t - pd t) (h : 0 < e) : rl_R mi rc sn (rl_put fs ss pd s t) (upd (upd th (2 * t) 1) (2 * t + 1) 1) (upd (upd ya (2 * t) (pd t)) (2 * t + 1) e) (upd (upd ow (2 * t) (rc t)) (2 * t + 1) (sn t)) (upd dn t 1) := by
  have h0 : e ≠ 0 := fun z => by
    rw [z] at h
    exact absurd h (by decide)
  subst he
  exact rl_R_t (rl_R_b (rl_R_b R hp (rl_ow_e mi rc sn ht).symm) h0 (rl_ow_o mi rc sn ht).symm) ht
theorem rl_R_p2 {tc m t : Nat} {fs ss pd mi rc sn th ya ow dn : Nat → Int32} {s : rl_S} {e : Int32} (T : rl_tx tc fs ss pd) (g : rl_gd tc m s) (hf : rl_fit fs ss pd s t) (htt : t < tc) (ht : t < 16) (R : rl_R mi rc sn (rl_cl fs ss s.1 t, s.2) th ya ow dn) (he : e = rl_sp fs ss s.1 t - pd t) (h : ¬ 0 < e) : rl_R mi rc sn (rl_put fs ss pd s t) (upd th (2 * t) 1) (upd ya (2 * t) (pd t)) (upd ow (2 * t) (rc t)) (upd dn t 1) := by
  have hpd := rl_pd T htt
  have h0 : rl_sp fs ss s.1 t - pd t = 0 := by
    rw [← he]
    exact Int32.le_antisymm (Int32.not_lt.mp h) (by rw [he]; exact rl_sub0 hf.2 hpd.1)
  have hz : s.1 (2 * t + 1) = 0 := Classical.byContradiction fun z => by
    have h2 := g.2.1 (2 * t + 1) (by omega) z
    rw [show (2 * t + 1) / 2 = t from by omega, hf.1] at h2
    cases h2
  have hc : rl_cl fs ss s.1 t (2 * t + 1) = 0 := by
    rcases rl_cl_or fs ss s.1 t (2 * t + 1) with z | z
    · exact z
    · rw [z, hz]
  have e3 : rl_put fs ss pd s t = (upd (rl_cl fs ss s.1 t) (2 * t) (pd t), s.2 ||| ((1 : Int32) <<< (nI t &&& 31))) := by
    unfold rl_put
    rw [h0, rl_uz]
    rw [pk_un (by omega), hc]
  rw [e3]
  exact rl_R_t (rl_R_b R hpd.2.2 (rl_ow_e mi rc sn ht).symm) ht
