/-! the tree of blocks: branch bits, the last block of a branch below i -/
def rl_pp (pa : Nat → Int32) (b : Nat) : Nat := (pa b).toNatClampNeg
def rl_A (bc : Nat) (pa br : Nat → Int32) : Prop :=
  pa 0 = 0 ∧ (∀ j, bt (br 0) j = decide (j = 0)) ∧
  ∀ b, 0 < b → b < bc → rl_pp pa b < b ∧ pa b = nI (rl_pp pa b) ∧ ∀ j, bt (br b) j = (bt (br (rl_pp pa b)) j || decide (j = b))
theorem rl_an_0 {bc : Nat} {pa br : Nat → Int32} (H : rl_A bc pa br) (j : Nat) : bt (br 0) j = true ↔ j = 0 := by
  rw [H.2.1 j, decide_eq_true_eq]
theorem rl_an_s {bc : Nat} {pa br : Nat → Int32} (H : rl_A bc pa br) {b : Nat} (h0 : 0 < b) (hb : b < bc) (j : Nat) : bt (br b) j = true ↔ bt (br (rl_pp pa b)) j = true ∨ j = b := by
  rw [(H.2.2 b h0 hb).2.2 j, Bool.or_eq_true, decide_eq_true_eq]
theorem rl_an_le {bc : Nat} {pa br : Nat → Int32} (H : rl_A bc pa br) : ∀ b, b < bc → ∀ j, bt (br b) j = true → j ≤ b := by
  intro b
  induction b using Nat.strongRecOn with
  | _ b ih =>
    intro hb j hj
    by_cases h0 : b = 0
    · subst h0
      have := (rl_an_0 H j).mp hj
      omega
    · have hp := (H.2.2 b (by omega) hb).1
      rcases (rl_an_s H (by omega) hb j).mp hj with h | h
      · have := ih (rl_pp pa b) hp (by omega) j h
        omega
      · omega
theorem rl_an_self {bc : Nat} {pa br : Nat → Int32} (H : rl_A bc pa br) {b : Nat} (hb : b < bc) : bt (br b) b = true := by
  by_cases h0 : b = 0
  · subst h0
    exact (rl_an_0 H 0).mpr rfl
  · exact (rl_an_s H (by omega) hb b).mpr (Or.inr rfl)
theorem rl_an_z {bc : Nat} {pa br : Nat → Int32} (H : rl_A bc pa br) : ∀ b, b < bc → bt (br b) 0 = true := by
  intro b
  induction b using Nat.strongRecOn with
  | _ b ih =>
    intro hb
    by_cases h0 : b = 0
    · subst h0
      exact (rl_an_0 H 0).mpr rfl
    · have hp := (H.2.2 b (by omega) hb).1
      exact (rl_an_s H (by omega) hb 0).mpr (Or.inl (ih (rl_pp pa b) hp (by omega)))
theorem rl_an_lin {bc : Nat} {pa br : Nat → Int32} (H : rl_A bc pa br) : ∀ b, b < bc → ∀ j k, bt (br b) j = true → bt (br b) k = true → j ≤ k → bt (br k) j = true := by
  intro b
  induction b using Nat.strongRecOn with
  | _ b ih =>
    intro hb j k hj hk hjk
    by_cases h0 : b = 0
    · subst h0
      have e := (rl_an_0 H k).mp hk
      subst e
      exact hj
    · have hp := (H.2.2 b (by omega) hb).1
      rcases (rl_an_s H (by omega) hb k).mp hk with h | h
      · have hkp := rl_an_le H (rl_pp pa b) (by omega) k h
        rcases (rl_an_s H (by omega) hb j).mp hj with h2 | h2
        · exact ih (rl_pp pa b) hp (by omega) j k h2 h hjk
        · omega
      · subst h
        exact hj
theorem rl_an_tr {bc : Nat} {pa br : Nat → Int32} (H : rl_A bc pa br) : ∀ b, b < bc → ∀ i j, bt (br b) i = true → bt (br i) j = true → bt (br b) j = true := by
  intro b
  induction b using Nat.strongRecOn with
  | _ b ih =>
    intro hb i j hi hj
    by_cases h0 : b = 0
    · subst h0
      have e := (rl_an_0 H i).mp hi
      subst e
      exact hj
    · have hp := (H.2.2 b (by omega) hb).1
      rcases (rl_an_s H (by omega) hb i).mp hi with h | h
      · exact (rl_an_s H (by omega) hb j).mpr (Or.inl (ih (rl_pp pa b) hp (by omega) i j h hj))
      · subst h
        exact hj
def rl_Q (br : Nat → Int32) (b i q : Nat) : Prop := q < i ∧ bt (br b) q = true ∧ ∀ j, j < i → bt (br b) j = true → j ≤ q
theorem rl_Q_par {bc : Nat} {pa br : Nat → Int32} (H : rl_A bc pa br) {b i q : Nat} (hb : b < bc) (h0 : 0 < i) (hi : bt (br b) i = true) (hQ : rl_Q br b i q) : rl_pp pa i = q := by
  have ib : i ≤ b := rl_an_le H b hb i hi
  have hl : rl_pp pa i < i := (H.2.2 i h0 (by omega)).1
  have hA : bt (br i) (rl_pp pa i) = true := (rl_an_s H h0 (by omega) _).mpr (Or.inl (rl_an_self H (by omega)))
  have hB : bt (br b) (rl_pp pa i) = true := rl_an_tr H b hb i _ hi hA
  have h1 := hQ.2.2 _ hl hB
  have hq := hQ.1
  have h2 : bt (br i) q = true := rl_an_lin H b hb q i hQ.2.1 hi (by omega)
  rcases (rl_an_s H h0 (by omega) q).mp h2 with h | h
  · have h3 := rl_an_le H (rl_pp pa i) (by omega) q h
    omega
  · omega
theorem rl_Q_n {br : Nat → Int32} {b i q : Nat} (h : ¬ bt (br b) i = true) (hQ : rl_Q br b i q) : rl_Q br b (i + 1) q := by
  have hq := hQ.1
  refine ⟨by omega, hQ.2.1, fun j hj a => ?_⟩
  by_cases e : j = i
  · subst e
    exact absurd a h
  · exact hQ.2.2 j (by omega) a
theorem rl_Q_y {br : Nat → Int32} {b i : Nat} (h : bt (br b) i = true) : rl_Q br b (i + 1) i := ⟨by omega, h, fun j hj _ => by omega⟩
theorem rl_Q_e {bc : Nat} {pa br : Nat → Int32} (H : rl_A bc pa br) {b q : Nat} (hb : b < bc) (hQ : rl_Q br b (b + 1) q) : q = b := by
  have h1 := hQ.1
  have h2 := hQ.2.2 b (by omega) (rl_an_self H hb)
  omega
/-! the data of the blocks -/
def rl_bo (fi ca am : Nat → Int32) (b : Nat) : Option rl_S := if fi b = 0 then none else some (rl_row am b, ca b)
theorem rl_bo_n {fi ca am : Nat → Int32} {b : Nat} : rl_bo fi ca am b = none ↔ fi b = 0 := by
  unfold rl_bo
  by_cases h : fi b = 0
  · simp [h]
  · simp [h]
theorem rl_bo_y {fi ca am : Nat → Int32} {b : Nat} (h : fi b ≠ 0) : rl_bo fi ca am b = some (rl_row am b, ca b) := if_neg h
theorem rl_bo_i {fi ca am : Nat → Int32} {b : Nat} {s : rl_S} (h : rl_bo fi ca am b = some s) : fi b ≠ 0 ∧ s = (rl_row am b, ca b) := by
  have hf : fi b ≠ 0 := fun z => by
    rw [rl_bo_n.mpr z] at h
    cases h
  rw [rl_bo_y hf] at h
  exact ⟨hf, (Option.some.inj h).symm⟩
def rl_io (tc : Nat) (i : Int32) : Prop := i = -1 ∨ ∃ t, t < tc ∧ i = nI t
def rl_tx (tc : Nat) (fs ss pd : Nat → Int32) : Prop :=
  ∀ t, t < tc → (∃ x, x < 64 ∧ fs t = nI x) ∧ (ss t = -1 ∨ ∃ y, y < 64 ∧ ss t = nI y) ∧ ∃ a, 1 ≤ a ∧ a ≤ 1000 ∧ pd t = nI a
def rl_G (tc bc : Nat) (fs ss pd pa tl br fi ca am wk ins : Nat → Int32) : Prop :=
  rl_A bc pa br ∧ (tl 0 = 0 ∧ wk 0 = 0) ∧
  (ins 0 = -1 ∧ ins 1 = -1 ∧ rl_bo fi ca am 0 = some (upd (fun _ => 0) 32 50, 0)) ∧
  ∀ b, 0 < b → b < bc → tl b = tl (rl_pp pa b) + wk b ∧ rl_io tc (ins (b * 2)) ∧ rl_io tc (ins (b * 2 + 1)) ∧
    rl_bo fi ca am b = (rl_bo fi ca am (rl_pp pa b)).bind (rl_st fs ss pd b (ins (b * 2)) (ins (b * 2 + 1)))
theorem rl_bo_up {tc bc : Nat} {fs ss pd pa tl br fi ca am wk ins : Nat → Int32} (H : rl_G tc bc fs ss pd pa tl br fi ca am wk ins) : ∀ b, b < bc → ∀ i, bt (br b) i = true → rl_bo fi ca am i = none → rl_bo fi ca am b = none := by
  intro b
  induction b using Nat.strongRecOn with
  | _ b ih =>
    intro hb i hi hn
    by_cases h0 : b = 0
    · subst h0
      have e := (rl_an_0 H.1 i).mp hi
      subst e
      exact hn
    · have hp := (H.1.2.2 b (by omega) hb).1
      rcases (rl_an_s H.1 (by omega) hb i).mp hi with h | h
      · have e := (H.2.2.2 b (by omega) hb).2.2.2
        rw [ih (rl_pp pa b) hp (by omega) i h hn] at e
        exact e
      · subst h
        exact hn
/-! what holds of every state of a branch -/
def rl_gd (tc m : Nat) (s : rl_S) : Prop :=
  (∀ c, 0 ≤ s.1 c) ∧ (∀ c, c < 32 → s.1 c ≠ 0 → bt s.2 (c / 2) = true) ∧ (∀ t, bt s.2 t = true → t < tc) ∧ ∀ c, 32 ≤ c → s.1 c ≠ 0 → c < 32 + m
theorem rl_gd_m {tc m m' : Nat} {s : rl_S} (h : rl_gd tc m s) (hm : m ≤ m') : rl_gd tc m' s :=
  ⟨h.1, h.2.1, h.2.2.1, fun c h1 h2 => by have := h.2.2.2 c h1 h2; omega⟩
theorem rl_pd {tc : Nat} {fs ss pd : Nat → Int32} (T : rl_tx tc fs ss pd) {t : Nat} (ht : t < tc) : 0 ≤ pd t ∧ ¬ pd t ≤ 0 ∧ pd t ≠ 0 := by
  obtain ⟨a, h1, h2, e⟩ := (T t ht).2.2
  rw [e]
  exact ⟨nI_pos' (by omega), nI_nle (by omega) (by omega), nI_ne0 (by omega) (by omega)⟩
theorem rl_gd_put {tc m : Nat} {fs ss pd : Nat → Int32} {s : rl_S} {t : Nat} (T : rl_tx tc fs ss pd) (htc : tc ≤ 16) (g : rl_gd tc m s) (ht : t < tc) (hf : rl_fit fs ss pd s t) : rl_gd tc m (rl_put fs ss pd s t) := by
  have hpd := rl_pd T ht
  have hr : 0 ≤ rl_sp fs ss s.1 t - pd t := rl_sub0 hf.2 hpd.1
  have hc : ∀ c, c ≠ 2 * t → c ≠ 2 * t + 1 → (rl_put fs ss pd s t).1 c = rl_cl fs ss s.1 t c := by
    intro c h1 h2
    show upd (upd (rl_cl fs ss s.1 t) (2 * t) (pd t)) (2 * t + 1) (rl_sp fs ss s.1 t - pd t) c = _
    rw [pk_un h2, pk_un h1]
  have hb : ∀ j, bt (rl_put fs ss pd s t).2 j = (bt s.2 j || decide (j = t)) := fun j => rl_bset s.2 (by omega) j
  have hn : ∀ c, c ≠ 2 * t → c ≠ 2 * t + 1 → (rl_put fs ss pd s t).1 c ≠ 0 → s.1 c ≠ 0 := by
    intro c h1 h2 h3
    rw [hc c h1 h2] at h3
    rcases rl_cl_or fs ss s.1 t c with z | z
    · exact absurd z h3
    · rw [z] at h3
      exact h3
  refine ⟨fun c => ?_, fun c h1 h2 => ?_, fun j hj => ?_, fun c h1 h2 => ?_⟩
  · by_cases e1 : c = 2 * t + 1
    · subst e1
      show 0 ≤ upd (upd (rl_cl fs ss s.1 t) (2 * t) (pd t)) (2 * t + 1) (rl_sp fs ss s.1 t - pd t) (2 * t + 1)
      rw [pk_us]
      exact hr
    · by_cases e2 : c = 2 * t
      · subst e2
        show 0 ≤ upd (upd (rl_cl fs ss s.1 t) (2 * t) (pd t)) (2 * t + 1) (rl_sp fs ss s.1 t - pd t) (2 * t)
        rw [pk_un e1, pk_us]
        exact hpd.1
      · rw [hc c e2 e1]
        rcases rl_cl_or fs ss s.1 t c with z | z
        · rw [z]
          exact Int32.le_refl 0
        · rw [z]
          exact g.1 c
  · rw [hb]
    by_cases e : c / 2 = t
    · rw [decide_eq_true e, Bool.or_true]
    · rw [g.2.1 c h1 (hn c (by omega) (by omega) h2), Bool.true_or]
  · rw [hb, Bool.or_eq_true, decide_eq_true_eq] at hj
    rcases hj with h | h
    · exact g.2.2.1 j h
    · omega
  · exact g.2.2.2 c h1 (hn c (by omega) (by omega) h2)
theorem rl_gd_cy {tc m : Nat} {fs ss pd : Nat → Int32} {s s' : rl_S} {i : Int32} (T : rl_tx tc fs ss pd) (htc : tc ≤ 16) (g : rl_gd tc m s) (hi : rl_io tc i) (h : rl_cy fs ss pd s i = some s') : rl_gd tc m s' := by
  rcases hi with e | ⟨t, ht, e⟩
  · subst e
    rw [rl_cy_m] at h
    cases h
    exact g
  · subst e
    by_cases hf : rl_fit fs ss pd s t
    · rw [rl_cy_t (by omega) hf] at h
      cases h
      exact rl_gd_put T htc g ht hf
    · rw [rl_cy_n (by omega) hf] at h
      cases h
theorem rl_gd_b {tc b : Nat} {s : rl_S} (g : rl_gd tc b s) : rl_gd tc (b + 1) (upd s.1 (32 + b) 50, s.2) := by
  refine ⟨fun c => ?_, fun c h1 h2 => ?_, g.2.2.1, fun c h1 h2 => ?_⟩
  · show 0 ≤ upd s.1 (32 + b) 50 c
    by_cases e : c = 32 + b
    · subst e
      rw [pk_us]
      decide
    · rw [pk_un e]
      exact g.1 c
  · have h3 : upd s.1 (32 + b) 50 c ≠ 0 := h2
    rw [pk_un (by omega)] at h3
    exact g.2.1 c h1 h3
  · by_cases e : c = 32 + b
    · omega
    · have h3 : upd s.1 (32 + b) 50 c ≠ 0 := h2
      rw [pk_un e] at h3
      have := g.2.2.2 c h1 h3
      omega
theorem rl_gd_st {tc b : Nat} {fs ss pd : Nat → Int32} {s s' : rl_S} {f k : Int32} (T : rl_tx tc fs ss pd) (htc : tc ≤ 16) (g : rl_gd tc b s) (hf : rl_io tc f) (hk : rl_io tc k) (h : rl_st fs ss pd b f k s = some s') : rl_gd tc (b + 1) s' := by
  unfold rl_st at h
  rw [Option.bind_eq_some_iff] at h
  obtain ⟨s1, h1, h2⟩ := h
  exact rl_gd_cy T htc (rl_gd_cy T htc (rl_gd_b g) hf h1) hk h2
theorem rl_gd_0 (tc : Nat) : rl_gd tc 0 (fun _ => 0, 0) := by
  refine ⟨fun _ => Int32.le_refl 0, fun _ _ h => absurd rfl h, fun t h => ?_, fun _ _ h => absurd rfl h⟩
  have h2 : bt 0 t = true := h
  rw [b_0] at h2
  cases h2
theorem rl_gd_bo {tc bc : Nat} {fs ss pd pa tl br fi ca am wk ins : Nat → Int32} (T : rl_tx tc fs ss pd) (htc : tc ≤ 16) (H : rl_G tc bc fs ss pd pa tl br fi ca am wk ins) : ∀ b, b < bc → ∀ s, rl_bo fi ca am b = some s → rl_gd tc (b + 1) s := by
  intro b
  induction b using Nat.strongRecOn with
  | _ b ih =>
    intro hb s hs
    by_cases h0 : b = 0
    · subst h0
      rw [H.2.2.1.2.2] at hs
      cases hs
      exact rl_gd_b (rl_gd_0 tc)
    · have hp := (H.1.2.2 b (by omega) hb).1
      obtain ⟨_, hi, hk, e⟩ := H.2.2.2 b (by omega) hb
      rw [e, Option.bind_eq_some_iff] at hs
      obtain ⟨s1, h1, h2⟩ := hs
      exact rl_gd_st T htc (rl_gd_m (ih (rl_pp pa b) hp (by omega) s1 h1) (by omega)) hi hk h2
