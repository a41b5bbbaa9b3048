/-! what a new transaction and a new block leave as it was; the relation's pure part -/
theorem rl_io_m {tc tc' : Nat} {i : Int32} (h : rl_io tc i) (hm : tc ≤ tc') : rl_io tc' i := by
  rcases h with e | ⟨t, ht, e⟩
  · exact Or.inl e
  · exact Or.inr ⟨t, by omega, e⟩
theorem rl_cy_io {tc : Nat} {fs ss pd fs' ss' pd' : Nat → Int32} (htc : tc ≤ 16) (h1 : ∀ t, t < tc → fs' t = fs t) (h2 : ∀ t, t < tc → ss' t = ss t) (h3 : ∀ t, t < tc → pd' t = pd t) {i : Int32} (hi : rl_io tc i) (s : rl_S) : rl_cy fs' ss' pd' s i = rl_cy fs ss pd s i := by
  rcases hi with e | ⟨t, ht, e⟩
  · subst e
    rw [rl_cy_m, rl_cy_m]
  · subst e
    exact rl_cy_c (by omega) (h1 t ht) (h2 t ht) (h3 t ht)
theorem rl_st_io {tc : Nat} {fs ss pd fs' ss' pd' : Nat → Int32} (htc : tc ≤ 16) (h1 : ∀ t, t < tc → fs' t = fs t) (h2 : ∀ t, t < tc → ss' t = ss t) (h3 : ∀ t, t < tc → pd' t = pd t) {f k : Int32} (hf : rl_io tc f) (hk : rl_io tc k) (b : Nat) : rl_st fs' ss' pd' b f k = rl_st fs ss pd b f k := by
  funext s
  unfold rl_st
  rw [rl_cy_io htc h1 h2 h3 hf]
  exact congrArg (Option.bind _) (funext fun s' => rl_cy_io htc h1 h2 h3 hk s')
theorem rl_G_tx {tc bc : Nat} {fs ss pd pa tl br fi ca am wk ins : Nat → Int32} (htc : tc ≤ 16) (H : rl_G tc bc fs ss pd pa tl br fi ca am wk ins) (x y a : Int32) : rl_G (tc + 1) bc (upd fs tc x) (upd ss tc y) (upd pd tc a) pa tl br fi ca am wk ins := by
  refine ⟨H.1, H.2.1, H.2.2.1, fun b h0 hb => ?_⟩
  obtain ⟨h1, h2, h3, h4⟩ := H.2.2.2 b h0 hb
  refine ⟨h1, rl_io_m h2 (by omega), rl_io_m h3 (by omega), ?_⟩
  rw [h4, rl_st_io (fs' := upd fs tc x) (ss' := upd ss tc y) (pd' := upd pd tc a) htc (fun t ht => pk_un (by omega)) (fun t ht => pk_un (by omega)) (fun t ht => pk_un (by omega)) h2 h3 b]
theorem rl_tx_a {tc : Nat} {fs ss pd : Nat → Int32} (T : rl_tx tc fs ss pd) {x a : Nat} {y : Int32} (hx : x < 64) (hy : y = -1 ∨ ∃ z, z < 64 ∧ y = nI z) (h1 : 1 ≤ a) (h2 : a ≤ 1000) : rl_tx (tc + 1) (upd fs tc (nI x)) (upd ss tc y) (upd pd tc (nI a)) := by
  intro t ht
  by_cases e : t = tc
  · subst e
    rw [pk_us, pk_us, pk_us]
    exact ⟨⟨x, hx, rfl⟩, hy, ⟨a, h1, h2, rfl⟩⟩
  · rw [pk_un e, pk_un e, pk_un e]
    exact T t (by omega)
theorem rl_pp_o {pa : Nat → Int32} {k b : Nat} {x : Int32} (h : b ≠ k) : rl_pp (upd pa k x) b = rl_pp pa b := by
  unfold rl_pp
  rw [pk_un h]
theorem rl_pp_s {pa : Nat → Int32} {k p : Nat} (h : p < 2 ^ 31) : rl_pp (upd pa k (nI p)) k = p := by
  unfold rl_pp
  rw [pk_us, nI_clamp h]
theorem rl_A_bl {bc p : Nat} {pa br : Nat → Int32} (hbc : bc ≤ 31) (h0 : 0 < bc) (H : rl_A bc pa br) (hp : p < bc) : rl_A (bc + 1) (upd pa bc (nI p)) (upd br bc (br p ||| ((1 : Int32) <<< (nI bc &&& 31)))) := by
  refine ⟨?_, fun j => ?_, fun b hb0 hb => ?_⟩
  · rw [pk_un (by omega)]
    exact H.1
  · rw [pk_un (by omega)]
    exact H.2.1 j
  · by_cases e : b = bc
    · rw [e, rl_pp_s (by omega), pk_us, pk_us, pk_un (by omega)]
      exact ⟨hp, rfl, fun j => rl_bset (br p) (by omega) j⟩
    · rw [rl_pp_o e]
      have hh := H.2.2 b hb0 (by omega)
      rw [pk_un e, pk_un e, pk_un (by have := hh.1; omega)]
      exact hh
theorem rl_G_bl {tc bc p : Nat} {fs ss pd pa tl br fi ca am wk ins fi' ca' am' : Nat → Int32} (hbc : bc ≤ 20) (h0 : 0 < bc) (H : rl_G tc bc fs ss pd pa tl br fi ca am wk ins) (hp : p < bc) (w : Int32) {f g : Int32} (hf : rl_io tc f) (hg : rl_io tc g) (ho : ∀ b, b ≠ bc → rl_row am' b = rl_row am b ∧ ca' b = ca b ∧ fi' b = fi b) (hn : rl_bo fi' ca' am' bc = (rl_bo fi ca am p).bind (rl_st fs ss pd bc f g)) :
    rl_G tc (bc + 1) fs ss pd (upd pa bc (nI p)) (upd tl bc (tl p + w)) (upd br bc (br p ||| ((1 : Int32) <<< (nI bc &&& 31)))) fi' ca' am' (upd wk bc w) (upd (upd ins (bc * 2) f) (bc * 2 + 1) g) := by
  have hbo : ∀ b, b ≠ bc → rl_bo fi' ca' am' b = rl_bo fi ca am b := by
    intro b hb
    unfold rl_bo
    rw [(ho b hb).1, (ho b hb).2.1, (ho b hb).2.2]
  refine ⟨rl_A_bl (by omega) h0 H.1 hp, ⟨?_, ?_⟩, ⟨?_, ?_, ?_⟩, fun b hb0 hb => ?_⟩
  · rw [pk_un (by omega)]
    exact H.2.1.1
  · rw [pk_un (by omega)]
    exact H.2.1.2
  · rw [pk_un (by omega), pk_un (by omega)]
    exact H.2.2.1.1
  · rw [pk_un (by omega), pk_un (by omega)]
    exact H.2.2.1.2.1
  · rw [hbo 0 (by omega)]
    exact H.2.2.1.2.2
  · by_cases e : b = bc
    · have e1 : upd (upd ins (bc * 2) f) (bc * 2 + 1) g (bc * 2) = f := by rw [pk_un (by omega), pk_us]
      have e2 : upd (upd ins (bc * 2) f) (bc * 2 + 1) g (bc * 2 + 1) = g := pk_us
      rw [e, rl_pp_s (by omega), e1, e2, hbo p (by omega)]
      refine ⟨?_, hf, hg, hn⟩
      rw [pk_us, pk_us, pk_un (by omega)]
    · obtain ⟨h1, h2, h3, h4⟩ := H.2.2.2 b hb0 (by omega)
      have hpb := (H.1.2.2 b hb0 (by omega)).1
      have e1 : upd (upd ins (bc * 2) f) (bc * 2 + 1) g (b * 2) = ins (b * 2) := by rw [pk_un (by omega), pk_un (by omega)]
      have e2 : upd (upd ins (bc * 2) f) (bc * 2 + 1) g (b * 2 + 1) = ins (b * 2 + 1) := by rw [pk_un (by omega), pk_un (by omega)]
      rw [rl_pp_o e, e1, e2, hbo b e, hbo (rl_pp pa b) (by omega)]
      refine ⟨?_, h2, h3, h4⟩
      rw [pk_un e, pk_un (by omega), pk_un e]
      exact h1
def rl_P (tc bc tip : Nat) (fs ss pd pa bn tl st br ca fi am wk ins : Nat → Int32) : Prop :=
  tc ≤ 16 ∧ 0 < bc ∧ bc ≤ 21 ∧ tip < bc ∧ rl_tx tc fs ss pd ∧ rl_G tc bc fs ss pd pa tl br fi ca am wk ins ∧ bn 0 = 0 ∧ (∀ b, bc ≤ b → bn b = 0) ∧ rl_sd bc bn br fi st ∧ rl_V bn br fi tip
