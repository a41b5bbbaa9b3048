/-! valid blocks, the tip, sums and counts, the scratch of the replay -/
def rl_V (bn br fi : Nat → Int32) (b : Nat) : Prop := fi b ≠ 0 ∧ ∀ j, bt (br b) j = true → bn j = 0
theorem rl_V_0 {tc bc : Nat} {fs ss pd pa tl br fi ca am wk ins bn : Nat → Int32} (H : rl_G tc bc fs ss pd pa tl br fi ca am wk ins) (hb : bn 0 = 0) : rl_V bn br fi 0 := by
  refine ⟨(rl_bo_i H.2.2.1.2.2).1, fun j hj => ?_⟩
  have e := (rl_an_0 H.1 j).mp hj
  subst e
  exact hb
theorem rl_V_s {tc bc : Nat} {fs ss pd pa tl br fi ca am wk ins : Nat → Int32} (bn : Nat → Int32) (H : rl_G tc bc fs ss pd pa tl br fi ca am wk ins) {b : Nat} (h0 : 0 < b) (hb : b < bc) : rl_V bn br fi b ↔ fi b ≠ 0 ∧ bn b = 0 ∧ rl_V bn br fi (rl_pp pa b) := by
  constructor
  · intro h
    refine ⟨h.1, h.2 b (rl_an_self H.1 hb), fun z => ?_, fun j hj => h.2 j ((rl_an_s H.1 h0 hb j).mpr (Or.inl hj))⟩
    have e := (H.2.2.2 b h0 hb).2.2.2
    rw [rl_bo_n.mpr z] at e
    exact h.1 (rl_bo_n.mp e)
  · intro h
    refine ⟨h.1, fun j hj => ?_⟩
    rcases (rl_an_s H.1 h0 hb j).mp hj with z | z
    · exact h.2.2.2 j z
    · subst z
      exact h.2.1
/-- standing: the component's own word on each block -/
def rl_sd (bc : Nat) (bn br fi st : Nat → Int32) : Prop := ∀ b, b < bc → (st b = 1 ∧ rl_V bn br fi b) ∨ (st b = 0 ∧ ¬ rl_V bn br fi b)
def rl_cb (st tl : Nat → Int32) : Nat → Nat
  | 0 => 0
  | n + 1 => if st n ≠ 0 ∧ tl (rl_cb st tl n) < tl n then n else rl_cb st tl n
def rl_tp (st tl : Nat → Int32) (bc tip : Nat) : Nat := if st tip = 0 ∨ tl tip < tl (rl_cb st tl bc) then rl_cb st tl bc else tip
theorem rl_cb_y {st tl : Nat → Int32} {n : Nat} (h : ¬ st n = 0) (h2 : tl (rl_cb st tl n) < tl n) : rl_cb st tl (n + 1) = n := if_pos ⟨h, h2⟩
theorem rl_cb_n1 {st tl : Nat → Int32} {n : Nat} (h : st n = 0) : rl_cb st tl (n + 1) = rl_cb st tl n := if_neg (fun z => z.1 h)
theorem rl_cb_n2 {st tl : Nat → Int32} {n : Nat} (h : ¬ tl (rl_cb st tl n) < tl n) : rl_cb st tl (n + 1) = rl_cb st tl n := if_neg (fun z => h z.2)
theorem rl_cb_1 (st tl : Nat → Int32) : rl_cb st tl 1 = 0 := by
  show (if st 0 ≠ 0 ∧ tl (rl_cb st tl 0) < tl 0 then 0 else rl_cb st tl 0) = 0
  split
  · rfl
  · rfl
theorem rl_cb_ok {st : Nat → Int32} (tl : Nat → Int32) (h : st 0 ≠ 0) : ∀ n, st (rl_cb st tl n) ≠ 0 ∧ (rl_cb st tl n < n ∨ rl_cb st tl n = 0) := by
  intro n
  induction n with
  | zero => exact ⟨h, Or.inr rfl⟩
  | succ n ih =>
    by_cases c : st n ≠ 0 ∧ tl (rl_cb st tl n) < tl n
    · have e : rl_cb st tl (n + 1) = n := if_pos c
      rw [e]
      exact ⟨c.1, Or.inl (by omega)⟩
    · have e : rl_cb st tl (n + 1) = rl_cb st tl n := if_neg c
      rw [e]
      exact ⟨ih.1, by have := ih.2; omega⟩
theorem rl_sd_V {bc : Nat} {bn br fi st : Nat → Int32} (S : rl_sd bc bn br fi st) {b : Nat} (hb : b < bc) : st b ≠ 0 ↔ rl_V bn br fi b := by
  rcases S b hb with h | h
  · exact ⟨fun _ => h.2, fun _ => by rw [h.1]; decide⟩
  · exact ⟨fun z => absurd h.1 z, fun z => absurd z h.2⟩
theorem rl_tp_ok {bc tip : Nat} {bn br fi st : Nat → Int32} (tl : Nat → Int32) (S : rl_sd bc bn br fi st) (h0 : 0 < bc) (hV : rl_V bn br fi 0) (ht : tip < bc) : rl_tp st tl bc tip < bc ∧ rl_V bn br fi (rl_tp st tl bc tip) := by
  have hc := rl_cb_ok tl ((rl_sd_V S h0).mpr hV) bc
  have hc2 := hc.2
  have hl : rl_cb st tl bc < bc := by omega
  by_cases c : st tip = 0 ∨ tl tip < tl (rl_cb st tl bc)
  · have e : rl_tp st tl bc tip = rl_cb st tl bc := if_pos c
    rw [e]
    exact ⟨hl, (rl_sd_V S hl).mp hc.1⟩
  · have e : rl_tp st tl bc tip = tip := if_neg c
    rw [e]
    exact ⟨ht, (rl_sd_V S ht).mp (fun z => c (Or.inl z))⟩
/-! sums -/
def rl_sm (g : Nat → Int32) : Nat → Int32
  | 0 => 0
  | n + 1 => rl_sm g n + g n
def rl_tm (g : Nat → Int32) (s : Int32) : Nat → Int32
  | 0 => s
  | n + 1 => rl_tm g s n + g (2 * n) + g (2 * n + 1)
theorem rl_tm_e (g : Nat → Int32) (s : Int32) : ∀ n, rl_tm g s n = s + rl_sm g (2 * n) := by
  intro n
  induction n with
  | zero => exact (Int32.add_zero s).symm
  | succ n ih =>
    rw [show 2 * (n + 1) = 2 * n + 1 + 1 from by omega]
    show rl_tm g s n + g (2 * n) + g (2 * n + 1) = s + (rl_sm g (2 * n) + g (2 * n) + g (2 * n + 1))
    rw [ih, Int32.add_assoc, Int32.add_assoc, Int32.add_assoc]
theorem rl_sm_z {g : Nat → Int32} {m : Nat} : ∀ n, m ≤ n → (∀ i, m ≤ i → i < n → g i = 0) → rl_sm g n = rl_sm g m := by
  intro n
  induction n with
  | zero =>
    intro h _
    have e : m = 0 := by omega
    rw [e]
  | succ n ih =>
    intro h hz
    by_cases e : m = n + 1
    · rw [e]
    · show rl_sm g n + g n = rl_sm g m
      rw [hz n (by omega) (by omega), Int32.add_zero]
      exact ih (by omega) (fun i h1 h2 => hz i h1 (by omega))
theorem rl_sm_32 (g : Nat → Int32) : ∀ n, rl_sm g (32 + n) = rl_sm g 32 + rl_sm (fun b => g (32 + b)) n := by
  intro n
  induction n with
  | zero => exact (Int32.add_zero _).symm
  | succ n ih =>
    show rl_sm g (32 + n) + g (32 + n) = rl_sm g 32 + (rl_sm (fun b => g (32 + b)) n + g (32 + n))
    rw [ih, Int32.add_assoc]
theorem rl_sum {g : Nat → Int32} {tc bc : Nat} (htc : tc ≤ 16) (hbc : bc ≤ 32) (h1 : ∀ c, 2 * tc ≤ c → c < 32 → g c = 0) (h2 : ∀ c, 32 + bc ≤ c → g c = 0) : rl_tm g (rl_sm (fun b => g (32 + b)) bc) tc = rl_sm g 64 := by
  rw [rl_tm_e, show (64 : Nat) = 32 + 32 from rfl, rl_sm_32, rl_sm_z (g := g) (m := 2 * tc) 32 (by omega) h1, rl_sm_z (g := fun b => g (32 + b)) (m := bc) 32 hbc (fun i hi _ => h2 (32 + i) (by omega)), Int32.add_comm]
/-! counts -/
def rl_ct (P : Nat → Bool) : Nat → Int32
  | 0 => 0
  | n + 1 => if P n = true then rl_ct P n + 1 else rl_ct P n
theorem rl_ct_y {P : Nat → Bool} {n : Nat} (h : P n = true) : rl_ct P (n + 1) = rl_ct P n + 1 := if_pos h
theorem rl_ct_n {P : Nat → Bool} {n : Nat} (h : ¬ P n = true) : rl_ct P (n + 1) = rl_ct P n := if_neg h
theorem rl_ct_z {P : Nat → Bool} {m : Nat} : ∀ n, m ≤ n → (∀ i, m ≤ i → i < n → ¬ P i = true) → rl_ct P n = rl_ct P m := by
  intro n
  induction n with
  | zero =>
    intro h _
    have e : m = 0 := by omega
    rw [e]
  | succ n ih =>
    intro h hz
    by_cases e : m = n + 1
    · rw [e]
    · rw [rl_ct_n (hz n (by omega) (by omega))]
      exact ih (by omega) (fun i h1 h2 => hz i h1 (by omega))
/-! which transactions a block's step carries out -/
theorem rl_ca_cy {tc : Nat} {fs ss pd : Nat → Int32} {s s' : rl_S} {i : Int32} (htc : tc ≤ 16) (hi : rl_io tc i) (h : rl_cy fs ss pd s i = some s') {t : Nat} (ht : t < 32) : bt s'.2 t = true ↔ bt s.2 t = true ∨ i = nI t := by
  rcases hi with e | ⟨k, hk, e⟩
  · subst e
    rw [rl_cy_m] at h
    cases h
    exact ⟨Or.inl, fun z => z.elim id (fun z => absurd z.symm (rl_nm1 (by omega)))⟩
  · subst e
    by_cases hf : rl_fit fs ss pd s k
    · rw [rl_cy_t (by omega) hf] at h
      cases h
      show bt (s.2 ||| ((1 : Int32) <<< (nI k &&& 31))) t = true ↔ _
      rw [rl_bset s.2 (by omega) t, Bool.or_eq_true, decide_eq_true_eq, nI_eq (by omega) (by omega)]
      exact ⟨fun z => z.elim Or.inl (fun z => Or.inr z.symm), fun z => z.elim Or.inl (fun z => Or.inr z.symm)⟩
    · rw [rl_cy_n (by omega) hf] at h
      cases h
theorem rl_ca_st {tc b : Nat} {fs ss pd : Nat → Int32} {s s' : rl_S} {f k : Int32} (htc : tc ≤ 16) (hf : rl_io tc f) (hk : rl_io tc k) (h : rl_st fs ss pd b f k s = some s') {t : Nat} (ht : t < 32) : bt s'.2 t = true ↔ (bt s.2 t = true ∨ f = nI t) ∨ k = nI t := by
  unfold rl_st at h
  rw [Option.bind_eq_some_iff] at h
  obtain ⟨s1, h1, h2⟩ := h
  exact (rl_ca_cy htc hk h2 ht).trans (or_congr (rl_ca_cy htc hf h1 ht) Iff.rfl)
/-! the reference's scratch stands for a state -/
def rl_ow (mi rc sn : Nat → Int32) (c : Nat) : Int32 := if 32 ≤ c then mi (c - 32) else if c % 2 = 0 then rc (c / 2) else sn (c / 2)
theorem rl_ow_b (mi rc sn : Nat → Int32) (b : Nat) : rl_ow mi rc sn (32 + b) = mi b := by
  unfold rl_ow
  rw [if_pos (by omega), Nat.add_sub_cancel_left]
theorem rl_ow_e (mi rc sn : Nat → Int32) {t : Nat} (h : t < 16) : rl_ow mi rc sn (2 * t) = rc t := by
  unfold rl_ow
  rw [if_neg (by omega), if_pos (by omega), show 2 * t / 2 = t from by omega]
theorem rl_ow_o (mi rc sn : Nat → Int32) {t : Nat} (h : t < 16) : rl_ow mi rc sn (2 * t + 1) = sn t := by
  unfold rl_ow
  rw [if_neg (by omega), if_neg (by omega), show (2 * t + 1) / 2 = t from by omega]
def rl_R (mi rc sn : Nat → Int32) (s : rl_S) (th ya ow dn : Nat → Int32) : Prop :=
  (∀ c, c < 64 → (th c = 0 ↔ s.1 c = 0)) ∧ (∀ c, c < 64 → s.1 c ≠ 0 → ya c = s.1 c ∧ ow c = rl_ow mi rc sn c) ∧ (∀ t, t < 16 → (dn t = 0 ↔ bt s.2 t = false)) ∧ ∀ c, c < 64 → th c = 0 ∨ th c = 1
theorem rl_R_0 {mi rc sn th dn : Nat → Int32} (ya ow : Nat → Int32) (h1 : ∀ c, c < 64 → th c = 0) (h2 : ∀ t, t < 16 → dn t = 0) : rl_R mi rc sn (fun _ => 0, 0) th ya ow dn :=
  ⟨fun c hc => ⟨fun _ => rfl, fun _ => h1 c hc⟩, fun c _ h => absurd rfl h, fun t ht => ⟨fun _ => b_0 t, fun _ => h2 t ht⟩, fun c hc => Or.inl (h1 c hc)⟩
theorem rl_R_b {mi rc sn th ya ow dn r : Nat → Int32} {k : Int32} (R : rl_R mi rc sn (r, k) th ya ow dn) {c : Nat} {v o : Int32} (hv : v ≠ 0) (ho : o = rl_ow mi rc sn c) : rl_R mi rc sn (upd r c v, k) (upd th c 1) (upd ya c v) (upd ow c o) dn := by
  refine ⟨fun d hd => ?_, fun d hd hn => ?_, R.2.2.1, fun d hd => ?_⟩
  · show upd th c 1 d = 0 ↔ upd r c v d = 0
    by_cases e : d = c
    · subst e
      rw [pk_us, pk_us]
      exact ⟨fun z => absurd z (by decide), fun z => absurd z hv⟩
    · rw [pk_un e, pk_un e]
      exact R.1 d hd
  · have hn2 : upd r c v d ≠ 0 := hn
    show upd ya c v d = upd r c v d ∧ upd ow c o d = _
    by_cases e : d = c
    · subst e
      rw [pk_us, pk_us, pk_us]
      exact ⟨rfl, ho⟩
    · rw [pk_un e] at hn2
      rw [pk_un e, pk_un e, pk_un e]
      exact R.2.1 d hd hn2
  · by_cases e : d = c
    · subst e
      exact Or.inr pk_us
    · rw [pk_un e]
      exact R.2.2.2 d hd
theorem rl_R_d {mi rc sn th ya ow dn r : Nat → Int32} {k : Int32} (R : rl_R mi rc sn (r, k) th ya ow dn) (c : Nat) : rl_R mi rc sn (upd r c 0, k) (upd th c 0) ya ow dn := by
  refine ⟨fun d hd => ?_, fun d hd hn => ?_, R.2.2.1, fun d hd => ?_⟩
  · show upd th c 0 d = 0 ↔ upd r c 0 d = 0
    by_cases e : d = c
    · subst e
      rw [pk_us, pk_us]
    · rw [pk_un e, pk_un e]
      exact R.1 d hd
  · have hn2 : upd r c 0 d ≠ 0 := hn
    show ya d = upd r c 0 d ∧ ow d = _
    by_cases e : d = c
    · subst e
      rw [pk_us] at hn2
      exact absurd rfl hn2
    · rw [pk_un e] at hn2
      rw [pk_un e]
      exact R.2.1 d hd hn2
  · by_cases e : d = c
    · subst e
      exact Or.inl pk_us
    · rw [pk_un e]
      exact R.2.2.2 d hd
theorem rl_R_t {mi rc sn th ya ow dn r : Nat → Int32} {k : Int32} (R : rl_R mi rc sn (r, k) th ya ow dn) {t : Nat} (ht : t < 16) : rl_R mi rc sn (r, k ||| ((1 : Int32) <<< (nI t &&& 31))) th ya ow (upd dn t 1) := by
  refine ⟨R.1, R.2.1, fun j hj => ?_, R.2.2.2⟩
  show upd dn t 1 j = 0 ↔ bt (k ||| ((1 : Int32) <<< (nI t &&& 31))) j = false
  rw [rl_bset k (by omega) j]
  by_cases e : j = t
  · subst e
    rw [pk_us]
    exact ⟨fun z => absurd z (by decide), fun z => by simp at z⟩
  · rw [pk_un e, decide_eq_false e, Bool.or_false]
    exact R.2.2.1 j hj
theorem rl_uz {r : Nat → Int32} {c : Nat} (h : r c = 0) : upd r c 0 = r := by
  funext d
  by_cases e : d = c
  · subst e
    rw [pk_us, h]
  · rw [pk_un e]
theorem rl_uv {r : Nat → Int32} {c : Nat} {v : Int32} (h : r c = v) : upd r c v = r := by
  funext d
  by_cases e : d = c
  · subst e
    rw [pk_us, h]
  · rw [pk_un e]
