section
theorem pk_us {f : Nat → Int32} {k : Nat} {x : Int32} : upd f k x k = x := if_pos rfl
theorem pk_un {f : Nat → Int32} {k j : Nat} {x : Int32} (h : j ≠ k) : upd f k x j = f j := if_neg h
theorem pk_sub {a b : Nat} (h : b ≤ a) : nI a - nI b = nI (a - b) := by
  obtain ⟨c, rfl⟩ : ∃ c, a = c + b := ⟨a - b, by omega⟩
  rw [← nI_add, Int32.add_sub_cancel, Nat.add_sub_cancel]
theorem pk_m1 (n : Nat) : nI (n + 1) + (-1) = nI n := by
  rw [← nI_1, Int32.add_assoc, show (1 : Int32) + (-1) = 0 from rfl, Int32.add_zero]
theorem pk_mul (a b : Nat) : nI a * nI b = nI (a * b) := (Int32.ofNat_mul a b).symm
theorem pk_ix (x : Int32) {n : Nat} (hn : n < 2 ^ 31) : x < 0 ∨ nI n ≤ x ∨ ∃ j : Nat, j < n ∧ x = nI j := by
  by_cases h : x < 0
  · exact Or.inl h
  · obtain ⟨j, hj, rfl⟩ := nI_of h
    by_cases h2 : j < n
    · exact Or.inr (Or.inr ⟨j, h2, rfl⟩)
    · exact Or.inr (Or.inl (nI_le (by omega) hj))
theorem pk_le {x y : Int32} {A B : Prop} (a b : Nat) (f : a ≤ b → A) (g : b < a → B) (hx : x = nI a := by rfl) (hy : y = nI b := by rfl) (ha : a < 2 ^ 31 := by omega) (hb : b < 2 ^ 31 := by omega) : (x ≤ y → A) ∧ (¬ x ≤ y → B) := by
  subst hx hy
  rw [nI_leI ha hb]
  exact ⟨f, fun z => g (by omega)⟩
theorem pk_lt {x y : Int32} {A B : Prop} (a b : Nat) (f : a < b → A) (g : b ≤ a → B) (hx : x = nI a := by rfl) (hy : y = nI b := by rfl) (ha : a < 2 ^ 31 := by omega) (hb : b < 2 ^ 31 := by omega) : (x < y → A) ∧ (¬ x < y → B) := by
  subst hx hy
  rw [nI_ltI ha hb]
  exact ⟨f, fun z => g (by omega)⟩
theorem pk_eq {x y : Int32} {A B : Prop} (a b : Nat) (f : a = b → A) (g : a ≠ b → B) (hx : x = nI a := by rfl) (hy : y = nI b := by rfl) (ha : a < 2 ^ 31 := by omega) (hb : b < 2 ^ 31 := by omega) : (x = y → A) ∧ (¬ x = y → B) := by
  subst hx hy
  rw [nI_eq ha hb]
  exact ⟨f, g⟩
theorem pk_in {x : Int32} (n N : Nat) (h : n < N) (hx : x = nI n := by rfl) (hN : N < 2 ^ 31 := by omega) : vp_in x N := by
  subst hx
  exact vp_in_nI h hN
theorem pk_cl {x : Int32} (n : Nat) (hx : x = nI n := by rfl) (h : n < 2 ^ 31 := by omega) : x.toNatClampNeg = n := by
  subst hx
  exact nI_clamp h
theorem pk_tn {n : Nat} (h : n < 2 ^ 32) : (nI n).toBitVec.toNat = n := Nat.mod_eq_of_lt h
theorem pk_and (x : Int32) {m : Int32} (k : Nat) (hm : m.toBitVec.toNat = 2 ^ k - 1) : x &&& m = nI (x.toBitVec.toNat % 2 ^ k) := by
  apply Int32.toBitVec_inj.mp
  apply BitVec.eq_of_toNat_eq
  rw [Int32.toBitVec_and, BitVec.toNat_and, hm, Nat.and_two_pow_sub_one_eq_mod]
  show _ = (BitVec.ofNat 32 _).toNat
  rw [BitVec.toNat_ofNat]
  exact (Nat.mod_eq_of_lt (Nat.lt_of_le_of_lt (Nat.mod_le _ _) x.toBitVec.isLt)).symm
theorem pk_andE (x : Int32) {m : Int32} (k : Nat) (hm : m.toBitVec.toNat = 2 ^ k - 1) : ∃ j : Nat, j < 2 ^ k ∧ x &&& m = nI j := ⟨_, Nat.mod_lt _ (Nat.two_pow_pos k), pk_and x k hm⟩
theorem pk_shr (a s : Int32) (k : Nat) (hs : (s.toBitVec.smod 32).toNat = k) : (a >>> s).toInt = a.toInt >>> k := by
  show (a.toBitVec.sshiftRight (s.toBitVec.smod 32).toNat).toInt = _
  rw [hs, BitVec.toInt_sshiftRight]
  rfl
theorem pk_shrN {n : Nat} (h : n < 2 ^ 31) (s : Int32) (k : Nat) (hs : (s.toBitVec.smod 32).toNat = k) : nI n >>> s = nI (n / 2 ^ k) := by
  apply Int32.toInt_inj.mp
  have h2 : n / 2 ^ k ≤ n := Nat.div_le_self _ _
  rw [pk_shr _ _ k hs, nI_toInt h, nI_toInt (by omega), Int.shiftRight_eq_div_pow]
  rfl
theorem pk_loop {σ : Type} (W : Nat → Nat → σ → Prop) (I : Nat → σ → Prop) (e i0 : Nat) (s : σ) (hi : i0 ≤ e) (h0 : I i0 s) (hx : ∀ n s, I e s → W (n + 1) e s)
    (hs : ∀ n i s, i < e → I i s → (∀ s', I (i + 1) s' → W n (i + 1) s') → W (n + 1) i s) : ∃ n, W n i0 s :=
  ⟨e + 1, loop_i W I e hx hs (e + 1) i0 s hi (by omega) h0⟩
def bt (x : Int32) (i : Nat) : Bool := x.toBitVec.getLsbD i
theorem b_ext {x y : Int32} (h : ∀ i, i < 32 → bt x i = bt y i) : x = y := Int32.toBitVec_inj.mp (BitVec.eq_of_getLsbD_eq (fun i hi => h i hi))
theorem b_or (x y : Int32) (i : Nat) : bt (x ||| y) i = (bt x i || bt y i) := by unfold bt; rw [Int32.toBitVec_or, BitVec.getLsbD_or]
theorem b_and (x y : Int32) (i : Nat) : bt (x &&& y) i = (bt x i && bt y i) := by unfold bt; rw [Int32.toBitVec_and, BitVec.getLsbD_and]
theorem b_big {x : Int32} {i : Nat} (h : 32 ≤ i) : bt x i = false := BitVec.getLsbD_of_ge _ _ h
theorem b_0 (i : Nat) : bt 0 i = false := BitVec.getLsbD_zero
theorem s_l : ∀ n, n < 32 → ((nI n &&& 31).toBitVec.smod 32).toNat = n := by decide +kernel
theorem b_shl (n : Nat) (hn : n < 32) (x : Int32) {i : Nat} (hi : i < 32) : bt (x <<< (nI n &&& 31)) i = (decide (n ≤ i) && bt x (i - n)) := by
  unfold bt
  rw [Int32.toBitVec_shiftLeft]
  show (x.toBitVec <<< ((nI n &&& 31).toBitVec.smod 32).toNat).getLsbD i = _
  rw [s_l n hn, BitVec.getLsbD_shiftLeft]
  rcases Nat.lt_or_ge i n with h | h
  · simp [h, Nat.not_le.mpr h]
  · simp [hi, h, Nat.not_lt.mpr h]
theorem b_sshr (n : Nat) (hn : n < 32) (x : Int32) {i : Nat} (hi : i < 32) : bt (x >>> (nI n &&& 31)) i = if n + i < 32 then bt x (n + i) else bt x 31 := by
  unfold bt
  rw [Int32.toBitVec_shiftRight]
  show (x.toBitVec.sshiftRight ((nI n &&& 31).toBitVec.smod 32).toNat).getLsbD i = _
  rw [s_l n hn, BitVec.getLsbD_sshiftRight, BitVec.msb_eq_getLsbD_last]
  simp [hi]
end
section
/-! the pure picture of a branch: a row of 64 amounts and a set of transactions carried out -/
theorem rl_nm1 {t : Nat} (h : t < 2 ^ 31) : ¬ nI t = -1 := by
  intro e
  have e2 := congrArg Int32.toInt e
  rw [nI_toInt h, show (-1 : Int32).toInt = -1 from by decide] at e2
  omega
theorem rl_sub0 {x y : Int32} (h : y ≤ x) (hy : 0 ≤ y) : 0 ≤ x - y := by
  rw [Int32.le_iff_toInt_le] at h hy
  rw [Int32.le_iff_toInt_le]
  have h2 := Int32.toInt_lt x
  rw [show (0 : Int32).toInt = 0 from by decide] at hy
  rw [show (0 : Int32).toInt = 0 from by decide, Int32.toInt_sub, Int.bmod_eq_of_le (by omega) (by omega)]
  omega
theorem rl_b1 (j : Nat) : bt 1 j = decide (j = 0) := by
  rcases Nat.lt_or_ge j 32 with h | h
  · exact (by decide +kernel : ∀ i, i < 32 → bt 1 i = decide (i = 0)) j h
  · rw [b_big h, decide_eq_false (by omega)]
theorem rl_bsh {t : Nat} (ht : t < 32) (j : Nat) : bt ((1 : Int32) <<< (nI t &&& 31)) j = decide (j = t) := by
  rcases Nat.lt_or_ge j 32 with h | h
  · rw [b_shl t ht 1 h, rl_b1]
    by_cases e : j = t
    · subst e
      simp
    · rcases Nat.lt_or_ge j t with h2 | h2
      · rw [decide_eq_false (by omega : ¬ t ≤ j), decide_eq_false e, Bool.false_and]
      · rw [decide_eq_false (by omega : ¬ j - t = 0), decide_eq_false e, Bool.and_false]
  · rw [b_big h, decide_eq_false (by omega)]
theorem rl_bset (x : Int32) {t : Nat} (ht : t < 32) (j : Nat) : bt (x ||| ((1 : Int32) <<< (nI t &&& 31))) j = (bt x j || decide (j = t)) := by
  rw [b_or, rl_bsh ht]
theorem rl_bit (x : Int32) {j : Nat} (hj : j < 32) : (x >>> (nI j &&& 31)) &&& 1 = if bt x j = true then 1 else 0 := by
  apply b_ext
  intro i hi
  rw [b_and, rl_b1]
  by_cases e : i = 0
  · subst e
    rw [b_sshr j hj x (by omega), if_pos (by omega)]
    by_cases h : bt x j = true
    · rw [if_pos h, rl_b1]
      simp [h]
    · rw [if_neg h, b_0]
      simp at h
      simp [h]
  · rw [decide_eq_false e, Bool.and_false]
    by_cases h : bt x j = true
    · rw [if_pos h, rl_b1, decide_eq_false e]
    · rw [if_neg h, b_0]
abbrev rl_S : Type := (Nat → Int32) × Int32
def rl_row (am : Nat → Int32) (b : Nat) : Nat → Int32 := fun c => if c < 64 then am (b * 64 + c) else 0
theorem rl_row_lt {am : Nat → Int32} {b c : Nat} (h : c < 64) : rl_row am b c = am (b * 64 + c) := if_pos h
theorem rl_row_ge {am : Nat → Int32} {b c : Nat} (h : ¬ c < 64) : rl_row am b c = 0 := if_neg h
theorem rl_row_u {am : Nat → Int32} {b c : Nat} {v : Int32} (h : c < 64) : rl_row (upd am (b * 64 + c) v) b = upd (rl_row am b) c v := by
  funext d
  by_cases hd : d < 64
  · rw [rl_row_lt hd]
    by_cases e : d = c
    · subst e
      rw [pk_us, pk_us]
    · rw [pk_un (by omega), pk_un e, rl_row_lt hd]
  · rw [rl_row_ge hd, pk_un (by omega), rl_row_ge hd]
theorem rl_row_o {am : Nat → Int32} {b b' c : Nat} {v : Int32} (h : c < 64) (hb : b' ≠ b) : rl_row (upd am (b * 64 + c) v) b' = rl_row am b' := by
  funext d
  by_cases hd : d < 64
  · rw [rl_row_lt hd, rl_row_lt hd, pk_un (by omega)]
  · rw [rl_row_ge hd, rl_row_ge hd]
def rl_cp (am : Nat → Int32) (b p c : Nat) : Nat → Int32 := fun k => if b * 64 ≤ k ∧ k < b * 64 + c then am (p * 64 + (k - b * 64)) else am k
theorem rl_cp_0 (am : Nat → Int32) (b p : Nat) : rl_cp am b p 0 = am := by
  funext k
  exact if_neg (by omega)
theorem rl_cp_r (am : Nat → Int32) {b p c : Nat} (h : p < b) (hc : c < 64) : rl_cp am b p c (p * 64 + c) = am (p * 64 + c) := if_neg (by omega)
theorem rl_cp_s (am : Nat → Int32) {b p c : Nat} : upd (rl_cp am b p c) (b * 64 + c) (am (p * 64 + c)) = rl_cp am b p (c + 1) := by
  funext k
  by_cases e : k = b * 64 + c
  · subst e
    have e2 : rl_cp am b p (c + 1) (b * 64 + c) = am (p * 64 + (b * 64 + c - b * 64)) := if_pos (by omega)
    rw [pk_us, e2, Nat.add_sub_cancel_left]
  · rw [pk_un e]
    unfold rl_cp
    by_cases h2 : b * 64 ≤ k ∧ k < b * 64 + c
    · rw [if_pos h2, if_pos (by omega)]
    · rw [if_neg h2, if_neg (by omega)]
theorem rl_cp_b (am : Nat → Int32) (b p : Nat) : rl_row (rl_cp am b p 64) b = rl_row am p := by
  funext d
  by_cases hd : d < 64
  · have e2 : rl_cp am b p 64 (b * 64 + d) = am (p * 64 + (b * 64 + d - b * 64)) := if_pos (by omega)
    rw [rl_row_lt hd, rl_row_lt hd, e2, Nat.add_sub_cancel_left]
  · rw [rl_row_ge hd, rl_row_ge hd]
theorem rl_cp_o (am : Nat → Int32) {b b' : Nat} (p : Nat) (h : b' ≠ b) : rl_row (rl_cp am b p 64) b' = rl_row am b' := by
  funext d
  by_cases hd : d < 64
  · rw [rl_row_lt hd, rl_row_lt hd]
    exact if_neg (by omega)
  · rw [rl_row_ge hd, rl_row_ge hd]
/-! one transaction carried out -/
def rl_sp (fs ss r : Nat → Int32) (t : Nat) : Int32 :=
  if ss t = -1 then r (fs t).toNatClampNeg
  else if fs t = ss t ∨ r (fs t).toNatClampNeg = 0 ∨ r (ss t).toNatClampNeg = 0 then 0
  else r (fs t).toNatClampNeg + r (ss t).toNatClampNeg
abbrev rl_fit (fs ss pd : Nat → Int32) (s : rl_S) (t : Nat) : Prop := bt s.2 t = false ∧ pd t ≤ rl_sp fs ss s.1 t
def rl_cl (fs ss r : Nat → Int32) (t : Nat) : Nat → Int32 :=
  if ss t = -1 then upd r (fs t).toNatClampNeg 0 else upd (upd r (fs t).toNatClampNeg 0) (ss t).toNatClampNeg 0
def rl_put (fs ss pd : Nat → Int32) (s : rl_S) (t : Nat) : rl_S :=
  (upd (upd (rl_cl fs ss s.1 t) (2 * t) (pd t)) (2 * t + 1) (rl_sp fs ss s.1 t - pd t), s.2 ||| ((1 : Int32) <<< (nI t &&& 31)))
def rl_cy (fs ss pd : Nat → Int32) (s : rl_S) (i : Int32) : Option rl_S :=
  if i = -1 then some s
  else if rl_fit fs ss pd s i.toNatClampNeg then some (rl_put fs ss pd s i.toNatClampNeg) else none
def rl_st (fs ss pd : Nat → Int32) (b : Nat) (f g : Int32) (s : rl_S) : Option rl_S :=
  (rl_cy fs ss pd (upd s.1 (32 + b) 50, s.2) f).bind (fun s' => rl_cy fs ss pd s' g)
theorem rl_cy_m (fs ss pd : Nat → Int32) (s : rl_S) : rl_cy fs ss pd s (-1) = some s := if_pos rfl
theorem rl_cy_t {fs ss pd : Nat → Int32} {s : rl_S} {t : Nat} (ht : t < 2 ^ 31) (h : rl_fit fs ss pd s t) : rl_cy fs ss pd s (nI t) = some (rl_put fs ss pd s t) := by
  unfold rl_cy
  rw [if_neg (rl_nm1 ht), nI_clamp ht, if_pos h]
theorem rl_cy_n {fs ss pd : Nat → Int32} {s : rl_S} {t : Nat} (ht : t < 2 ^ 31) (h : ¬ rl_fit fs ss pd s t) : rl_cy fs ss pd s (nI t) = none := by
  unfold rl_cy
  rw [if_neg (rl_nm1 ht), nI_clamp ht, if_neg h]
theorem rl_cy_c {fs ss pd fs' ss' pd' : Nat → Int32} {s : rl_S} {t : Nat} (ht : t < 2 ^ 31) (h1 : fs' t = fs t) (h2 : ss' t = ss t) (h3 : pd' t = pd t) : rl_cy fs' ss' pd' s (nI t) = rl_cy fs ss pd s (nI t) := by
  have e1 : rl_sp fs' ss' s.1 t = rl_sp fs ss s.1 t := by
    unfold rl_sp
    rw [h1, h2]
  have e2 : rl_put fs' ss' pd' s t = rl_put fs ss pd s t := by
    unfold rl_put rl_cl
    rw [e1, h1, h2, h3]
  have e3 : (bt s.2 t = false ∧ pd' t ≤ rl_sp fs' ss' s.1 t) ↔ (bt s.2 t = false ∧ pd t ≤ rl_sp fs ss s.1 t) := by rw [e1, h3]
  by_cases h : rl_fit fs ss pd s t
  · rw [rl_cy_t ht h, rl_cy_t ht (e3.mpr h), e2]
  · rw [rl_cy_n ht h, rl_cy_n ht (fun z => h (e3.mp z))]
theorem rl_sp1 {fs ss r : Nat → Int32} {t x : Nat} (hx : x < 64) (e1 : fs t = nI x) (e2 : ss t = -1) : rl_sp fs ss r t = r x := by
  unfold rl_sp
  rw [if_pos e2, e1, nI_clamp (by omega)]
theorem rl_sp2 {fs ss r : Nat → Int32} {t x y : Nat} (hx : x < 64) (hy : y < 64) (e1 : fs t = nI x) (e2 : ss t = nI y) (h : x ≠ y) (h1 : r x ≠ 0) (h2 : r y ≠ 0) : rl_sp fs ss r t = r x + r y := by
  unfold rl_sp
  rw [e2, if_neg (rl_nm1 (by omega)), e1, nI_clamp (by omega), nI_clamp (by omega), if_neg]
  rw [nI_eq (by omega) (by omega)]
  intro z
  rcases z with z | z | z
  · exact h z
  · exact h1 z
  · exact h2 z
theorem rl_sp0 {fs ss r : Nat → Int32} {t x y : Nat} (hx : x < 64) (hy : y < 64) (e1 : fs t = nI x) (e2 : ss t = nI y) (h : x = y ∨ r x = 0 ∨ r y = 0) : rl_sp fs ss r t = 0 := by
  unfold rl_sp
  rw [e2, if_neg (rl_nm1 (by omega)), e1, nI_clamp (by omega), nI_clamp (by omega), if_pos]
  rw [nI_eq (by omega) (by omega)]
  exact h
theorem rl_cl1 {fs ss r : Nat → Int32} {t x : Nat} (hx : x < 64) (e1 : fs t = nI x) (e2 : ss t = -1) : rl_cl fs ss r t = upd r x 0 := by
  unfold rl_cl
  rw [if_pos e2, e1, nI_clamp (by omega)]
theorem rl_cl2 {fs ss r : Nat → Int32} {t x y : Nat} (hx : x < 64) (hy : y < 64) (e1 : fs t = nI x) (e2 : ss t = nI y) : rl_cl fs ss r t = upd (upd r x 0) y 0 := by
  unfold rl_cl
  rw [e2, if_neg (rl_nm1 (by omega)), e1, nI_clamp (by omega), nI_clamp (by omega)]
theorem rl_u0 (r : Nat → Int32) (x c : Nat) : upd r x 0 c = 0 ∨ upd r x 0 c = r c := by
  by_cases e : c = x
  · subst e
    exact Or.inl pk_us
  · exact Or.inr (pk_un e)
theorem rl_cl_or (fs ss r : Nat → Int32) (t c : Nat) : rl_cl fs ss r t c = 0 ∨ rl_cl fs ss r t c = r c := by
  unfold rl_cl
  by_cases h : ss t = -1
  · rw [if_pos h]
    exact rl_u0 _ _ _
  · rw [if_neg h]
    rcases rl_u0 (upd r (fs t).toNatClampNeg 0) (ss t).toNatClampNeg c with z | z
    · exact Or.inl z
    · rw [z]
      exact rl_u0 _ _ _
end
section
/-! the tree of blocks: branch bits, the last block of a branch below i -/
def rl_pp (pa : Nat → Int32) (b : Nat) : Nat := (pa b).toNatClampNeg
def rl_A (bc : Nat) (pa br : Nat → Int32) : Prop :=
  pa 0 = 0 ∧ (∀ j, bt (br 0) j = decide (j = 0)) ∧
  ∀ b, 0 < b → b < bc → rl_pp pa b < b ∧ pa b = nI (rl_pp pa b) ∧ ∀ j, bt (br b) j = (bt (br (rl_pp pa b)) j || decide (j = b))
theorem rl_an_0 {bc : Nat} {pa br : Nat → Int32} (H : rl_A bc pa br) (j : Nat) : bt (br 0) j = true ↔ j = 0 := by
  rw [H.2.1 j, decide_eq_true_eq]
theorem rl_an_s {bc : Nat} {pa br : Nat → Int32} (H : rl_A bc pa br) {b : Nat} (h0 : 0 < b) (hb : b < bc) (j : Nat) : bt (br b) j = true ↔ bt (br (rl_pp pa b)) j = true ∨ j = b := by
  rw [(H.2.2 b h0 hb).2.2 j, Bool.or_eq_true, decide_eq_true_eq]
theorem rl_an_le {bc : Nat} {pa br : Nat → Int32} (H : rl_A bc pa br) : ∀ b, b < bc → ∀ j, bt (br b) j = true → j ≤ b := by
  intro b
  induction b using Nat.strongRecOn with
  | _ b ih =>
    intro hb j hj
    by_cases h0 : b = 0
    · subst h0
      have := (rl_an_0 H j).mp hj
      omega
    · have hp := (H.2.2 b (by omega) hb).1
      rcases (rl_an_s H (by omega) hb j).mp hj with h | h
      · have := ih (rl_pp pa b) hp (by omega) j h
        omega
      · omega
theorem rl_an_self {bc : Nat} {pa br : Nat → Int32} (H : rl_A bc pa br) {b : Nat} (hb : b < bc) : bt (br b) b = true := by
  by_cases h0 : b = 0
  · subst h0
    exact (rl_an_0 H 0).mpr rfl
  · exact (rl_an_s H (by omega) hb b).mpr (Or.inr rfl)
theorem rl_an_z {bc : Nat} {pa br : Nat → Int32} (H : rl_A bc pa br) : ∀ b, b < bc → bt (br b) 0 = true := by
  intro b
  induction b using Nat.strongRecOn with
  | _ b ih =>
    intro hb
    by_cases h0 : b = 0
    · subst h0
      exact (rl_an_0 H 0).mpr rfl
    · have hp := (H.2.2 b (by omega) hb).1
      exact (rl_an_s H (by omega) hb 0).mpr (Or.inl (ih (rl_pp pa b) hp (by omega)))
theorem rl_an_lin {bc : Nat} {pa br : Nat → Int32} (H : rl_A bc pa br) : ∀ b, b < bc → ∀ j k, bt (br b) j = true → bt (br b) k = true → j ≤ k → bt (br k) j = true := by
  intro b
  induction b using Nat.strongRecOn with
  | _ b ih =>
    intro hb j k hj hk hjk
    by_cases h0 : b = 0
    · subst h0
      have e := (rl_an_0 H k).mp hk
      subst e
      exact hj
    · have hp := (H.2.2 b (by omega) hb).1
      rcases (rl_an_s H (by omega) hb k).mp hk with h | h
      · have hkp := rl_an_le H (rl_pp pa b) (by omega) k h
        rcases (rl_an_s H (by omega) hb j).mp hj with h2 | h2
        · exact ih (rl_pp pa b) hp (by omega) j k h2 h hjk
        · omega
      · subst h
        exact hj
theorem rl_an_tr {bc : Nat} {pa br : Nat → Int32} (H : rl_A bc pa br) : ∀ b, b < bc → ∀ i j, bt (br b) i = true → bt (br i) j = true → bt (br b) j = true := by
  intro b
  induction b using Nat.strongRecOn with
  | _ b ih =>
    intro hb i j hi hj
    by_cases h0 : b = 0
    · subst h0
      have e := (rl_an_0 H i).mp hi
      subst e
      exact hj
    · have hp := (H.2.2 b (by omega) hb).1
      rcases (rl_an_s H (by omega) hb i).mp hi with h | h
      · exact (rl_an_s H (by omega) hb j).mpr (Or.inl (ih (rl_pp pa b) hp (by omega) i j h hj))
      · subst h
        exact hj
def rl_Q (br : Nat → Int32) (b i q : Nat) : Prop := q < i ∧ bt (br b) q = true ∧ ∀ j, j < i → bt (br b) j = true → j ≤ q
theorem rl_Q_par {bc : Nat} {pa br : Nat → Int32} (H : rl_A bc pa br) {b i q : Nat} (hb : b < bc) (h0 : 0 < i) (hi : bt (br b) i = true) (hQ : rl_Q br b i q) : rl_pp pa i = q := by
  have ib : i ≤ b := rl_an_le H b hb i hi
  have hl : rl_pp pa i < i := (H.2.2 i h0 (by omega)).1
  have hA : bt (br i) (rl_pp pa i) = true := (rl_an_s H h0 (by omega) _).mpr (Or.inl (rl_an_self H (by omega)))
  have hB : bt (br b) (rl_pp pa i) = true := rl_an_tr H b hb i _ hi hA
  have h1 := hQ.2.2 _ hl hB
  have hq := hQ.1
  have h2 : bt (br i) q = true := rl_an_lin H b hb q i hQ.2.1 hi (by omega)
  rcases (rl_an_s H h0 (by omega) q).mp h2 with h | h
  · have h3 := rl_an_le H (rl_pp pa i) (by omega) q h
    omega
  · omega
theorem rl_Q_n {br : Nat → Int32} {b i q : Nat} (h : ¬ bt (br b) i = true) (hQ : rl_Q br b i q) : rl_Q br b (i + 1) q := by
  have hq := hQ.1
  refine ⟨by omega, hQ.2.1, fun j hj a => ?_⟩
  by_cases e : j = i
  · subst e
    exact absurd a h
  · exact hQ.2.2 j (by omega) a
theorem rl_Q_y {br : Nat → Int32} {b i : Nat} (h : bt (br b) i = true) : rl_Q br b (i + 1) i := ⟨by omega, h, fun j hj _ => by omega⟩
theorem rl_Q_e {bc : Nat} {pa br : Nat → Int32} (H : rl_A bc pa br) {b q : Nat} (hb : b < bc) (hQ : rl_Q br b (b + 1) q) : q = b := by
  have h1 := hQ.1
  have h2 := hQ.2.2 b (by omega) (rl_an_self H hb)
  omega
/-! the data of the blocks -/
def rl_bo (fi ca am : Nat → Int32) (b : Nat) : Option rl_S := if fi b = 0 then none else some (rl_row am b, ca b)
theorem rl_bo_n {fi ca am : Nat → Int32} {b : Nat} : rl_bo fi ca am b = none ↔ fi b = 0 := by
  unfold rl_bo
  by_cases h : fi b = 0
  · simp [h]
  · simp [h]
theorem rl_bo_y {fi ca am : Nat → Int32} {b : Nat} (h : fi b ≠ 0) : rl_bo fi ca am b = some (rl_row am b, ca b) := if_neg h
theorem rl_bo_i {fi ca am : Nat → Int32} {b : Nat} {s : rl_S} (h : rl_bo fi ca am b = some s) : fi b ≠ 0 ∧ s = (rl_row am b, ca b) := by
  have hf : fi b ≠ 0 := fun z => by
    rw [rl_bo_n.mpr z] at h
    cases h
  rw [rl_bo_y hf] at h
  exact ⟨hf, (Option.some.inj h).symm⟩
def rl_io (tc : Nat) (i : Int32) : Prop := i = -1 ∨ ∃ t, t < tc ∧ i = nI t
def rl_tx (tc : Nat) (fs ss pd : Nat → Int32) : Prop :=
  ∀ t, t < tc → (∃ x, x < 64 ∧ fs t = nI x) ∧ (ss t = -1 ∨ ∃ y, y < 64 ∧ ss t = nI y) ∧ ∃ a, 1 ≤ a ∧ a ≤ 1000 ∧ pd t = nI a
def rl_G (tc bc : Nat) (fs ss pd pa tl br fi ca am wk ins : Nat → Int32) : Prop :=
  rl_A bc pa br ∧ (tl 0 = 0 ∧ wk 0 = 0) ∧
  (ins 0 = -1 ∧ ins 1 = -1 ∧ rl_bo fi ca am 0 = some (upd (fun _ => 0) 32 50, 0)) ∧
  ∀ b, 0 < b → b < bc → tl b = tl (rl_pp pa b) + wk b ∧ rl_io tc (ins (b * 2)) ∧ rl_io tc (ins (b * 2 + 1)) ∧
    rl_bo fi ca am b = (rl_bo fi ca am (rl_pp pa b)).bind (rl_st fs ss pd b (ins (b * 2)) (ins (b * 2 + 1)))
theorem rl_bo_up {tc bc : Nat} {fs ss pd pa tl br fi ca am wk ins : Nat → Int32} (H : rl_G tc bc fs ss pd pa tl br fi ca am wk ins) : ∀ b, b < bc → ∀ i, bt (br b) i = true → rl_bo fi ca am i = none → rl_bo fi ca am b = none := by
  intro b
  induction b using Nat.strongRecOn with
  | _ b ih =>
    intro hb i hi hn
    by_cases h0 : b = 0
    · subst h0
      have e := (rl_an_0 H.1 i).mp hi
      subst e
      exact hn
    · have hp := (H.1.2.2 b (by omega) hb).1
      rcases (rl_an_s H.1 (by omega) hb i).mp hi with h | h
      · have e := (H.2.2.2 b (by omega) hb).2.2.2
        rw [ih (rl_pp pa b) hp (by omega) i h hn] at e
        exact e
      · subst h
        exact hn
/-! what holds of every state of a branch -/
def rl_gd (tc m : Nat) (s : rl_S) : Prop :=
  (∀ c, 0 ≤ s.1 c) ∧ (∀ c, c < 32 → s.1 c ≠ 0 → bt s.2 (c / 2) = true) ∧ (∀ t, bt s.2 t = true → t < tc) ∧ ∀ c, 32 ≤ c → s.1 c ≠ 0 → c < 32 + m
theorem rl_gd_m {tc m m' : Nat} {s : rl_S} (h : rl_gd tc m s) (hm : m ≤ m') : rl_gd tc m' s :=
  ⟨h.1, h.2.1, h.2.2.1, fun c h1 h2 => by have := h.2.2.2 c h1 h2; omega⟩
theorem rl_pd {tc : Nat} {fs ss pd : Nat → Int32} (T : rl_tx tc fs ss pd) {t : Nat} (ht : t < tc) : 0 ≤ pd t ∧ ¬ pd t ≤ 0 ∧ pd t ≠ 0 := by
  obtain ⟨a, h1, h2, e⟩ := (T t ht).2.2
  rw [e]
  exact ⟨nI_pos' (by omega), nI_nle (by omega) (by omega), nI_ne0 (by omega) (by omega)⟩
theorem rl_gd_put {tc m : Nat} {fs ss pd : Nat → Int32} {s : rl_S} {t : Nat} (T : rl_tx tc fs ss pd) (htc : tc ≤ 16) (g : rl_gd tc m s) (ht : t < tc) (hf : rl_fit fs ss pd s t) : rl_gd tc m (rl_put fs ss pd s t) := by
  have hpd := rl_pd T ht
  have hr : 0 ≤ rl_sp fs ss s.1 t - pd t := rl_sub0 hf.2 hpd.1
  have hc : ∀ c, c ≠ 2 * t → c ≠ 2 * t + 1 → (rl_put fs ss pd s t).1 c = rl_cl fs ss s.1 t c := by
    intro c h1 h2
    show upd (upd (rl_cl fs ss s.1 t) (2 * t) (pd t)) (2 * t + 1) (rl_sp fs ss s.1 t - pd t) c = _
    rw [pk_un h2, pk_un h1]
  have hb : ∀ j, bt (rl_put fs ss pd s t).2 j = (bt s.2 j || decide (j = t)) := fun j => rl_bset s.2 (by omega) j
  have hn : ∀ c, c ≠ 2 * t → c ≠ 2 * t + 1 → (rl_put fs ss pd s t).1 c ≠ 0 → s.1 c ≠ 0 := by
    intro c h1 h2 h3
    rw [hc c h1 h2] at h3
    rcases rl_cl_or fs ss s.1 t c with z | z
    · exact absurd z h3
    · rw [z] at h3
      exact h3
  refine ⟨fun c => ?_, fun c h1 h2 => ?_, fun j hj => ?_, fun c h1 h2 => ?_⟩
  · by_cases e1 : c = 2 * t + 1
    · subst e1
      show 0 ≤ upd (upd (rl_cl fs ss s.1 t) (2 * t) (pd t)) (2 * t + 1) (rl_sp fs ss s.1 t - pd t) (2 * t + 1)
      rw [pk_us]
      exact hr
    · by_cases e2 : c = 2 * t
      · subst e2
        show 0 ≤ upd (upd (rl_cl fs ss s.1 t) (2 * t) (pd t)) (2 * t + 1) (rl_sp fs ss s.1 t - pd t) (2 * t)
        rw [pk_un e1, pk_us]
        exact hpd.1
      · rw [hc c e2 e1]
        rcases rl_cl_or fs ss s.1 t c with z | z
        · rw [z]
          exact Int32.le_refl 0
        · rw [z]
          exact g.1 c
  · rw [hb]
    by_cases e : c / 2 = t
    · rw [decide_eq_true e, Bool.or_true]
    · rw [g.2.1 c h1 (hn c (by omega) (by omega) h2), Bool.true_or]
  · rw [hb, Bool.or_eq_true, decide_eq_true_eq] at hj
    rcases hj with h | h
    · exact g.2.2.1 j h
    · omega
  · exact g.2.2.2 c h1 (hn c (by omega) (by omega) h2)
theorem rl_gd_cy {tc m : Nat} {fs ss pd : Nat → Int32} {s s' : rl_S} {i : Int32} (T : rl_tx tc fs ss pd) (htc : tc ≤ 16) (g : rl_gd tc m s) (hi : rl_io tc i) (h : rl_cy fs ss pd s i = some s') : rl_gd tc m s' := by
  rcases hi with e | ⟨t, ht, e⟩
  · subst e
    rw [rl_cy_m] at h
    cases h
    exact g
  · subst e
    by_cases hf : rl_fit fs ss pd s t
    · rw [rl_cy_t (by omega) hf] at h
      cases h
      exact rl_gd_put T htc g ht hf
    · rw [rl_cy_n (by omega) hf] at h
      cases h
theorem rl_gd_b {tc b : Nat} {s : rl_S} (g : rl_gd tc b s) : rl_gd tc (b + 1) (upd s.1 (32 + b) 50, s.2) := by
  refine ⟨fun c => ?_, fun c h1 h2 => ?_, g.2.2.1, fun c h1 h2 => ?_⟩
  · show 0 ≤ upd s.1 (32 + b) 50 c
    by_cases e : c = 32 + b
    · subst e
      rw [pk_us]
      decide
    · rw [pk_un e]
      exact g.1 c
  · have h3 : upd s.1 (32 + b) 50 c ≠ 0 := h2
    rw [pk_un (by omega)] at h3
    exact g.2.1 c h1 h3
  · by_cases e : c = 32 + b
    · omega
    · have h3 : upd s.1 (32 + b) 50 c ≠ 0 := h2
      rw [pk_un e] at h3
      have := g.2.2.2 c h1 h3
      omega
theorem rl_gd_st {tc b : Nat} {fs ss pd : Nat → Int32} {s s' : rl_S} {f k : Int32} (T : rl_tx tc fs ss pd) (htc : tc ≤ 16) (g : rl_gd tc b s) (hf : rl_io tc f) (hk : rl_io tc k) (h : rl_st fs ss pd b f k s = some s') : rl_gd tc (b + 1) s' := by
  unfold rl_st at h
  rw [Option.bind_eq_some_iff] at h
  obtain ⟨s1, h1, h2⟩ := h
  exact rl_gd_cy T htc (rl_gd_cy T htc (rl_gd_b g) hf h1) hk h2
theorem rl_gd_0 (tc : Nat) : rl_gd tc 0 (fun _ => 0, 0) := by
  refine ⟨fun _ => Int32.le_refl 0, fun _ _ h => absurd rfl h, fun t h => ?_, fun _ _ h => absurd rfl h⟩
  have h2 : bt 0 t = true := h
  rw [b_0] at h2
  cases h2
theorem rl_gd_bo {tc bc : Nat} {fs ss pd pa tl br fi ca am wk ins : Nat → Int32} (T : rl_tx tc fs ss pd) (htc : tc ≤ 16) (H : rl_G tc bc fs ss pd pa tl br fi ca am wk ins) : ∀ b, b < bc → ∀ s, rl_bo fi ca am b = some s → rl_gd tc (b + 1) s := by
  intro b
  induction b using Nat.strongRecOn with
  | _ b ih =>
    intro hb s hs
    by_cases h0 : b = 0
    · subst h0
      rw [H.2.2.1.2.2] at hs
      cases hs
      exact rl_gd_b (rl_gd_0 tc)
    · have hp := (H.1.2.2 b (by omega) hb).1
      obtain ⟨_, hi, hk, e⟩ := H.2.2.2 b (by omega) hb
      rw [e, Option.bind_eq_some_iff] at hs
      obtain ⟨s1, h1, h2⟩ := hs
      exact rl_gd_st T htc (rl_gd_m (ih (rl_pp pa b) hp (by omega) s1 h1) (by omega)) hi hk h2
end
section
/-! valid blocks, the tip, sums and counts, the scratch of the replay -/
def rl_V (bn br fi : Nat → Int32) (b : Nat) : Prop := fi b ≠ 0 ∧ ∀ j, bt (br b) j = true → bn j = 0
theorem rl_V_0 {tc bc : Nat} {fs ss pd pa tl br fi ca am wk ins bn : Nat → Int32} (H : rl_G tc bc fs ss pd pa tl br fi ca am wk ins) (hb : bn 0 = 0) : rl_V bn br fi 0 := by
  refine ⟨(rl_bo_i H.2.2.1.2.2).1, fun j hj => ?_⟩
  have e := (rl_an_0 H.1 j).mp hj
  subst e
  exact hb
theorem rl_V_s {tc bc : Nat} {fs ss pd pa tl br fi ca am wk ins : Nat → Int32} (bn : Nat → Int32) (H : rl_G tc bc fs ss pd pa tl br fi ca am wk ins) {b : Nat} (h0 : 0 < b) (hb : b < bc) : rl_V bn br fi b ↔ fi b ≠ 0 ∧ bn b = 0 ∧ rl_V bn br fi (rl_pp pa b) := by
  constructor
  · intro h
    refine ⟨h.1, h.2 b (rl_an_self H.1 hb), fun z => ?_, fun j hj => h.2 j ((rl_an_s H.1 h0 hb j).mpr (Or.inl hj))⟩
    have e := (H.2.2.2 b h0 hb).2.2.2
    rw [rl_bo_n.mpr z] at e
    exact h.1 (rl_bo_n.mp e)
  · intro h
    refine ⟨h.1, fun j hj => ?_⟩
    rcases (rl_an_s H.1 h0 hb j).mp hj with z | z
    · exact h.2.2.2 j z
    · subst z
      exact h.2.1
/-- standing: the component's own word on each block -/
def rl_sd (bc : Nat) (bn br fi st : Nat → Int32) : Prop := ∀ b, b < bc → (st b = 1 ∧ rl_V bn br fi b) ∨ (st b = 0 ∧ ¬ rl_V bn br fi b)
def rl_cb (st tl : Nat → Int32) : Nat → Nat
  | 0 => 0
  | n + 1 => if st n ≠ 0 ∧ tl (rl_cb st tl n) < tl n then n else rl_cb st tl n
def rl_tp (st tl : Nat → Int32) (bc tip : Nat) : Nat := if st tip = 0 ∨ tl tip < tl (rl_cb st tl bc) then rl_cb st tl bc else tip
theorem rl_cb_y {st tl : Nat → Int32} {n : Nat} (h : ¬ st n = 0) (h2 : tl (rl_cb st tl n) < tl n) : rl_cb st tl (n + 1) = n := if_pos ⟨h, h2⟩
theorem rl_cb_n1 {st tl : Nat → Int32} {n : Nat} (h : st n = 0) : rl_cb st tl (n + 1) = rl_cb st tl n := if_neg (fun z => z.1 h)
theorem rl_cb_n2 {st tl : Nat → Int32} {n : Nat} (h : ¬ tl (rl_cb st tl n) < tl n) : rl_cb st tl (n + 1) = rl_cb st tl n := if_neg (fun z => h z.2)
theorem rl_cb_1 (st tl : Nat → Int32) : rl_cb st tl 1 = 0 := by
  show (if st 0 ≠ 0 ∧ tl (rl_cb st tl 0) < tl 0 then 0 else rl_cb st tl 0) = 0
  split
  · rfl
  · rfl
theorem rl_cb_ok {st : Nat → Int32} (tl : Nat → Int32) (h : st 0 ≠ 0) : ∀ n, st (rl_cb st tl n) ≠ 0 ∧ (rl_cb st tl n < n ∨ rl_cb st tl n = 0) := by
  intro n
  induction n with
  | zero => exact ⟨h, Or.inr rfl⟩
  | succ n ih =>
    by_cases c : st n ≠ 0 ∧ tl (rl_cb st tl n) < tl n
    · have e : rl_cb st tl (n + 1) = n := if_pos c
      rw [e]
      exact ⟨c.1, Or.inl (by omega)⟩
    · have e : rl_cb st tl (n + 1) = rl_cb st tl n := if_neg c
      rw [e]
      exact ⟨ih.1, by have := ih.2; omega⟩
theorem rl_sd_V {bc : Nat} {bn br fi st : Nat → Int32} (S : rl_sd bc bn br fi st) {b : Nat} (hb : b < bc) : st b ≠ 0 ↔ rl_V bn br fi b := by
  rcases S b hb with h | h
  · exact ⟨fun _ => h.2, fun _ => by rw [h.1]; decide⟩
  · exact ⟨fun z => absurd h.1 z, fun z => absurd z h.2⟩
theorem rl_tp_ok {bc tip : Nat} {bn br fi st : Nat → Int32} (tl : Nat → Int32) (S : rl_sd bc bn br fi st) (h0 : 0 < bc) (hV : rl_V bn br fi 0) (ht : tip < bc) : rl_tp st tl bc tip < bc ∧ rl_V bn br fi (rl_tp st tl bc tip) := by
  have hc := rl_cb_ok tl ((rl_sd_V S h0).mpr hV) bc
  have hc2 := hc.2
  have hl : rl_cb st tl bc < bc := by omega
  by_cases c : st tip = 0 ∨ tl tip < tl (rl_cb st tl bc)
  · have e : rl_tp st tl bc tip = rl_cb st tl bc := if_pos c
    rw [e]
    exact ⟨hl, (rl_sd_V S hl).mp hc.1⟩
  · have e : rl_tp st tl bc tip = tip := if_neg c
    rw [e]
    exact ⟨ht, (rl_sd_V S ht).mp (fun z => c (Or.inl z))⟩
/-! sums -/
def rl_sm (g : Nat → Int32) : Nat → Int32
  | 0 => 0
  | n + 1 => rl_sm g n + g n
def rl_tm (g : Nat → Int32) (s : Int32) : Nat → Int32
  | 0 => s
  | n + 1 => rl_tm g s n + g (2 * n) + g (2 * n + 1)
theorem rl_tm_e (g : Nat → Int32) (s : Int32) : ∀ n, rl_tm g s n = s + rl_sm g (2 * n) := by
  intro n
  induction n with
  | zero => exact (Int32.add_zero s).symm
  | succ n ih =>
    rw [show 2 * (n + 1) = 2 * n + 1 + 1 from by omega]
    show rl_tm g s n + g (2 * n) + g (2 * n + 1) = s + (rl_sm g (2 * n) + g (2 * n) + g (2 * n + 1))
    rw [ih, Int32.add_assoc, Int32.add_assoc, Int32.add_assoc]
theorem rl_sm_z {g : Nat → Int32} {m : Nat} : ∀ n, m ≤ n → (∀ i, m ≤ i → i < n → g i = 0) → rl_sm g n = rl_sm g m := by
  intro n
  induction n with
  | zero =>
    intro h _
    have e : m = 0 := by omega
    rw [e]
  | succ n ih =>
    intro h hz
    by_cases e : m = n + 1
    · rw [e]
    · show rl_sm g n + g n = rl_sm g m
      rw [hz n (by omega) (by omega), Int32.add_zero]
      exact ih (by omega) (fun i h1 h2 => hz i h1 (by omega))
theorem rl_sm_32 (g : Nat → Int32) : ∀ n, rl_sm g (32 + n) = rl_sm g 32 + rl_sm (fun b => g (32 + b)) n := by
  intro n
  induction n with
  | zero => exact (Int32.add_zero _).symm
  | succ n ih =>
    show rl_sm g (32 + n) + g (32 + n) = rl_sm g 32 + (rl_sm (fun b => g (32 + b)) n + g (32 + n))
    rw [ih, Int32.add_assoc]
theorem rl_sum {g : Nat → Int32} {tc bc : Nat} (htc : tc ≤ 16) (hbc : bc ≤ 32) (h1 : ∀ c, 2 * tc ≤ c → c < 32 → g c = 0) (h2 : ∀ c, 32 + bc ≤ c → g c = 0) : rl_tm g (rl_sm (fun b => g (32 + b)) bc) tc = rl_sm g 64 := by
  rw [rl_tm_e, show (64 : Nat) = 32 + 32 from rfl, rl_sm_32, rl_sm_z (g := g) (m := 2 * tc) 32 (by omega) h1, rl_sm_z (g := fun b => g (32 + b)) (m := bc) 32 hbc (fun i hi _ => h2 (32 + i) (by omega)), Int32.add_comm]
/-! counts -/
def rl_ct (P : Nat → Bool) : Nat → Int32
  | 0 => 0
  | n + 1 => if P n = true then rl_ct P n + 1 else rl_ct P n
theorem rl_ct_y {P : Nat → Bool} {n : Nat} (h : P n = true) : rl_ct P (n + 1) = rl_ct P n + 1 := if_pos h
theorem rl_ct_n {P : Nat → Bool} {n : Nat} (h : ¬ P n = true) : rl_ct P (n + 1) = rl_ct P n := if_neg h
theorem rl_ct_z {P : Nat → Bool} {m : Nat} : ∀ n, m ≤ n → (∀ i, m ≤ i → i < n → ¬ P i = true) → rl_ct P n = rl_ct P m := by
  intro n
  induction n with
  | zero =>
    intro h _
    have e : m = 0 := by omega
    rw [e]
  | succ n ih =>
    intro h hz
    by_cases e : m = n + 1
    · rw [e]
    · rw [rl_ct_n (hz n (by omega) (by omega))]
      exact ih (by omega) (fun i h1 h2 => hz i h1 (by omega))
/-! which transactions a block's step carries out -/
theorem rl_ca_cy {tc : Nat} {fs ss pd : Nat → Int32} {s s' : rl_S} {i : Int32} (htc : tc ≤ 16) (hi : rl_io tc i) (h : rl_cy fs ss pd s i = some s') {t : Nat} (ht : t < 32) : bt s'.2 t = true ↔ bt s.2 t = true ∨ i = nI t := by
  rcases hi with e | ⟨k, hk, e⟩
  · subst e
    rw [rl_cy_m] at h
    cases h
    exact ⟨Or.inl, fun z => z.elim id (fun z => absurd z.symm (rl_nm1 (by omega)))⟩
  · subst e
    by_cases hf : rl_fit fs ss pd s k
    · rw [rl_cy_t (by omega) hf] at h
      cases h
      show bt (s.2 ||| ((1 : Int32) <<< (nI k &&& 31))) t = true ↔ _
      rw [rl_bset s.2 (by omega) t, Bool.or_eq_true, decide_eq_true_eq, nI_eq (by omega) (by omega)]
      exact ⟨fun z => z.elim Or.inl (fun z => Or.inr z.symm), fun z => z.elim Or.inl (fun z => Or.inr z.symm)⟩
    · rw [rl_cy_n (by omega) hf] at h
      cases h
theorem rl_ca_st {tc b : Nat} {fs ss pd : Nat → Int32} {s s' : rl_S} {f k : Int32} (htc : tc ≤ 16) (hf : rl_io tc f) (hk : rl_io tc k) (h : rl_st fs ss pd b f k s = some s') {t : Nat} (ht : t < 32) : bt s'.2 t = true ↔ (bt s.2 t = true ∨ f = nI t) ∨ k = nI t := by
  unfold rl_st at h
  rw [Option.bind_eq_some_iff] at h
  obtain ⟨s1, h1, h2⟩ := h
  exact (rl_ca_cy htc hk h2 ht).trans (or_congr (rl_ca_cy htc hf h1 ht) Iff.rfl)
/-! the reference's scratch stands for a state -/
def rl_ow (mi rc sn : Nat → Int32) (c : Nat) : Int32 := if 32 ≤ c then mi (c - 32) else if c % 2 = 0 then rc (c / 2) else sn (c / 2)
theorem rl_ow_b (mi rc sn : Nat → Int32) (b : Nat) : rl_ow mi rc sn (32 + b) = mi b := by
  unfold rl_ow
  rw [if_pos (by omega), Nat.add_sub_cancel_left]
theorem rl_ow_e (mi rc sn : Nat → Int32) {t : Nat} (h : t < 16) : rl_ow mi rc sn (2 * t) = rc t := by
  unfold rl_ow
  rw [if_neg (by omega), if_pos (by omega), show 2 * t / 2 = t from by omega]
theorem rl_ow_o (mi rc sn : Nat → Int32) {t : Nat} (h : t < 16) : rl_ow mi rc sn (2 * t + 1) = sn t := by
  unfold rl_ow
  rw [if_neg (by omega), if_neg (by omega), show (2 * t + 1) / 2 = t from by omega]
def rl_R (mi rc sn : Nat → Int32) (s : rl_S) (th ya ow dn : Nat → Int32) : Prop :=
  (∀ c, c < 64 → (th c = 0 ↔ s.1 c = 0)) ∧ (∀ c, c < 64 → s.1 c ≠ 0 → ya c = s.1 c ∧ ow c = rl_ow mi rc sn c) ∧ (∀ t, t < 16 → (dn t = 0 ↔ bt s.2 t = false)) ∧ ∀ c, c < 64 → th c = 0 ∨ th c = 1
theorem rl_R_0 {mi rc sn th dn : Nat → Int32} (ya ow : Nat → Int32) (h1 : ∀ c, c < 64 → th c = 0) (h2 : ∀ t, t < 16 → dn t = 0) : rl_R mi rc sn (fun _ => 0, 0) th ya ow dn :=
  ⟨fun c hc => ⟨fun _ => rfl, fun _ => h1 c hc⟩, fun c _ h => absurd rfl h, fun t ht => ⟨fun _ => b_0 t, fun _ => h2 t ht⟩, fun c hc => Or.inl (h1 c hc)⟩
theorem rl_R_b {mi rc sn th ya ow dn r : Nat → Int32} {k : Int32} (R : rl_R mi rc sn (r, k) th ya ow dn) {c : Nat} {v o : Int32} (hv : v ≠ 0) (ho : o = rl_ow mi rc sn c) : rl_R mi rc sn (upd r c v, k) (upd th c 1) (upd ya c v) (upd ow c o) dn := by
  refine ⟨fun d hd => ?_, fun d hd hn => ?_, R.2.2.1, fun d hd => ?_⟩
  · show upd th c 1 d = 0 ↔ upd r c v d = 0
    by_cases e : d = c
    · subst e
      rw [pk_us, pk_us]
      exact ⟨fun z => absurd z (by decide), fun z => absurd z hv⟩
    · rw [pk_un e, pk_un e]
      exact R.1 d hd
  · have hn2 : upd r c v d ≠ 0 := hn
    show upd ya c v d = upd r c v d ∧ upd ow c o d = _
    by_cases e : d = c
    · subst e
      rw [pk_us, pk_us, pk_us]
      exact ⟨rfl, ho⟩
    · rw [pk_un e] at hn2
      rw [pk_un e, pk_un e, pk_un e]
      exact R.2.1 d hd hn2
  · by_cases e : d = c
    · subst e
      exact Or.inr pk_us
    · rw [pk_un e]
      exact R.2.2.2 d hd
theorem rl_R_d {mi rc sn th ya ow dn r : Nat → Int32} {k : Int32} (R : rl_R mi rc sn (r, k) th ya ow dn) (c : Nat) : rl_R mi rc sn (upd r c 0, k) (upd th c 0) ya ow dn := by
  refine ⟨fun d hd => ?_, fun d hd hn => ?_, R.2.2.1, fun d hd => ?_⟩
  · show upd th c 0 d = 0 ↔ upd r c 0 d = 0
    by_cases e : d = c
    · subst e
      rw [pk_us, pk_us]
    · rw [pk_un e, pk_un e]
      exact R.1 d hd
  · have hn2 : upd r c 0 d ≠ 0 := hn
    show ya d = upd r c 0 d ∧ ow d = _
    by_cases e : d = c
    · subst e
      rw [pk_us] at hn2
      exact absurd rfl hn2
    · rw [pk_un e] at hn2
      rw [pk_un e]
      exact R.2.1 d hd hn2
  · by_cases e : d = c
    · subst e
      exact Or.inl pk_us
    · rw [pk_un e]
      exact R.2.2.2 d hd
theorem rl_R_t {mi rc sn th ya ow dn r : Nat → Int32} {k : Int32} (R : rl_R mi rc sn (r, k) th ya ow dn) {t : Nat} (ht : t < 16) : rl_R mi rc sn (r, k ||| ((1 : Int32) <<< (nI t &&& 31))) th ya ow (upd dn t 1) := by
  refine ⟨R.1, R.2.1, fun j hj => ?_, R.2.2.2⟩
  show upd dn t 1 j = 0 ↔ bt (k ||| ((1 : Int32) <<< (nI t &&& 31))) j = false
  rw [rl_bset k (by omega) j]
  by_cases e : j = t
  · subst e
    rw [pk_us]
    exact ⟨fun z => absurd z (by decide), fun z => by simp at z⟩
  · rw [pk_un e, decide_eq_false e, Bool.or_false]
    exact R.2.2.1 j hj
theorem rl_uz {r : Nat → Int32} {c : Nat} (h : r c = 0) : upd r c 0 = r := by
  funext d
  by_cases e : d = c
  · subst e
    rw [pk_us, h]
  · rw [pk_un e]
theorem rl_uv {r : Nat → Int32} {c : Nat} {v : Int32} (h : r c = v) : upd r c v = r := by
  funext d
  by_cases e : d = c
  · subst e
    rw [pk_us, h]
  · rw [pk_un e]
end
section
/-! what a new transaction and a new block leave as it was; the relation's pure part -/
theorem rl_io_m {tc tc' : Nat} {i : Int32} (h : rl_io tc i) (hm : tc ≤ tc') : rl_io tc' i := by
  rcases h with e | ⟨t, ht, e⟩
  · exact Or.inl e
  · exact Or.inr ⟨t, by omega, e⟩
theorem rl_cy_io {tc : Nat} {fs ss pd fs' ss' pd' : Nat → Int32} (htc : tc ≤ 16) (h1 : ∀ t, t < tc → fs' t = fs t) (h2 : ∀ t, t < tc → ss' t = ss t) (h3 : ∀ t, t < tc → pd' t = pd t) {i : Int32} (hi : rl_io tc i) (s : rl_S) : rl_cy fs' ss' pd' s i = rl_cy fs ss pd s i := by
  rcases hi with e | ⟨t, ht, e⟩
  · subst e
    rw [rl_cy_m, rl_cy_m]
  · subst e
    exact rl_cy_c (by omega) (h1 t ht) (h2 t ht) (h3 t ht)
theorem rl_st_io {tc : Nat} {fs ss pd fs' ss' pd' : Nat → Int32} (htc : tc ≤ 16) (h1 : ∀ t, t < tc → fs' t = fs t) (h2 : ∀ t, t < tc → ss' t = ss t) (h3 : ∀ t, t < tc → pd' t = pd t) {f k : Int32} (hf : rl_io tc f) (hk : rl_io tc k) (b : Nat) : rl_st fs' ss' pd' b f k = rl_st fs ss pd b f k := by
  funext s
  unfold rl_st
  rw [rl_cy_io htc h1 h2 h3 hf]
  exact congrArg (Option.bind _) (funext fun s' => rl_cy_io htc h1 h2 h3 hk s')
theorem rl_G_tx {tc bc : Nat} {fs ss pd pa tl br fi ca am wk ins : Nat → Int32} (htc : tc ≤ 16) (H : rl_G tc bc fs ss pd pa tl br fi ca am wk ins) (x y a : Int32) : rl_G (tc + 1) bc (upd fs tc x) (upd ss tc y) (upd pd tc a) pa tl br fi ca am wk ins := by
  refine ⟨H.1, H.2.1, H.2.2.1, fun b h0 hb => ?_⟩
  obtain ⟨h1, h2, h3, h4⟩ := H.2.2.2 b h0 hb
  refine ⟨h1, rl_io_m h2 (by omega), rl_io_m h3 (by omega), ?_⟩
  rw [h4, rl_st_io (fs' := upd fs tc x) (ss' := upd ss tc y) (pd' := upd pd tc a) htc (fun t ht => pk_un (by omega)) (fun t ht => pk_un (by omega)) (fun t ht => pk_un (by omega)) h2 h3 b]
theorem rl_tx_a {tc : Nat} {fs ss pd : Nat → Int32} (T : rl_tx tc fs ss pd) {x a : Nat} {y : Int32} (hx : x < 64) (hy : y = -1 ∨ ∃ z, z < 64 ∧ y = nI z) (h1 : 1 ≤ a) (h2 : a ≤ 1000) : rl_tx (tc + 1) (upd fs tc (nI x)) (upd ss tc y) (upd pd tc (nI a)) := by
  intro t ht
  by_cases e : t = tc
  · subst e
    rw [pk_us, pk_us, pk_us]
    exact ⟨⟨x, hx, rfl⟩, hy, ⟨a, h1, h2, rfl⟩⟩
  · rw [pk_un e, pk_un e, pk_un e]
    exact T t (by omega)
theorem rl_pp_o {pa : Nat → Int32} {k b : Nat} {x : Int32} (h : b ≠ k) : rl_pp (upd pa k x) b = rl_pp pa b := by
  unfold rl_pp
  rw [pk_un h]
theorem rl_pp_s {pa : Nat → Int32} {k p : Nat} (h : p < 2 ^ 31) : rl_pp (upd pa k (nI p)) k = p := by
  unfold rl_pp
  rw [pk_us, nI_clamp h]
theorem rl_A_bl {bc p : Nat} {pa br : Nat → Int32} (hbc : bc ≤ 31) (h0 : 0 < bc) (H : rl_A bc pa br) (hp : p < bc) : rl_A (bc + 1) (upd pa bc (nI p)) (upd br bc (br p ||| ((1 : Int32) <<< (nI bc &&& 31)))) := by
  refine ⟨?_, fun j => ?_, fun b hb0 hb => ?_⟩
  · rw [pk_un (by omega)]
    exact H.1
  · rw [pk_un (by omega)]
    exact H.2.1 j
  · by_cases e : b = bc
    · rw [e, rl_pp_s (by omega), pk_us, pk_us, pk_un (by omega)]
      exact ⟨hp, rfl, fun j => rl_bset (br p) (by omega) j⟩
    · rw [rl_pp_o e]
      have hh := H.2.2 b hb0 (by omega)
      rw [pk_un e, pk_un e, pk_un (by have := hh.1; omega)]
      exact hh
theorem rl_G_bl {tc bc p : Nat} {fs ss pd pa tl br fi ca am wk ins fi' ca' am' : Nat → Int32} (hbc : bc ≤ 20) (h0 : 0 < bc) (H : rl_G tc bc fs ss pd pa tl br fi ca am wk ins) (hp : p < bc) (w : Int32) {f g : Int32} (hf : rl_io tc f) (hg : rl_io tc g) (ho : ∀ b, b ≠ bc → rl_row am' b = rl_row am b ∧ ca' b = ca b ∧ fi' b = fi b) (hn : rl_bo fi' ca' am' bc = (rl_bo fi ca am p).bind (rl_st fs ss pd bc f g)) :
    rl_G tc (bc + 1) fs ss pd (upd pa bc (nI p)) (upd tl bc (tl p + w)) (upd br bc (br p ||| ((1 : Int32) <<< (nI bc &&& 31)))) fi' ca' am' (upd wk bc w) (upd (upd ins (bc * 2) f) (bc * 2 + 1) g) := by
  have hbo : ∀ b, b ≠ bc → rl_bo fi' ca' am' b = rl_bo fi ca am b := by
    intro b hb
    unfold rl_bo
    rw [(ho b hb).1, (ho b hb).2.1, (ho b hb).2.2]
  refine ⟨rl_A_bl (by omega) h0 H.1 hp, ⟨?_, ?_⟩, ⟨?_, ?_, ?_⟩, fun b hb0 hb => ?_⟩
  · rw [pk_un (by omega)]
    exact H.2.1.1
  · rw [pk_un (by omega)]
    exact H.2.1.2
  · rw [pk_un (by omega), pk_un (by omega)]
    exact H.2.2.1.1
  · rw [pk_un (by omega), pk_un (by omega)]
    exact H.2.2.1.2.1
  · rw [hbo 0 (by omega)]
    exact H.2.2.1.2.2
  · by_cases e : b = bc
    · have e1 : upd (upd ins (bc * 2) f) (bc * 2 + 1) g (bc * 2) = f := by rw [pk_un (by omega), pk_us]
      have e2 : upd (upd ins (bc * 2) f) (bc * 2 + 1) g (bc * 2 + 1) = g := pk_us
      rw [e, rl_pp_s (by omega), e1, e2, hbo p (by omega)]
      refine ⟨?_, hf, hg, hn⟩
      rw [pk_us, pk_us, pk_un (by omega)]
    · obtain ⟨h1, h2, h3, h4⟩ := H.2.2.2 b hb0 (by omega)
      have hpb := (H.1.2.2 b hb0 (by omega)).1
      have e1 : upd (upd ins (bc * 2) f) (bc * 2 + 1) g (b * 2) = ins (b * 2) := by rw [pk_un (by omega), pk_un (by omega)]
      have e2 : upd (upd ins (bc * 2) f) (bc * 2 + 1) g (b * 2 + 1) = ins (b * 2 + 1) := by rw [pk_un (by omega), pk_un (by omega)]
      rw [rl_pp_o e, e1, e2, hbo b e, hbo (rl_pp pa b) (by omega)]
      refine ⟨?_, h2, h3, h4⟩
      rw [pk_un e, pk_un (by omega), pk_un e]
      exact h1
def rl_P (tc bc tip : Nat) (fs ss pd pa bn tl st br ca fi am wk ins : Nat → Int32) : Prop :=
  tc ≤ 16 ∧ 0 < bc ∧ bc ≤ 21 ∧ tip < bc ∧ rl_tx tc fs ss pd ∧ rl_G tc bc fs ss pd pa tl br fi ca am wk ins ∧ bn 0 = 0 ∧ (∀ b, bc ≤ b → bn b = 0) ∧ rl_sd bc bn br fi st ∧ rl_V bn br fi tip
end
section
/-! the reference's test and its carrying out, against the pure step -/
theorem rl_fA {tc t x : Nat} {fs ss pd mi rc sn th ya ow dn : Nat → Int32} {s : rl_S} (T : rl_tx tc fs ss pd) (htc : tc ≤ 16) (ht : t < tc) (R : rl_R mi rc sn s th ya ow dn) (hx : x < 64) (e1 : fs t = nI x) (e2 : ss t = -1) : rl_fit fs ss pd s t ↔ (dn t = 0 ∧ ¬ th x = 0 ∧ pd t ≤ ya x) := by
  have es : rl_sp fs ss s.1 t = s.1 x := rl_sp1 hx e1 e2
  constructor
  · intro h
    have h2 := h.2
    rw [es] at h2
    have hz : s.1 x ≠ 0 := fun z => by
      rw [z] at h2
      exact (rl_pd T ht).2.1 h2
    refine ⟨(R.2.2.1 t (by omega)).mpr h.1, fun z => hz ((R.1 x hx).mp z), ?_⟩
    rw [(R.2.1 x hx hz).1]
    exact h2
  · intro h
    have hz : s.1 x ≠ 0 := fun z => h.2.1 ((R.1 x hx).mpr z)
    have h3 := h.2.2
    rw [(R.2.1 x hx hz).1] at h3
    refine ⟨(R.2.2.1 t (by omega)).mp h.1, ?_⟩
    rw [es]
    exact h3
theorem rl_fA_s {t x : Nat} {fs ss mi rc sn th ya ow dn : Nat → Int32} {s : rl_S} (R : rl_R mi rc sn s th ya ow dn) (hx : x < 64) (e1 : fs t = nI x) (e2 : ss t = -1) (h : ¬ th x = 0) : rl_sp fs ss s.1 t = ya x := by
  have hz : s.1 x ≠ 0 := fun z => h ((R.1 x hx).mpr z)
  rw [rl_sp1 hx e1 e2, (R.2.1 x hx hz).1]
theorem rl_fB {tc t x y : Nat} {fs ss pd mi rc sn th ya ow dn : Nat → Int32} {s : rl_S} (T : rl_tx tc fs ss pd) (htc : tc ≤ 16) (ht : t < tc) (R : rl_R mi rc sn s th ya ow dn) (hx : x < 64) (hy : y < 64) (e1 : fs t = nI x) (e2 : ss t = nI y) : rl_fit fs ss pd s t ↔ (dn t = 0 ∧ ¬ th x = 0 ∧ ¬ x = y ∧ ¬ th y = 0 ∧ pd t ≤ ya x + ya y) := by
  constructor
  · intro h
    have hh : ∀ z : x = y ∨ s.1 x = 0 ∨ s.1 y = 0, False := fun z => by
      have h2 := h.2
      rw [rl_sp0 hx hy e1 e2 z] at h2
      exact (rl_pd T ht).2.1 h2
    have h1 : ¬ x = y := fun z => hh (Or.inl z)
    have h2 : s.1 x ≠ 0 := fun z => hh (Or.inr (Or.inl z))
    have h3 : s.1 y ≠ 0 := fun z => hh (Or.inr (Or.inr z))
    have h4 := h.2
    rw [rl_sp2 hx hy e1 e2 h1 h2 h3] at h4
    refine ⟨(R.2.2.1 t (by omega)).mpr h.1, fun z => h2 ((R.1 x hx).mp z), h1, fun z => h3 ((R.1 y hy).mp z), ?_⟩
    rw [(R.2.1 x hx h2).1, (R.2.1 y hy h3).1]
    exact h4
  · intro h
    have h2 : s.1 x ≠ 0 := fun z => h.2.1 ((R.1 x hx).mpr z)
    have h3 : s.1 y ≠ 0 := fun z => h.2.2.2.1 ((R.1 y hy).mpr z)
    have h4 := h.2.2.2.2
    rw [(R.2.1 x hx h2).1, (R.2.1 y hy h3).1] at h4
    refine ⟨(R.2.2.1 t (by omega)).mp h.1, ?_⟩
    rw [rl_sp2 hx hy e1 e2 h.2.2.1 h2 h3]
    exact h4
theorem rl_fB_s {t x y : Nat} {fs ss mi rc sn th ya ow dn : Nat → Int32} {s : rl_S} (R : rl_R mi rc sn s th ya ow dn) (hx : x < 64) (hy : y < 64) (e1 : fs t = nI x) (e2 : ss t = nI y) (h : ¬ th x = 0) (h1 : ¬ x = y) (h' : ¬ th y = 0) : rl_sp fs ss s.1 t = ya x + ya y := by
  have h2 : s.1 x ≠ 0 := fun z => h ((R.1 x hx).mpr z)
  have h3 : s.1 y ≠ 0 := fun z => h' ((R.1 y hy).mpr z)
  rw [rl_sp2 hx hy e1 e2 h1 h2 h3, (R.2.1 x hx h2).1, (R.2.1 y hy h3).1]
theorem rl_R_p1 {t : Nat} {fs ss pd mi rc sn th ya ow dn : Nat → Int32} {s : rl_S} {e : Int32} (hp : pd t ≠ 0) (ht : t < 16) (R : rl_R mi rc sn (rl_cl fs ss s.1 t, s.2) th ya ow dn) (he : e = rl_sp fs ss s.1 t - pd t) (h : 0 < e) : rl_R mi rc sn (rl_put fs ss pd s t) (upd (upd th (2 * t) 1) (2 * t + 1) 1) (upd (upd ya (2 * t) (pd t)) (2 * t + 1) e) (upd (upd ow (2 * t) (rc t)) (2 * t + 1) (sn t)) (upd dn t 1) := by
  have h0 : e ≠ 0 := fun z => by
    rw [z] at h
    exact absurd h (by decide)
  subst he
  exact rl_R_t (rl_R_b (rl_R_b R hp (rl_ow_e mi rc sn ht).symm) h0 (rl_ow_o mi rc sn ht).symm) ht
theorem rl_R_p2 {tc m t : Nat} {fs ss pd mi rc sn th ya ow dn : Nat → Int32} {s : rl_S} {e : Int32} (T : rl_tx tc fs ss pd) (g : rl_gd tc m s) (hf : rl_fit fs ss pd s t) (htt : t < tc) (ht : t < 16) (R : rl_R mi rc sn (rl_cl fs ss s.1 t, s.2) th ya ow dn) (he : e = rl_sp fs ss s.1 t - pd t) (h : ¬ 0 < e) : rl_R mi rc sn (rl_put fs ss pd s t) (upd th (2 * t) 1) (upd ya (2 * t) (pd t)) (upd ow (2 * t) (rc t)) (upd dn t 1) := by
  have hpd := rl_pd T htt
  have h0 : rl_sp fs ss s.1 t - pd t = 0 := by
    rw [← he]
    exact Int32.le_antisymm (Int32.not_lt.mp h) (by rw [he]; exact rl_sub0 hf.2 hpd.1)
  have hz : s.1 (2 * t + 1) = 0 := Classical.byContradiction fun z => by
    have h2 := g.2.1 (2 * t + 1) (by omega) z
    rw [show (2 * t + 1) / 2 = t from by omega, hf.1] at h2
    cases h2
  have hc : rl_cl fs ss s.1 t (2 * t + 1) = 0 := by
    rcases rl_cl_or fs ss s.1 t (2 * t + 1) with z | z
    · exact z
    · rw [z, hz]
  have e3 : rl_put fs ss pd s t = (upd (rl_cl fs ss s.1 t) (2 * t) (pd t), s.2 ||| ((1 : Int32) <<< (nI t &&& 31))) := by
    unfold rl_put
    rw [h0, rl_uz]
    rw [pk_un (by omega), hc]
  rw [e3]
  exact rl_R_t (rl_R_b R hpd.2.2 (rl_ow_e mi rc sn ht).symm) ht
end
section
/-! the reference's walks: isBlock, onBranch, bring, spends, fitsNow, carryOut -/
variable {tc bc tip : Nat} {fs ss pd sn rc pa mi tl bn st br ca fi am wk ins th ya ow dn : Nat → Int32}
theorem rl_n1 : vp_nar .boolean 1 = 1 := rfl
theorem rl_n0 : vp_nar .boolean 0 = 0 := rfl
theorem ry_isBlock_y {post : Int32 → Prop} {b : Nat} (hbc : bc ≤ 21) (hb : b < bc) (h : post 1) : wpY_isBlock post (nI tc, nI bc, nI tip, fs, ss, pd, sn, rc, pa, mi, wk, ins, bn, th, ya, ow, dn) (nI b) :=
  br_f (nI_pos (by omega)) (br_f (nI_ge hb (by omega)) h)
theorem ry_isBlock_n {post : Int32 → Prop} {x : Int32} (hx : x < 0 ∨ nI bc ≤ x) (h : post 0) : wpY_isBlock post (nI tc, nI bc, nI tip, fs, ss, pd, sn, rc, pa, mi, wk, ins, bn, th, ya, ow, dn) x := by
  by_cases h0 : x < 0
  · exact br_t h0 h
  · exact br_f h0 (br_t (hx.resolve_left h0) h)
theorem ry_ob_loop {post : Int32 → Prop} {j : Nat} (hbc : bc ≤ 21) (H : rl_A bc pa br) (hj : j < 2 ^ 31) : ∀ (m k a n : Nat), k + m = 21 → m < n → a < bc → (a < m ∨ (a = 0 ∧ j ≠ 0)) → (bt (br a) j = true → post 1) → (¬ bt (br a) j = true → post 0) → wY_onBranch_5 post (nI j) (nI tc) (nI bc) (nI tip) fs ss pd sn rc pa mi wk ins bn th ya ow dn n (nI a) (nI k) := by
  intro m
  induction m with
  | zero =>
    intro k a n hk hn ha hm h1 h0
    obtain ⟨n, rfl⟩ : ∃ n', n = n' + 1 := ⟨n - 1, by omega⟩
    have e : a = 0 ∧ j ≠ 0 := by omega
    refine br_t (nI_le (a := 21) (by omega) (by omega)) (h0 fun z => ?_)
    rw [e.1] at z
    exact e.2 ((rl_an_0 H j).mp z)
  | succ m ih =>
    intro k a n hk hn ha hm h1 h0
    obtain ⟨n, rfl⟩ : ∃ n', n = n' + 1 := ⟨n - 1, by omega⟩
    refine br_f (nI_ge (b := 21) (by omega) (by decide)) ?_
    by_cases e : a = j
    · subst e
      exact br_t rfl (h1 (rl_an_self H ha))
    · refine br_f (fun z => e ((nI_eq (by omega) hj).mp z)) ⟨vp_in_nI (by omega) (by decide), ?_⟩
      rw [nI_clamp (by omega)]
      by_cases h : a = 0
      · subst h
        refine nm_r (e' := nI 0) H.1 (nm_r (nI_1 k) (ih (k + 1) 0 n (by omega) (by omega) ha (Or.inr ⟨rfl, fun z => e z.symm⟩) h1 h0))
      · have hh := H.2.2 a (by omega) ha
        have hs := rl_an_s H (by omega) ha j
        refine nm_r hh.2.1 (nm_r (nI_1 k) (ih (k + 1) (rl_pp pa a) n (by omega) (by omega) (by omega) (Or.inl (by omega)) (fun z => h1 (hs.mpr (Or.inl z))) (fun z => h0 fun w => ?_)))
        rcases hs.mp w with w | w
        · exact z w
        · exact e w.symm
theorem ry_ob {post : Int32 → Prop} {j b : Nat} (hbc : bc ≤ 21) (H : rl_A bc pa br) (hj : j < 2 ^ 31) (hb : b < bc) (h1 : bt (br b) j = true → post 1) (h0 : ¬ bt (br b) j = true → post 0) : wpY_onBranch post (nI tc, nI bc, nI tip, fs, ss, pd, sn, rc, pa, mi, wk, ins, bn, th, ya, ow, dn) (nI j) (nI b) :=
  ⟨22, ry_ob_loop hbc H hj 21 0 b 22 rfl (by omega) hb (Or.inl (by omega)) h1 h0⟩
theorem ry_bring {post : SY → Prop} {c : Nat} {v o : Int32} (hc : c < 64) (h : post (nI tc, nI bc, nI tip, fs, ss, pd, sn, rc, pa, mi, wk, ins, bn, upd th c 1, upd ya c v, upd ow c o, dn)) : wpY_bring post (nI tc, nI bc, nI tip, fs, ss, pd, sn, rc, pa, mi, wk, ins, bn, th, ya, ow, dn) (nI c) v o := by
  have hi : vp_in (nI c) 64 := vp_in_nI hc (by decide)
  unfold wpY_bring
  dsimp only
  rw [nI_clamp (by omega)]
  exact ⟨hi, nm_r (congrArg (upd th c) rl_n1) ⟨hi, nm_e ⟨hi, nm_e h⟩⟩⟩
theorem ry_spendsA {post : Int32 → Prop} {t x : Nat} (ht : t < 16) (hx : x < 64) (e1 : fs t = nI x) (e2 : ss t = -1) (h : post (ya x)) : wpY_spends post (nI tc, nI bc, nI tip, fs, ss, pd, sn, rc, pa, mi, wk, ins, bn, th, ya, ow, dn) (nI t) := by
  have hi : vp_in (nI t) 16 := vp_in_nI ht (by decide)
  unfold wpY_spends
  dsimp only
  rw [nI_clamp (by omega), e1, e2, nI_clamp (by omega)]
  exact ⟨hi, vp_in_nI hx (by decide), nm_e ⟨hi, br_t (by decide) h⟩⟩
theorem ry_spendsB {post : Int32 → Prop} {t x y : Nat} (ht : t < 16) (hx : x < 64) (hy : y < 64) (e1 : fs t = nI x) (e2 : ss t = nI y) (h : post (ya x + ya y)) : wpY_spends post (nI tc, nI bc, nI tip, fs, ss, pd, sn, rc, pa, mi, wk, ins, bn, th, ya, ow, dn) (nI t) := by
  have hi : vp_in (nI t) 16 := vp_in_nI ht (by decide)
  unfold wpY_spends
  dsimp only
  rw [nI_clamp (by omega), e1, e2, nI_clamp (by omega), nI_clamp (by omega)]
  exact ⟨hi, vp_in_nI hx (by decide), nm_e ⟨hi, br_f (nI_pos (by omega)) ⟨hi, vp_in_nI hy (by decide), nm_e h⟩⟩⟩
theorem ry_fitJ {post : Int32 → Prop} {t : Nat} {e : Int32} (ht : t < 16) (hs : ∀ p : Int32 → Prop, p e → wpY_spends p (nI tc, nI bc, nI tip, fs, ss, pd, sn, rc, pa, mi, wk, ins, bn, th, ya, ow, dn) (nI t)) (h1 : pd t ≤ e → post 1) (h0 : ¬ pd t ≤ e → post 0) : wY_fitsNow_65 post (nI t) (nI tc) (nI bc) (nI tip) fs ss pd sn rc pa mi wk ins bn th ya ow dn := by
  have hi : vp_in (nI t) 16 := vp_in_nI ht (by decide)
  unfold wY_fitsNow_65
  rw [nI_clamp (by omega)]
  exact hs _ ⟨hi, br_c (fun w => h0 (Int32.not_le.mpr w)) (fun w => h1 (Int32.not_lt.mp w))⟩
theorem ry_fits {post : Int32 → Prop} {t : Nat} {s : rl_S} (T : rl_tx tc fs ss pd) (htc : tc ≤ 16) (ht : t < tc) (R : rl_R mi rc sn s th ya ow dn) (h1 : rl_fit fs ss pd s t → post 1) (h0 : ¬ rl_fit fs ss pd s t → post 0) : wpY_fitsNow post (nI tc, nI bc, nI tip, fs, ss, pd, sn, rc, pa, mi, wk, ins, bn, th, ya, ow, dn) (nI t) := by
  have hi : vp_in (nI t) 16 := vp_in_nI (by omega) (by decide)
  obtain ⟨⟨x, hx, e1⟩, hy, -⟩ := T t ht
  have hix : vp_in (nI x) 64 := vp_in_nI hx (by decide)
  rcases hy with e2 | ⟨y, hy, e2⟩
  · have F := rl_fA T htc ht R hx e1 e2
    unfold wpY_fitsNow
    dsimp only
    rw [nI_clamp (by omega), e1, e2, nI_clamp (by omega)]
    exact ⟨hi, br_c (fun hd => ⟨hi, hix, br_c (fun z => h0 fun w => (F.mp w).2.1 z) (fun hth => ⟨hi, hi, br_f (rl_nm1 (by omega)) ⟨hi, br_t (by decide) (ry_fitJ (by omega) (fun p hp => ry_spendsA (by omega) hx e1 e2 hp) (fun w => h1 (F.mpr ⟨hd, hth, w⟩)) (fun w => h0 fun v => w (F.mp v).2.2))⟩⟩)⟩) (fun hd => h0 fun w => hd (F.mp w).1)⟩
  · have F := rl_fB T htc ht R hx hy e1 e2
    have hiy : vp_in (nI y) 64 := vp_in_nI hy (by decide)
    unfold wpY_fitsNow
    dsimp only
    rw [nI_clamp (by omega), e1, e2, nI_clamp (by omega), nI_clamp (by omega)]
    refine ⟨hi, br_c (fun hd => ⟨hi, hix, br_c (fun z => h0 fun w => (F.mp w).2.1 z) (fun hth => ⟨hi, hi, br_c (fun z => h0 fun w => (F.mp w).2.2.1 ((nI_eq (by omega) (by omega)).mp z)) (fun z => ⟨hi, br_f (nI_pos (by omega)) ⟨hi, hiy, br_c (fun w => h0 fun v => (F.mp v).2.2.2.1 w) (fun w => ?_)⟩⟩)⟩)⟩) (fun hd => h0 fun w => hd (F.mp w).1)⟩
    have z1 : ¬ x = y := fun q => z (congrArg nI q)
    exact ry_fitJ (by omega) (fun p hp => ry_spendsB (by omega) hx hy e1 e2 hp) (fun v => h1 (F.mpr ⟨hd, hth, z1, w, v⟩)) (fun v => h0 fun q => v (F.mp q).2.2.2.2)
theorem ry_co62 {post : Int32 → SY → Prop} {t : Nat} {e : Int32} (ht : t < 16)
    (h1 : 0 < e → post 1 (nI tc, nI bc, nI tip, fs, ss, pd, sn, rc, pa, mi, wk, ins, bn, upd (upd th (2 * t) 1) (2 * t + 1) 1, upd (upd ya (2 * t) (pd t)) (2 * t + 1) e, upd (upd ow (2 * t) (rc t)) (2 * t + 1) (sn t), upd dn t 1))
    (h0 : ¬ 0 < e → post 1 (nI tc, nI bc, nI tip, fs, ss, pd, sn, rc, pa, mi, wk, ins, bn, upd th (2 * t) 1, upd ya (2 * t) (pd t), upd ow (2 * t) (rc t), upd dn t 1)) : wY_carryOut_62 post (nI t) e (nI tc) (nI bc) (nI tip) fs ss pd sn rc pa mi wk ins bn th ya ow dn := by
  have hi : vp_in (nI t) 16 := vp_in_nI ht (by decide)
  unfold wY_carryOut_62
  rw [nI_clamp (by omega), show (2 : Int32) * nI t = nI (2 * t) from pk_mul 2 t, nI_1 (2 * t)]
  refine ⟨hi, hi, ry_bring (by omega) ?_⟩
  refine br_c (fun w => ?_) (fun w => ?_)
  · exact ⟨hi, nm_r (congrArg (upd dn t) rl_n1) (h0 (Int32.not_lt.mpr w))⟩
  · exact ⟨hi, ry_bring (by omega) ⟨hi, nm_r (congrArg (upd dn t) rl_n1) (h1 (Int32.not_le.mp w))⟩⟩
theorem ry_carry {post : Int32 → SY → Prop} {i : Int32} {m : Nat} {s : rl_S} (T : rl_tx tc fs ss pd) (htc : tc ≤ 16) (hi : rl_io tc i) (g : rl_gd tc m s) (R : rl_R mi rc sn s th ya ow dn)
    (h1 : ∀ s', rl_cy fs ss pd s i = some s' → ∀ th ya ow dn : Nat → Int32, rl_R mi rc sn s' th ya ow dn → post 1 (nI tc, nI bc, nI tip, fs, ss, pd, sn, rc, pa, mi, wk, ins, bn, th, ya, ow, dn))
    (h0 : rl_cy fs ss pd s i = none → ∀ th ya ow dn : Nat → Int32, post 0 (nI tc, nI bc, nI tip, fs, ss, pd, sn, rc, pa, mi, wk, ins, bn, th, ya, ow, dn)) : wpY_carryOut post (nI tc, nI bc, nI tip, fs, ss, pd, sn, rc, pa, mi, wk, ins, bn, th, ya, ow, dn) i := by
  rcases hi with e | ⟨t, ht, e⟩
  · subst e
    exact br_f (by decide) (h1 s (rl_cy_m _ _ _ _) th ya ow dn R)
  · subst e
    have hi : vp_in (nI t) 16 := vp_in_nI (by omega) (by decide)
    obtain ⟨⟨x, hx, e1⟩, hy, -⟩ := T t ht
    have hpd := rl_pd T ht
    have hix : vp_in (nI x) 64 := vp_in_nI hx (by decide)
    unfold wpY_carryOut
    dsimp only
    rw [nI_clamp (by omega), e1, nI_clamp (by omega)]
    refine br_t (nI_pos' (by omega)) (ry_fits T htc ht R (fun hf => br_f (by decide) ?_) (fun hf => br_t rfl (h0 (rl_cy_n (by omega) hf) th ya ow dn)))
    have hs := h1 _ (rl_cy_t (by omega) hf)
    rcases hy with e2 | ⟨y, hy, e2⟩
    · have F := (rl_fA T htc ht R hx e1 e2).mp hf
      have es := rl_fA_s R hx e1 e2 F.2.1
      have R1 : rl_R mi rc sn (rl_cl fs ss s.1 t, s.2) (upd th x 0) ya ow dn := by
        rw [rl_cl1 hx e1 e2]
        exact rl_R_d R x
      refine ry_spendsA (by omega) hx e1 e2 ⟨hi, nm_e ⟨hi, hix, nm_r (congrArg (upd th x) rl_n0) ⟨hi, ?_⟩⟩⟩
      rw [e2]
      exact br_t (by decide) (ry_co62 (by omega) (fun w => hs _ _ _ _ (rl_R_p1 hpd.2.2 (by omega) R1 (by rw [es]) w)) (fun w => hs _ _ _ _ (rl_R_p2 T g hf ht (by omega) R1 (by rw [es]) w)))
    · have F := (rl_fB T htc ht R hx hy e1 e2).mp hf
      have es := rl_fB_s R hx hy e1 e2 F.2.1 F.2.2.1 F.2.2.2.1
      have hiy : vp_in (nI y) 64 := vp_in_nI hy (by decide)
      have R1 : rl_R mi rc sn (rl_cl fs ss s.1 t, s.2) (upd (upd th x 0) y 0) ya ow dn := by
        rw [rl_cl2 hx hy e1 e2]
        exact rl_R_d (rl_R_d R x) y
      refine ry_spendsB (by omega) hx hy e1 e2 ⟨hi, nm_e ⟨hi, hix, nm_r (congrArg (upd th x) rl_n0) ⟨hi, ?_⟩⟩⟩
      rw [e2, nI_clamp (by omega)]
      exact br_f (nI_pos (by omega)) ⟨hi, hiy, nm_r (congrArg (upd (upd th x 0) y) rl_n0) (ry_co62 (by omega) (fun w => hs _ _ _ _ (rl_R_p1 hpd.2.2 (by omega) R1 (by rw [es]) w)) (fun w => hs _ _ _ _ (rl_R_p2 T g hf ht (by omega) R1 (by rw [es]) w)))⟩
end
section
/-! the reference's walks: replay, valid, total, choose -/
variable {tc bc tip : Nat} {fs ss pd sn rc pa mi tl bn st br ca fi am wk ins th ya ow dn : Nat → Int32}
theorem rl_st_y {b : Nat} {f k : Int32} {s s1 s2 : rl_S} (h1 : rl_cy fs ss pd (upd s.1 (32 + b) 50, s.2) f = some s1) (h2 : rl_cy fs ss pd s1 k = some s2) : rl_st fs ss pd b f k s = some s2 := by
  unfold rl_st
  rw [h1]
  exact h2
theorem rl_st_n1 {b : Nat} {f k : Int32} {s : rl_S} (h1 : rl_cy fs ss pd (upd s.1 (32 + b) 50, s.2) f = none) : rl_st fs ss pd b f k s = none := by
  unfold rl_st
  rw [h1]
  exact rfl
theorem rl_st_n2 {b : Nat} {f k : Int32} {s s1 : rl_S} (h1 : rl_cy fs ss pd (upd s.1 (32 + b) 50, s.2) f = some s1) (h2 : rl_cy fs ss pd s1 k = none) : rl_st fs ss pd b f k s = none := by
  unfold rl_st
  rw [h1]
  exact h2
/-- the walk along the branch of b has come to i -/
def rl_I (mi rc sn bn br fi ca am : Nat → Int32) (b i : Nat) (th ya ow dn : Nat → Int32) : Prop :=
  (i = 0 ∧ rl_R mi rc sn (fun _ => 0, 0) th ya ow dn) ∨ ∃ q s, rl_Q br b i q ∧ rl_bo fi ca am q = some s ∧ rl_R mi rc sn s th ya ow dn ∧ ∀ j, bt (br q) j = true → bn j = 0
theorem rl_next {b i : Nat} (T : rl_tx tc fs ss pd) (htc : tc ≤ 16) (H : rl_G tc bc fs ss pd pa tl br fi ca am wk ins) (hb : b < bc) (hA : bt (br b) i = true) (hI : rl_I mi rc sn bn br fi ca am b i th ya ow dn) :
    ∃ s, rl_R mi rc sn s th ya ow dn ∧ rl_gd tc i s ∧ rl_io tc (ins (i * 2)) ∧ rl_io tc (ins (i * 2 + 1)) ∧ rl_bo fi ca am i = rl_st fs ss pd i (ins (i * 2)) (ins (i * 2 + 1)) s ∧ ∀ j, bt (br i) j = true → j ≠ i → bn j = 0 := by
  have hib := rl_an_le H.1 b hb i hA
  rcases hI with ⟨e, R⟩ | ⟨q, s, hQ, hs, R, hn⟩
  · subst e
    refine ⟨_, R, rl_gd_0 tc, Or.inl H.2.2.1.1, Or.inl H.2.2.1.2.1, ?_, fun j hj hne => absurd ((rl_an_0 H.1 j).mp hj) hne⟩
    rw [H.2.2.1.2.2]
    show _ = rl_st fs ss pd 0 (ins 0) (ins 1) (fun _ => 0, 0)
    rw [H.2.2.1.1, H.2.2.1.2.1]
    exact (rl_st_y (b := 0) (s := (fun _ => 0, 0)) (rl_cy_m fs ss pd _) (rl_cy_m fs ss pd _)).symm
  · have hq := hQ.1
    have e := rl_Q_par H.1 hb (by omega) hA hQ
    obtain ⟨_, h1, h2, h3⟩ := H.2.2.2 i (by omega) (by omega)
    rw [e, hs] at h3
    refine ⟨s, R, rl_gd_m (rl_gd_bo T htc H q (by omega) s hs) (by omega), h1, h2, h3, fun j hj hne => ?_⟩
    rcases (rl_an_s H.1 (by omega) (by omega) j).mp hj with z | z
    · rw [e] at z
      exact hn j z
    · exact absurd z hne
theorem ry_rep_loop {post : Int32 → SY → Prop} {b : Nat} (T : rl_tx tc fs ss pd) (htc : tc ≤ 16) (hbc : bc ≤ 21) (H : rl_G tc bc fs ss pd pa tl br fi ca am wk ins) (hb : b < bc)
    (h1 : rl_V bn br fi b → ∀ th ya ow dn : Nat → Int32, rl_R mi rc sn (rl_row am b, ca b) th ya ow dn → post 1 (nI tc, nI bc, nI tip, fs, ss, pd, sn, rc, pa, mi, wk, ins, bn, th, ya, ow, dn))
    (h0 : ¬ rl_V bn br fi b → ∀ th ya ow dn : Nat → Int32, post 0 (nI tc, nI bc, nI tip, fs, ss, pd, sn, rc, pa, mi, wk, ins, bn, th, ya, ow, dn)) :
    ∀ (m i n : Nat) (th ya ow dn : Nat → Int32), i + m = b + 1 → m < n → rl_I mi rc sn bn br fi ca am b i th ya ow dn → wY_replay_44 post (nI b) n (nI i) (nI tc) (nI bc) (nI tip) fs ss pd sn rc pa mi wk ins bn th ya ow dn := by
  intro m
  induction m with
  | zero =>
    intro i n th ya ow dn him hn hI
    obtain ⟨n, rfl⟩ : ∃ n', n = n' + 1 := ⟨n - 1, by omega⟩
    have hi : i = b + 1 := by omega
    subst hi
    rcases hI with ⟨h, _⟩ | ⟨q, s, hQ, hs, R, hban⟩
    · omega
    · have e := rl_Q_e H.1 hb hQ
      rw [e] at hs hban
      obtain ⟨hf, e2⟩ := rl_bo_i hs
      rw [e2] at R
      exact br_t (nI_lt (by omega) (by omega)) (h1 ⟨hf, hban⟩ th ya ow dn R)
  | succ m ih =>
    intro i n th ya ow dn him hn hI
    obtain ⟨n, rfl⟩ : ∃ n', n = n' + 1 := ⟨n - 1, by omega⟩
    have hi : vp_in (nI i) 21 := vp_in_nI (by omega) (by decide)
    refine br_f (nI_nlt (by omega) (by omega)) (ry_ob hbc H.1 (by omega) hb (fun hA => br_f (by decide) ?_) (fun hA => br_t rfl ?_))
    · have hno : rl_bo fi ca am i = none → ¬ rl_V bn br fi b := fun z v => v.1 (rl_bo_n.mp (rl_bo_up H b hb i hA z))
      obtain ⟨s, R, g, io1, io2, hst, hban⟩ := rl_next T htc H hb hA hI
      rw [nI_clamp (n := i) (by omega), show nI i * 2 = nI (i * 2) from pk_mul i 2, nI_1 (i * 2), nI_clamp (n := i * 2) (by omega), nI_clamp (n := i * 2 + 1) (by omega), show (32 : Int32) + nI i = nI (32 + i) from nI_add 32 i]
      refine ⟨hi, br_c (fun hbn => ⟨hi, ry_bring (by omega) ⟨vp_in_nI (by omega) (by decide), ?_⟩⟩) (fun hbn => h0 (fun v => hbn (v.2 i hA)) th ya ow dn)⟩
      have R0 : rl_R mi rc sn (upd s.1 (32 + i) 50, s.2) (upd th (32 + i) 1) (upd ya (32 + i) 50) (upd ow (32 + i) (mi i)) dn := rl_R_b R (by decide) (rl_ow_b mi rc sn i).symm
      refine ry_carry T htc io1 (rl_gd_b g) R0 (fun s1 c1 th ya ow dn R1 => br_f (by decide) ⟨vp_in_nI (by omega) (by decide), ?_⟩) (fun c1 th ya ow dn => br_t rfl (h0 (hno (by rw [hst]; exact rl_st_n1 c1)) th ya ow dn))
      refine ry_carry T htc io2 (rl_gd_cy T htc (rl_gd_b g) io1 c1) R1 (fun s2 c2 th ya ow dn R2 => br_f (by decide) ?_) (fun c2 th ya ow dn => br_t rfl (h0 (hno (by rw [hst]; exact rl_st_n2 c1 c2)) th ya ow dn))
      refine nm_r (nI_1 i) (ih (i + 1) n th ya ow dn (by omega) (by omega) (Or.inr ⟨i, s2, rl_Q_y hA, by rw [hst]; exact rl_st_y c1 c2, R2, fun j hj => ?_⟩))
      by_cases e : j = i
      · rw [e]
        exact hbn
      · exact hban j hj e
    · refine nm_r (nI_1 i) (ih (i + 1) n th ya ow dn (by omega) (by omega) ?_)
      rcases hI with ⟨e, _⟩ | ⟨q, s, hQ, hs, R, hban⟩
      · rw [e] at hA
        exact absurd (rl_an_z H.1 b hb) hA
      · exact Or.inr ⟨q, s, rl_Q_n hA hQ, hs, R, hban⟩
theorem ry_rep23 {post : Int32 → SY → Prop} {b : Nat} (hK : ∀ dn : Nat → Int32, (∀ t, t < 16 → dn t = 0) → ∃ n, wY_replay_44 post (nI b) n 0 (nI tc) (nI bc) (nI tip) fs ss pd sn rc pa mi wk ins bn th ya ow dn) : ∀ (m k n : Nat) (dn : Nat → Int32), k + m = 16 → m < n → (∀ t, t < k → dn t = 0) → wY_replay_23 post (nI b) (nI tc) (nI bc) (nI tip) n (nI k) fs ss pd sn rc pa mi wk ins bn th ya ow dn := by
  intro m
  induction m with
  | zero =>
    intro k n dn hk hn h
    obtain ⟨n, rfl⟩ : ∃ n', n = n' + 1 := ⟨n - 1, by omega⟩
    exact br_t (nI_le (a := 16) (by omega) (by omega)) (hK dn (fun t ht => h t (by omega)))
  | succ m ih =>
    intro k n dn hk hn h
    obtain ⟨n, rfl⟩ : ∃ n', n = n' + 1 := ⟨n - 1, by omega⟩
    refine br_f (nI_ge (b := 16) (by omega) (by decide)) ⟨vp_in_nI (by omega) (by decide), nm_r (e' := upd dn k 0) (by rw [nI_clamp (by omega), rl_n0]) (nm_r (nI_1 k) (ih (k + 1) n (upd dn k 0) (by omega) (by omega) (fun t ht => ?_)))⟩
    by_cases e : t = k
    · rw [e]
      exact pk_us
    · rw [pk_un e]
      exact h t (by omega)
theorem ry_rep2 {post : Int32 → SY → Prop} {b : Nat} (hK : ∀ th : Nat → Int32, (∀ c, c < 64 → th c = 0) → ∃ n, wY_replay_23 post (nI b) (nI tc) (nI bc) (nI tip) n 0 fs ss pd sn rc pa mi wk ins bn th ya ow dn) : ∀ (m k n : Nat) (th : Nat → Int32), k + m = 64 → m < n → (∀ t, t < k → th t = 0) → wY_replay_2 post (nI b) (nI tc) (nI bc) (nI tip) n (nI k) fs ss pd sn rc pa mi wk ins bn th ya ow dn := by
  intro m
  induction m with
  | zero =>
    intro k n th hk hn h
    obtain ⟨n, rfl⟩ : ∃ n', n = n' + 1 := ⟨n - 1, by omega⟩
    exact br_t (nI_le (a := 64) (by omega) (by omega)) (hK th (fun t ht => h t (by omega)))
  | succ m ih =>
    intro k n th hk hn h
    obtain ⟨n, rfl⟩ : ∃ n', n = n' + 1 := ⟨n - 1, by omega⟩
    refine br_f (nI_ge (b := 64) (by omega) (by decide)) ⟨vp_in_nI (by omega) (by decide), nm_r (e' := upd th k 0) (by rw [nI_clamp (by omega), rl_n0]) (nm_r (nI_1 k) (ih (k + 1) n (upd th k 0) (by omega) (by omega) (fun t ht => ?_)))⟩
    by_cases e : t = k
    · rw [e]
      exact pk_us
    · rw [pk_un e]
      exact h t (by omega)
theorem ry_replay {post : Int32 → SY → Prop} {b : Nat} (T : rl_tx tc fs ss pd) (htc : tc ≤ 16) (hbc : bc ≤ 21) (H : rl_G tc bc fs ss pd pa tl br fi ca am wk ins) (hb : b < bc)
    (h1 : rl_V bn br fi b → ∀ th ya ow dn : Nat → Int32, rl_R mi rc sn (rl_row am b, ca b) th ya ow dn → post 1 (nI tc, nI bc, nI tip, fs, ss, pd, sn, rc, pa, mi, wk, ins, bn, th, ya, ow, dn))
    (h0 : ¬ rl_V bn br fi b → ∀ th ya ow dn : Nat → Int32, post 0 (nI tc, nI bc, nI tip, fs, ss, pd, sn, rc, pa, mi, wk, ins, bn, th, ya, ow, dn)) : wpY_replay post (nI tc, nI bc, nI tip, fs, ss, pd, sn, rc, pa, mi, wk, ins, bn, th, ya, ow, dn) (nI b) :=
  ⟨65, ry_rep2 (fun th hth => ⟨17, ry_rep23 (fun dn hdn => ⟨b + 2, ry_rep_loop T htc hbc H hb h1 h0 (b + 1) 0 (b + 2) th ya ow dn (by omega) (by omega) (Or.inl ⟨rfl, rl_R_0 ya ow hth hdn⟩)⟩) 16 0 17 dn rfl (by omega) (fun t ht => absurd ht (Nat.not_lt_zero t))⟩) 64 0 65 th rfl (by omega) (fun t ht => absurd ht (Nat.not_lt_zero t))⟩
theorem ry_valid {post : Int32 → SY → Prop} {b : Nat} (T : rl_tx tc fs ss pd) (htc : tc ≤ 16) (hbc : bc ≤ 21) (H : rl_G tc bc fs ss pd pa tl br fi ca am wk ins) (hb : b < bc)
    (h1 : rl_V bn br fi b → ∀ th ya ow dn : Nat → Int32, post 1 (nI tc, nI bc, nI tip, fs, ss, pd, sn, rc, pa, mi, wk, ins, bn, th, ya, ow, dn))
    (h0 : ¬ rl_V bn br fi b → ∀ th ya ow dn : Nat → Int32, post 0 (nI tc, nI bc, nI tip, fs, ss, pd, sn, rc, pa, mi, wk, ins, bn, th, ya, ow, dn)) : wpY_valid post (nI tc, nI bc, nI tip, fs, ss, pd, sn, rc, pa, mi, wk, ins, bn, th, ya, ow, dn) (nI b) := by
  unfold wpY_valid
  refine ry_isBlock_y hbc hb (br_f (by decide) (ry_replay T htc hbc H hb (fun hV th ya ow dn _ => ?_) (fun hV th ya ow dn => ?_)))
  · exact br_f (by decide) (h1 hV th ya ow dn)
  · exact br_t rfl (h0 hV th ya ow dn)
theorem ry_total_loop {post : Int32 → Prop} {b : Nat} (hbc : bc ≤ 21) (H : rl_G tc bc fs ss pd pa tl br fi ca am wk ins) (hb : b < bc) (h : post (tl b)) :
    ∀ (m i n : Nat) (x : Int32), i + m = b + 1 → m < n → ((i = 0 ∧ x = 0) ∨ ∃ q, rl_Q br b i q ∧ x = tl q) → wY_total_15 post (nI b) (nI tc) (nI bc) (nI tip) fs ss pd sn rc pa mi wk ins bn th ya ow dn n x (nI i) := by
  intro m
  induction m with
  | zero =>
    intro i n x him hn hI
    obtain ⟨n, rfl⟩ : ∃ n', n = n' + 1 := ⟨n - 1, by omega⟩
    have hi : i = b + 1 := by omega
    subst hi
    rcases hI with ⟨z, _⟩ | ⟨q, hQ, e⟩
    · omega
    · rw [rl_Q_e H.1 hb hQ] at e
      rw [e]
      exact br_t (nI_lt (by omega) (by omega)) h
  | succ m ih =>
    intro i n x him hn hI
    obtain ⟨n, rfl⟩ : ∃ n', n = n' + 1 := ⟨n - 1, by omega⟩
    refine br_f (nI_nlt (by omega) (by omega)) (ry_ob hbc H.1 (by omega) hb (fun hA => br_f (by decide) ⟨vp_in_nI (by omega) (by decide), ?_⟩) (fun hA => br_t rfl ?_))
    · have e : x + wk i = tl i := by
        rcases hI with ⟨z, e⟩ | ⟨q, hQ, e⟩
        · rw [z, e, H.2.1.1, H.2.1.2]
          rfl
        · have hq := hQ.1
          have hib := rl_an_le H.1 b hb i hA
          rw [(H.2.2.2 i (by omega) (by omega)).1, rl_Q_par H.1 hb (by omega) hA hQ, e]
      exact nm_r (e' := tl i) (by rw [nI_clamp (by omega), e]) (nm_r (nI_1 i) (ih (i + 1) n (tl i) (by omega) (by omega) (Or.inr ⟨i, rl_Q_y hA, rfl⟩)))
    · refine nm_r (nI_1 i) (ih (i + 1) n x (by omega) (by omega) ?_)
      rcases hI with ⟨z, _⟩ | ⟨q, hQ, e⟩
      · rw [z] at hA
        exact absurd (rl_an_z H.1 b hb) hA
      · exact Or.inr ⟨q, rl_Q_n hA hQ, e⟩
theorem ry_total {post : Int32 → Prop} {b : Nat} (hbc : bc ≤ 21) (H : rl_G tc bc fs ss pd pa tl br fi ca am wk ins) (hb : b < bc) (h : post (tl b)) : wpY_total post (nI tc, nI bc, nI tip, fs, ss, pd, sn, rc, pa, mi, wk, ins, bn, th, ya, ow, dn) (nI b) := by
  unfold wpY_total
  exact ry_isBlock_y hbc hb (br_f (by decide) ⟨b + 2, ry_total_loop hbc H hb h (b + 1) 0 (b + 2) 0 (by omega) (by omega) (Or.inl ⟨rfl, rfl⟩)⟩)
theorem ry_choose_loop {post : SY → Prop} (T : rl_tx tc fs ss pd) (htc : tc ≤ 16) (hbc : bc ≤ 21) (H : rl_G tc bc fs ss pd pa tl br fi ca am wk ins) (S : rl_sd bc bn br fi st) (ht : tip < bc)
    (hp : ∀ th ya ow dn : Nat → Int32, post (nI tc, nI bc, nI (rl_tp st tl bc tip), fs, ss, pd, sn, rc, pa, mi, wk, ins, bn, th, ya, ow, dn)) :
    ∀ (m i n : Nat) (th ya ow dn : Nat → Int32), i + m = bc → m < n → wY_choose_6 post n (tl (rl_cb st tl i)) (nI (rl_cb st tl i)) (nI i) (nI tc) (nI bc) (nI tip) fs ss pd sn rc pa mi wk ins bn th ya ow dn := by
  intro m
  induction m with
  | zero =>
    intro i n th ya ow dn him hn
    obtain ⟨n, rfl⟩ : ∃ n', n = n' + 1 := ⟨n - 1, by omega⟩
    have hi : i = bc := by omega
    subst hi
    refine br_t (nI_le (by omega) (by omega)) (ry_valid T htc hbc H ht (fun hV th ya ow dn => br_f (by decide) (ry_total hbc H ht (br_c (fun w => ?_) (fun w => ?_)))) (fun hV th ya ow dn => br_t rfl ?_))
    · have e : rl_tp st tl i tip = tip := if_neg (fun z => z.elim ((rl_sd_V S ht).mpr hV) (fun z => absurd w (Int32.not_le.mpr z)))
      have h := hp th ya ow dn
      rw [e] at h
      exact h
    · have e : rl_tp st tl i tip = rl_cb st tl i := if_pos (Or.inr (Int32.not_le.mp w))
      have h := hp th ya ow dn
      rw [e] at h
      exact h
    · have e : rl_tp st tl i tip = rl_cb st tl i := if_pos (Or.inl (Classical.byContradiction fun z => hV ((rl_sd_V S ht).mp z)))
      have h := hp th ya ow dn
      rw [e] at h
      exact h
  | succ m ih =>
    intro i n th ya ow dn him hn
    obtain ⟨n, rfl⟩ : ∃ n', n = n' + 1 := ⟨n - 1, by omega⟩
    have hib : i < bc := by omega
    refine br_f (nI_ge (by omega) (by omega)) (ry_valid T htc hbc H hib (fun hV th ya ow dn => br_f (by decide) (ry_total hbc H hib (br_c (fun w => nm_r (nI_1 i) ?_) (fun w => ry_total hbc H hib (nm_r (nI_1 i) ?_))))) (fun hV th ya ow dn => br_t rfl (nm_r (nI_1 i) ?_)))
    · have h := ih (i + 1) n th ya ow dn (by omega) (by omega)
      rw [rl_cb_n2 (Int32.not_lt.mpr w)] at h
      exact h
    · have h := ih (i + 1) n th ya ow dn (by omega) (by omega)
      rw [rl_cb_y ((rl_sd_V S hib).mpr hV) (Int32.not_le.mp w)] at h
      exact h
    · have h := ih (i + 1) n th ya ow dn (by omega) (by omega)
      rw [rl_cb_n1 (Classical.byContradiction fun z => hV ((rl_sd_V S hib).mp z))] at h
      exact h
theorem ry_choose {post : SY → Prop} (T : rl_tx tc fs ss pd) (htc : tc ≤ 16) (hbc : bc ≤ 21) (H : rl_G tc bc fs ss pd pa tl br fi ca am wk ins) (S : rl_sd bc bn br fi st) (ht : tip < bc)
    (hp : ∀ th ya ow dn : Nat → Int32, post (nI tc, nI bc, nI (rl_tp st tl bc tip), fs, ss, pd, sn, rc, pa, mi, wk, ins, bn, th, ya, ow, dn)) : wpY_choose post (nI tc, nI bc, nI tip, fs, ss, pd, sn, rc, pa, mi, wk, ins, bn, th, ya, ow, dn) := by
  have h := ry_choose_loop T htc hbc H S ht hp bc 0 (bc + 1) th ya ow dn (by omega) (by omega)
  rw [show tl (rl_cb st tl 0) = 0 from H.2.1.1] at h
  exact ⟨bc + 1, h⟩
end
section
/-! the component's own walks: amountBehind, setAmountBehind, isCarried, isOnBranch, spendable, fitsBehind, carryOut -/
variable {tc bc tip : Nat} {fs ss pd sn rc pa mi tl bn st br ca fi am wk ins th ya ow dn : Nat → Int32}
theorem rx_ix (b c : Nat) : nI b * 64 + nI c = nI (b * 64 + c) := by
  rw [show (64 : Int32) = nI 64 from rfl, pk_mul, nI_add]
theorem rx_ab {post : Int32 → Prop} {b c : Nat} (hb : b < 21) (hc : c < 64) (h : post (rl_row am b c)) : wpX_amountBehind post (nI tc, nI bc, nI tip, fs, ss, pd, sn, rc, pa, mi, tl, bn, st, br, ca, fi, am) (nI b) (nI c) := by
  unfold wpX_amountBehind
  dsimp only
  rw [rx_ix, nI_clamp (by omega)]
  rw [rl_row_lt hc] at h
  exact ⟨vp_in_nI (by omega) (by decide), h⟩
theorem rx_set {post : SX → Prop} {b c : Nat} {v : Int32} (hb : b < 21) (hc : c < 64) (h : post (nI tc, nI bc, nI tip, fs, ss, pd, sn, rc, pa, mi, tl, bn, st, br, ca, fi, upd am (b * 64 + c) v)) : wpX_setAmountBehind post (nI tc, nI bc, nI tip, fs, ss, pd, sn, rc, pa, mi, tl, bn, st, br, ca, fi, am) (nI b) (nI c) v := by
  unfold wpX_setAmountBehind
  dsimp only
  rw [rx_ix, nI_clamp (by omega)]
  exact ⟨vp_in_nI (by omega) (by decide), nm_e h⟩
theorem rx_bit {x : Int32} {j : Nat} (hj : j < 32) : ((x >>> (nI j &&& 31)) &&& 1) = 1 ↔ bt x j = true := by
  rw [rl_bit x hj]
  by_cases h : bt x j = true
  · rw [if_pos h]
    exact ⟨fun _ => h, fun _ => rfl⟩
  · rw [if_neg h]
    exact ⟨fun z => absurd z (by decide), fun z => absurd z h⟩
theorem rx_carried {post : Int32 → Prop} {t b : Nat} (ht : t < 32) (hb : b < 21) (h1 : bt (ca b) t = true → post 1) (h0 : ¬ bt (ca b) t = true → post 0) : wpX_isCarried post (nI tc, nI bc, nI tip, fs, ss, pd, sn, rc, pa, mi, tl, bn, st, br, ca, fi, am) (nI t) (nI b) := by
  unfold wpX_isCarried
  dsimp only
  rw [nI_clamp (by omega), rx_bit ht]
  exact ⟨vp_in_nI hb (by decide), br_c h1 h0⟩
theorem rx_ob {post : Int32 → Prop} {j b : Nat} (hj : j < 32) (hb : b < 21) (h1 : bt (br b) j = true → post 1) (h0 : ¬ bt (br b) j = true → post 0) : wpX_isOnBranch post (nI tc, nI bc, nI tip, fs, ss, pd, sn, rc, pa, mi, tl, bn, st, br, ca, fi, am) (nI j) (nI b) := by
  unfold wpX_isOnBranch
  dsimp only
  rw [nI_clamp (by omega), rx_bit hj]
  exact ⟨vp_in_nI hb (by decide), br_c h1 h0⟩
theorem rx_isBlock_y {post : Int32 → Prop} {b : Nat} (hbc : bc ≤ 21) (hb : b < bc) (h : post 1) : wpX_isBlock post (nI tc, nI bc, nI tip, fs, ss, pd, sn, rc, pa, mi, tl, bn, st, br, ca, fi, am) (nI b) :=
  br_f (nI_pos (by omega)) (br_f (nI_ge hb (by omega)) h)
theorem rx_isBlock_n {post : Int32 → Prop} {x : Int32} (hx : x < 0 ∨ nI bc ≤ x) (h : post 0) : wpX_isBlock post (nI tc, nI bc, nI tip, fs, ss, pd, sn, rc, pa, mi, tl, bn, st, br, ca, fi, am) x := by
  by_cases h0 : x < 0
  · exact br_t h0 h
  · exact br_f h0 (br_t (hx.resolve_left h0) h)
theorem rx_isTx_y {post : Int32 → Prop} {b : Nat} (hbc : tc ≤ 21) (hb : b < tc) (h : post 1) : wpX_isTransaction post (nI tc, nI bc, nI tip, fs, ss, pd, sn, rc, pa, mi, tl, bn, st, br, ca, fi, am) (nI b) :=
  br_f (nI_pos (by omega)) (br_f (nI_ge hb (by omega)) h)
theorem rx_isTx_n {post : Int32 → Prop} {x : Int32} (hx : x < 0 ∨ nI tc ≤ x) (h : post 0) : wpX_isTransaction post (nI tc, nI bc, nI tip, fs, ss, pd, sn, rc, pa, mi, tl, bn, st, br, ca, fi, am) x := by
  by_cases h0 : x < 0
  · exact br_t h0 h
  · exact br_f h0 (br_t (hx.resolve_left h0) h)
theorem rx_isCoin_y {post : Int32 → Prop} {c : Nat} (hc : c < 64) (h : post 1) : wpX_isCoin post (nI tc, nI bc, nI tip, fs, ss, pd, sn, rc, pa, mi, tl, bn, st, br, ca, fi, am) (nI c) :=
  br_f (nI_pos (by omega)) (br_f (nI_ge (b := 64) hc (by omega)) h)
theorem rx_isCoin_n {post : Int32 → Prop} {x : Int32} (hx : x < 0 ∨ nI 64 ≤ x) (h : post 0) : wpX_isCoin post (nI tc, nI bc, nI tip, fs, ss, pd, sn, rc, pa, mi, tl, bn, st, br, ca, fi, am) x := by
  by_cases h0 : x < 0
  · exact br_t h0 h
  · exact br_f h0 (br_t (hx.resolve_left h0) h)
theorem rx_isOwner_y {post : Int32 → Prop} {c : Nat} (hc : c < 8) (h : post 1) : wpX_isOwner post (nI tc, nI bc, nI tip, fs, ss, pd, sn, rc, pa, mi, tl, bn, st, br, ca, fi, am) (nI c) :=
  br_f (nI_pos (by omega)) (br_f (nI_ge (b := 8) hc (by omega)) h)
theorem rx_isOwner_n {post : Int32 → Prop} {x : Int32} (hx : x < 0 ∨ nI 8 ≤ x) (h : post 0) : wpX_isOwner post (nI tc, nI bc, nI tip, fs, ss, pd, sn, rc, pa, mi, tl, bn, st, br, ca, fi, am) x := by
  by_cases h0 : x < 0
  · exact br_t h0 h
  · exact br_f h0 (br_t (hx.resolve_left h0) h)
theorem rx_sp {post : Int32 → Prop} {t b : Nat} (T : rl_tx tc fs ss pd) (htc : tc ≤ 16) (ht : t < tc) (hb : b < 21) (h : post (rl_sp fs ss (rl_row am b) t)) : wpX_spendable post (nI tc, nI bc, nI tip, fs, ss, pd, sn, rc, pa, mi, tl, bn, st, br, ca, fi, am) (nI b) (nI t) := by
  have hi : vp_in (nI t) 16 := vp_in_nI (by omega) (by decide)
  obtain ⟨⟨x, hx, e1⟩, hy, -⟩ := T t ht
  unfold wpX_spendable
  dsimp only
  rw [nI_clamp (by omega)]
  rcases hy with e2 | ⟨y, hy, e2⟩
  · rw [rl_sp1 hx e1 e2] at h
    exact ⟨hi, nm_r e1 ⟨hi, nm_r e2 (rx_ab hb hx (br_t rfl h))⟩⟩
  · refine ⟨hi, nm_r e1 ⟨hi, nm_r e2 (rx_ab hb hx (br_f (rl_nm1 (by omega)) (rx_ab hb hy ?_)))⟩⟩
    by_cases z1 : x = y
    · rw [rl_sp0 hx hy e1 e2 (Or.inl z1)] at h
      exact br_t (congrArg nI z1) h
    · refine br_f (fun z => z1 ((nI_eq (by omega) (by omega)).mp z)) ?_
      by_cases z2 : rl_row am b x = 0
      · rw [rl_sp0 hx hy e1 e2 (Or.inr (Or.inl z2))] at h
        exact br_t z2 h
      · refine br_f z2 ?_
        by_cases z3 : rl_row am b y = 0
        · rw [rl_sp0 hx hy e1 e2 (Or.inr (Or.inr z3))] at h
          exact br_t z3 h
        · rw [rl_sp2 hx hy e1 e2 z1 z2 z3] at h
          exact br_f z3 h
theorem rx_fits {post : Int32 → Prop} {t b : Nat} (T : rl_tx tc fs ss pd) (htc : tc ≤ 16) (ht : t < tc) (hb : b < 21) (h1 : rl_fit fs ss pd (rl_row am b, ca b) t → post 1) (h0 : ¬ rl_fit fs ss pd (rl_row am b, ca b) t → post 0) : wpX_fitsBehind post (nI tc, nI bc, nI tip, fs, ss, pd, sn, rc, pa, mi, tl, bn, st, br, ca, fi, am) (nI b) (nI t) := by
  have hi : vp_in (nI t) 16 := vp_in_nI (by omega) (by decide)
  unfold wpX_fitsBehind
  dsimp only
  rw [nI_clamp (by omega)]
  refine rx_carried (by omega) hb (fun z => ?_) (fun z => ?_)
  · exact br_f (by decide) (h0 fun w => absurd (z.symm.trans w.1) (by decide))
  · refine br_t rfl (rx_sp T htc ht hb ⟨hi, ?_⟩)
    exact br_c (fun w => h0 fun v => absurd v.2 (Int32.not_le.mpr w)) (fun w => h1 ⟨Bool.eq_false_iff.mpr z, Int32.not_lt.mp w⟩)
end
section
/-! the component's carryOut and buildState -/
variable {tc bc tip : Nat} {fs ss pd sn rc pa mi tl bn st br ca fi am wk ins th ya ow dn : Nat → Int32}
theorem rx_put {t b : Nat} (ht : t < 16) {am1 : Nat → Int32} (hc : rl_row am1 b = rl_cl fs ss (rl_row am b) t) {e : Int32} (he : e = rl_sp fs ss (rl_row am b) t - pd t) : rl_put fs ss pd (rl_row am b, ca b) t = (rl_row (upd (upd am1 (b * 64 + 2 * t) (pd t)) (b * 64 + (2 * t + 1)) e) b, upd ca b (ca b ||| ((1 : Int32) <<< (nI t &&& 31))) b) := by
  rw [rl_row_u (by omega), rl_row_u (by omega), hc, pk_us, he]
  exact rfl
theorem rx_co66 {post : Int32 → SX → Prop} {t b : Nat} {e : Int32} (ht : t < 16) (hb : b < 21) (h : post 1 (nI tc, nI bc, nI tip, fs, ss, pd, sn, rc, pa, mi, tl, bn, st, br, upd ca b (ca b ||| ((1 : Int32) <<< (nI t &&& 31))), fi, upd (upd am (b * 64 + 2 * t) (pd t)) (b * 64 + (2 * t + 1)) e)) : wX_carryOut_66 post (nI b) (nI t) e (nI tc) (nI bc) (nI tip) fs ss pd sn rc pa mi tl bn st br ca fi am := by
  have hi : vp_in (nI t) 16 := vp_in_nI ht (by decide)
  have hib : vp_in (nI b) 21 := vp_in_nI hb (by decide)
  unfold wX_carryOut_66
  rw [nI_clamp (n := t) (by omega), nI_clamp (n := b) (by omega), show (2 : Int32) * nI t = nI (2 * t) from pk_mul 2 t, nI_1 (2 * t)]
  exact ⟨hi, rx_set hb (by omega) (rx_set hb (by omega) ⟨hib, hib, nm_e h⟩)⟩
theorem rx_carry {post : Int32 → SX → Prop} {i : Int32} {b : Nat} (T : rl_tx tc fs ss pd) (htc : tc ≤ 16) (hi : rl_io tc i) (hb : b < 21)
    (h1 : ∀ am' ca' : Nat → Int32, rl_cy fs ss pd (rl_row am b, ca b) i = some (rl_row am' b, ca' b) → (∀ k, k ≠ b → rl_row am' k = rl_row am k ∧ ca' k = ca k) → post 1 (nI tc, nI bc, nI tip, fs, ss, pd, sn, rc, pa, mi, tl, bn, st, br, ca', fi, am'))
    (h0 : rl_cy fs ss pd (rl_row am b, ca b) i = none → post 0 (nI tc, nI bc, nI tip, fs, ss, pd, sn, rc, pa, mi, tl, bn, st, br, ca, fi, am)) : wpX_carryOut post (nI tc, nI bc, nI tip, fs, ss, pd, sn, rc, pa, mi, tl, bn, st, br, ca, fi, am) (nI b) i := by
  rcases hi with e | ⟨t, ht, e⟩
  · subst e
    exact br_t rfl (h1 am ca (rl_cy_m _ _ _ _) (fun k _ => ⟨rfl, rfl⟩))
  · subst e
    have hi : vp_in (nI t) 16 := vp_in_nI (by omega) (by decide)
    obtain ⟨⟨x, hx, e1⟩, hy, -⟩ := T t ht
    unfold wpX_carryOut
    dsimp only
    rw [nI_clamp (n := t) (by omega), e1]
    refine br_f (rl_nm1 (by omega)) (rx_fits T htc ht hb (fun hf => br_f (by decide) ?_) (fun hf => br_t rfl (h0 (rl_cy_n (by omega) hf))))
    refine rx_sp T htc ht hb ⟨hi, nm_e ⟨hi, rx_set hb hx ⟨hi, ?_⟩⟩⟩
    rcases hy with e2 | ⟨y, hy, e2⟩
    · have hc : rl_row (upd am (b * 64 + x) 0) b = rl_cl fs ss (rl_row am b) t := by rw [rl_row_u hx, rl_cl1 hx e1 e2]
      refine br_t e2 (rx_co66 (by omega) hb (h1 _ _ ((rl_cy_t (by omega) hf).trans (congrArg some (rx_put (by omega) hc rfl))) (fun k hk => ⟨?_, pk_un hk⟩)))
      rw [rl_row_o (by omega) hk, rl_row_o (by omega) hk, rl_row_o hx hk]
    · have hc : rl_row (upd (upd am (b * 64 + x) 0) (b * 64 + y) 0) b = rl_cl fs ss (rl_row am b) t := by rw [rl_row_u hy, rl_row_u hx, rl_cl2 hx hy e1 e2]
      dsimp only
      rw [e2]
      refine br_f (rl_nm1 (by omega)) ⟨hi, rx_set hb hy (rx_co66 (by omega) hb (h1 _ _ ((rl_cy_t (by omega) hf).trans (congrArg some (rx_put (by omega) hc rfl))) (fun k hk => ⟨?_, pk_un hk⟩)))⟩
      rw [rl_row_o (by omega) hk, rl_row_o (by omega) hk, rl_row_o hy hk, rl_row_o hx hk]
theorem rx_build_loop {post : SX → Prop} {b p : Nat} {f g : Int32} (T : rl_tx tc fs ss pd) (htc : tc ≤ 16) (hb : b < 21) (hp : p < b) (hf : rl_io tc f) (hg : rl_io tc g)
    (h : ∀ am' ca' fi' : Nat → Int32, (∀ k, k ≠ b → rl_row am' k = rl_row am k ∧ ca' k = ca k ∧ fi' k = fi k) → rl_bo fi' ca' am' b = (rl_bo fi ca am p).bind (rl_st fs ss pd b f g) → post (nI tc, nI bc, nI tip, fs, ss, pd, sn, rc, pa, mi, tl, bn, st, br, ca', fi', am')) :
    ∀ m c n : Nat, c + m = 64 → m < n → wX_buildState_11 post (nI b) f g (nI p) (nI tc) (nI bc) (nI tip) n (nI c) fs ss pd sn rc pa mi tl bn st br ca fi (rl_cp am b p c) := by
  have hib : vp_in (nI b) 21 := vp_in_nI hb (by decide)
  have hip : vp_in (nI p) 21 := vp_in_nI (by omega) (by decide)
  intro m
  induction m with
  | zero =>
    intro c n hc hn
    obtain ⟨n, rfl⟩ : ∃ n', n = n' + 1 := ⟨n - 1, by omega⟩
    have e : c = 64 := by omega
    subst e
    refine br_t (nI_le (a := 64) (by omega) (by omega)) ?_
    rw [nI_clamp (n := b) (by omega), nI_clamp (n := p) (by omega), show (32 : Int32) + nI b = nI (32 + b) from nI_add 32 b]
    refine ⟨hip, hib, nm_e (rx_set hb (by omega) ⟨hip, ?_⟩)⟩
    generalize hm2 : upd (rl_cp am b p 64) (b * 64 + (32 + b)) 50 = am2
    generalize hc2 : upd ca b (ca p) = ca2
    have E1 : rl_row am2 b = upd (rl_row am p) (32 + b) 50 := by rw [← hm2, rl_row_u (by omega), rl_cp_b]
    have E2 : ca2 b = ca p := by rw [← hc2, pk_us]
    have O : ∀ k, k ≠ b → rl_row am2 k = rl_row am k ∧ ca2 k = ca k := fun k hk => by rw [← hm2, ← hc2, rl_row_o (by omega) hk, rl_cp_o am p hk, pk_un hk]; exact ⟨rfl, rfl⟩
    have U : ∀ (v : Int32) (k : Nat), k ≠ b → upd fi b v k = fi k := fun v k hk => pk_un hk
    have N0 : ∀ am' ca' : Nat → Int32, rl_bo (upd fi b 0) ca' am' b = none := fun am' ca' => rl_bo_n.mpr pk_us
    have N1 : ∀ am' ca' : Nat → Int32, rl_bo (upd fi b 1) ca' am' b = some (rl_row am' b, ca' b) := fun am' ca' => rl_bo_y (by rw [pk_us]; decide)
    refine br_c (fun z => ⟨hib, nm_r (congrArg (upd fi b) rl_n0) (h am2 ca2 _ (fun k hk => ⟨(O k hk).1, (O k hk).2, U 0 k hk⟩) ?_)⟩) (fun z => rx_carry T htc hf hb (fun am3 ca3 c1 o1 => br_f (by decide) (rx_carry T htc hg hb (fun am4 ca4 c2 o2 => br_f (by decide) ⟨hib, nm_r (congrArg (upd fi b) rl_n1) (h am4 ca4 _ (fun k hk => ⟨(o2 k hk).1.trans ((o1 k hk).1.trans (O k hk).1), (o2 k hk).2.trans ((o1 k hk).2.trans (O k hk).2), U 1 k hk⟩) ?_)⟩) (fun c2 => br_t rfl ⟨hib, nm_r (congrArg (upd fi b) rl_n0) (h am3 ca3 _ (fun k hk => ⟨(o1 k hk).1.trans (O k hk).1, (o1 k hk).2.trans (O k hk).2, U 0 k hk⟩) ?_)⟩))) (fun c1 => br_t rfl ⟨hib, nm_r (congrArg (upd fi b) rl_n0) (h am2 ca2 _ (fun k hk => ⟨(O k hk).1, (O k hk).2, U 0 k hk⟩) ?_)⟩))
    · rw [N0, rl_bo_n.mpr z]
      exact rfl
    · rw [E1, E2] at c1
      rw [N1, rl_bo_y z]
      exact (rl_st_y (s := (rl_row am p, ca p)) c1 c2).symm
    · rw [E1, E2] at c1
      rw [N0, rl_bo_y z]
      exact (rl_st_n2 (s := (rl_row am p, ca p)) c1 c2).symm
    · rw [E1, E2] at c1
      rw [N0, rl_bo_y z]
      exact (rl_st_n1 (s := (rl_row am p, ca p)) c1).symm
  | succ m ih =>
    intro c n hc hn
    obtain ⟨n, rfl⟩ : ∃ n', n = n' + 1 := ⟨n - 1, by omega⟩
    refine br_f (nI_ge (b := 64) (by omega) (by decide)) ?_
    rw [rx_ix p c, rx_ix b c, nI_clamp (n := p * 64 + c) (by omega), nI_clamp (n := b * 64 + c) (by omega)]
    exact ⟨vp_in_nI (by omega) (by decide), vp_in_nI (by omega) (by decide), nm_r (e' := rl_cp am b p (c + 1)) (by rw [rl_cp_r am hp (by omega), rl_cp_s]) (nm_r (nI_1 c) (ih (c + 1) n (by omega) (by omega)))⟩
theorem rx_build {post : SX → Prop} {b p : Nat} {f g : Int32} (T : rl_tx tc fs ss pd) (htc : tc ≤ 16) (hb : b < 21) (hp : p < b) (hpa : pa b = nI p) (hf : rl_io tc f) (hg : rl_io tc g)
    (h : ∀ am' ca' fi' : Nat → Int32, (∀ k, k ≠ b → rl_row am' k = rl_row am k ∧ ca' k = ca k ∧ fi' k = fi k) → rl_bo fi' ca' am' b = (rl_bo fi ca am p).bind (rl_st fs ss pd b f g) → post (nI tc, nI bc, nI tip, fs, ss, pd, sn, rc, pa, mi, tl, bn, st, br, ca', fi', am')) : wpX_buildState post (nI tc, nI bc, nI tip, fs, ss, pd, sn, rc, pa, mi, tl, bn, st, br, ca, fi, am) (nI b) f g := by
  have hib : vp_in (nI b) 21 := vp_in_nI hb (by decide)
  have hl := rx_build_loop (post := post) (bc := bc) (tip := tip) (pa := pa) (mi := mi) T htc hb hp hf hg h 64 0 65 (by omega) (by omega)
  rw [rl_cp_0] at hl
  exact ⟨hib, nm_r (by rw [nI_clamp (by omega), hpa]) ⟨65, hl⟩⟩
end
section
/-! the component's chooseTip -/
variable {tc bc tip : Nat} {fs ss pd sn rc pa mi tl bn st br ca fi am wk ins th ya ow dn : Nat → Int32}
theorem rx_ct63 {post : SX → Prop} (hbc : bc ≤ 21) (h0 : 0 < bc) (hs : st 0 ≠ 0) (ht : tip < bc) (h : post (nI tc, nI bc, nI (rl_tp st tl bc tip), fs, ss, pd, sn, rc, pa, mi, tl, bn, st, br, ca, fi, am)) :
    ∀ m i n : Nat, i + m = bc → m < n → wX_chooseTip_63 post (nI tc) (nI bc) (nI tip) fs ss pd sn rc pa mi tl bn st br ca fi am n (nI (rl_cb st tl i)) (nI i) := by
  have hit : vp_in (nI tip) 21 := vp_in_nI (by omega) (by decide)
  intro m
  induction m with
  | zero =>
    intro i n him hn
    obtain ⟨n, rfl⟩ : ∃ n', n = n' + 1 := ⟨n - 1, by omega⟩
    have e : i = bc := by omega
    have hc := (rl_cb_ok tl hs i).2
    subst e
    refine br_t (nI_le (by omega) (by omega)) ?_
    rw [nI_clamp (n := tip) (by omega), nI_clamp (n := rl_cb st tl i) (by omega)]
    refine ⟨hit, br_c (fun z => ?_) (fun z => ⟨vp_in_nI (by omega) (by decide), hit, br_c (fun w => ?_) (fun w => ?_)⟩)⟩
    · have e : rl_tp st tl i tip = rl_cb st tl i := if_pos (Or.inl z)
      rw [e] at h
      exact h
    · have e : rl_tp st tl i tip = tip := if_neg (fun v => v.elim z (fun v => absurd w (Int32.not_le.mpr v)))
      rw [e] at h
      exact h
    · have e : rl_tp st tl i tip = rl_cb st tl i := if_pos (Or.inr (Int32.not_le.mp w))
      rw [e] at h
      exact h
  | succ m ih =>
    intro i n him hn
    obtain ⟨n, rfl⟩ : ∃ n', n = n' + 1 := ⟨n - 1, by omega⟩
    have hc := (rl_cb_ok tl hs i).2
    have hi : vp_in (nI i) 21 := vp_in_nI (by omega) (by decide)
    refine br_f (nI_ge (by omega) (by omega)) ?_
    have hn2 := ih (i + 1) n (by omega) (by omega)
    rw [nI_clamp (n := i) (by omega), nI_clamp (n := rl_cb st tl i) (by omega)]
    refine ⟨hi, br_c (fun z => nm_r (nI_1 i) ?_) (fun z => ⟨hi, vp_in_nI (by omega) (by decide), br_c (fun w => nm_r (nI_1 i) ?_) (fun w => nm_r (nI_1 i) ?_)⟩)⟩
    · rw [rl_cb_n1 z] at hn2
      exact hn2
    · rw [rl_cb_n2 (Int32.not_lt.mpr w)] at hn2
      exact hn2
    · rw [rl_cb_y z (Int32.not_le.mp w)] at hn2
      exact hn2
theorem rx_ct2 {post : SX → Prop} (hbc : bc ≤ 21) (H : rl_G tc bc fs ss pd pa tl br fi ca am wk ins)
    (hK : ∀ st : Nat → Int32, rl_sd bc bn br fi st → ∃ n, wX_chooseTip_63 post (nI tc) (nI bc) (nI tip) fs ss pd sn rc pa mi tl bn st br ca fi am n 0 1) :
    ∀ (m i n : Nat) (st : Nat → Int32), i + m = bc → m < n → 0 < i → (∀ k, k < i → (st k = 1 ∧ rl_V bn br fi k) ∨ (st k = 0 ∧ ¬ rl_V bn br fi k)) → wX_chooseTip_2 post (nI tc) (nI bc) (nI tip) n (nI i) fs ss pd sn rc pa mi tl bn st br ca fi am := by
  intro m
  induction m with
  | zero =>
    intro i n st him hn h0 hS
    obtain ⟨n, rfl⟩ : ∃ n', n = n' + 1 := ⟨n - 1, by omega⟩
    have e : i = bc := by omega
    subst e
    exact br_t (nI_le (by omega) (by omega)) (hK st hS)
  | succ m ih =>
    intro i n st him hn h0 hS
    obtain ⟨n, rfl⟩ : ∃ n', n = n' + 1 := ⟨n - 1, by omega⟩
    have hi : vp_in (nI i) 21 := vp_in_nI (by omega) (by decide)
    have hA := H.1.2.2 i h0 (by omega)
    have hpl := hA.1
    have hV := rl_V_s bn H h0 (b := i) (by omega)
    have ext : ∀ v : Int32, ((v = 1 ∧ rl_V bn br fi i) ∨ (v = 0 ∧ ¬ rl_V bn br fi i)) → ∀ k, k < i + 1 → (upd st i v k = 1 ∧ rl_V bn br fi k) ∨ (upd st i v k = 0 ∧ ¬ rl_V bn br fi k) := by
      intro v hv k hk
      by_cases e : k = i
      · subst e
        rw [pk_us]
        exact hv
      · rw [pk_un e]
        exact hS k (by omega)
    refine br_f (nI_ge (by omega) (by omega)) ?_
    rw [nI_clamp (n := i) (by omega), hA.2.1, nI_clamp (n := rl_pp pa i) (by omega)]
    refine ⟨hi, br_c (fun z => ⟨hi, nm_r (congrArg (upd st i) rl_n0) (nm_r (nI_1 i) (ih (i + 1) n _ (by omega) (by omega) (by omega) (ext 0 (Or.inr ⟨rfl, fun v => (hV.mp v).1 z⟩))))⟩) (fun z => ⟨hi, br_c (fun w => ⟨hi, vp_in_nI (by omega) (by decide), br_c (fun v => ⟨hi, nm_r (congrArg (upd st i) rl_n0) (nm_r (nI_1 i) (ih (i + 1) n _ (by omega) (by omega) (by omega) (ext 0 (Or.inr ⟨rfl, fun q => ?_⟩))))⟩) (fun v => ⟨hi, nm_r (congrArg (upd st i) rl_n1) (nm_r (nI_1 i) (ih (i + 1) n _ (by omega) (by omega) (by omega) (ext 1 (Or.inl ⟨rfl, ?_⟩))))⟩)⟩) (fun w => ⟨hi, nm_r (congrArg (upd st i) rl_n0) (nm_r (nI_1 i) (ih (i + 1) n _ (by omega) (by omega) (by omega) (ext 0 (Or.inr ⟨rfl, fun v => w (hV.mp v).2.1⟩))))⟩)⟩)⟩
    · rcases hS (rl_pp pa i) hpl with y | y
      · rw [y.1] at v
        exact absurd v (by decide)
      · exact y.2 (hV.mp q).2.2
    · rcases hS (rl_pp pa i) hpl with y | y
      · exact hV.mpr ⟨z, w, y.2⟩
      · exact absurd y.1 v
theorem rx_choose {post : SX → Prop} (hbc : bc ≤ 21) (h0 : 0 < bc) (H : rl_G tc bc fs ss pd pa tl br fi ca am wk ins) (hz : bn 0 = 0) (hst : st 0 = 1) (ht : tip < bc)
    (h : ∀ st' : Nat → Int32, rl_sd bc bn br fi st' → post (nI tc, nI bc, nI (rl_tp st' tl bc tip), fs, ss, pd, sn, rc, pa, mi, tl, bn, st', br, ca, fi, am)) : wpX_chooseTip post (nI tc, nI bc, nI tip, fs, ss, pd, sn, rc, pa, mi, tl, bn, st, br, ca, fi, am) := by
  have hV0 := rl_V_0 H hz
  refine ⟨bc, rx_ct2 hbc H (fun st' S => ⟨bc, ?_⟩) (bc - 1) 1 bc st (by omega) (by omega) (by omega) (fun k hk => ?_)⟩
  · have hh := rx_ct63 (post := post) (sn := sn) (rc := rc) (mi := mi) (bn := bn) hbc h0 ((rl_sd_V S h0).mpr hV0) ht (h st' S) (bc - 1) 1 bc (by omega) (by omega)
    rw [rl_cb_1] at hh
    exact hh
  · have e : k = 0 := by omega
    subst e
    exact Or.inl ⟨hst, hV0⟩
end
section
/-! the relation, the start, the calls that only look at tip, valid, total -/
variable {tc bc tip : Nat} {fs ss pd sn rc pa mi tl bn st br ca fi am wk ins th ya ow dn : Nat → Int32}
/-- the two objects: shared arrays are the same functions; the reference's scratch is free -/
def i_Rel (k : Nat) (u : SX) (v : SY) : Prop :=
  ∃ (tc bc tip : Nat) (fs ss pd sn rc pa mi tl bn st br ca fi am wk ins th ya ow dn : Nat → Int32), u = (nI tc, nI bc, nI tip, fs, ss, pd, sn, rc, pa, mi, tl, bn, st, br, ca, fi, am) ∧ v = (nI tc, nI bc, nI tip, fs, ss, pd, sn, rc, pa, mi, wk, ins, bn, th, ya, ow, dn) ∧ rl_P tc bc tip fs ss pd pa bn tl st br ca fi am wk ins
theorem i_up {k : Nat} {u : SX} {v : SY} (h : i_Rel k u v) : i_Rel (k + 5) u v := h
theorem rv_mk {k : Nat} (h : rl_P tc bc tip fs ss pd pa bn tl st br ca fi am wk ins) : i_Rel k (nI tc, nI bc, nI tip, fs, ss, pd, sn, rc, pa, mi, tl, bn, st, br, ca, fi, am) (nI tc, nI bc, nI tip, fs, ss, pd, sn, rc, pa, mi, wk, ins, bn, th, ya, ow, dn) :=
  ⟨tc, bc, tip, fs, ss, pd, sn, rc, pa, mi, tl, bn, st, br, ca, fi, am, wk, ins, th, ya, ow, dn, rfl, rfl, h⟩
theorem rv_P0 : rl_P 0 1 0 (fun _ => 0) (fun _ => 0) (fun _ => 0) (fun _ => 0) (fun _ => 0) (fun _ => 0) (upd (fun _ => 0) 0 1) (upd (fun _ => 0) 0 1) (fun _ => 0) (upd (fun _ => 0) 0 1) (upd (fun _ => 0) 32 50) (fun _ => 0) (upd (upd (fun _ => 0) 0 (-1)) 1 (-1)) := by
  have hrow : rl_row (upd (fun _ => 0) 32 50) 0 = upd (fun _ => 0) 32 50 := by
    have e := rl_row_u (am := fun _ => 0) (b := 0) (c := 32) (v := 50) (by omega)
    have e2 : rl_row (fun _ => 0) 0 = fun _ => 0 := funext fun c => ite_self _
    rw [e2] at e
    exact e
  have hbo : rl_bo (upd (fun _ => 0) 0 1) (fun _ => 0) (upd (fun _ => 0) 32 50) 0 = some (upd (fun _ => 0) 32 50, 0) := by
    rw [rl_bo_y (by rw [pk_us]; decide), hrow]
  have H : rl_G 0 1 (fun _ => 0) (fun _ => 0) (fun _ => 0) (fun _ => 0) (fun _ => 0) (upd (fun _ => 0) 0 1) (upd (fun _ => 0) 0 1) (fun _ => 0) (upd (fun _ => 0) 32 50) (fun _ => 0) (upd (upd (fun _ => 0) 0 (-1)) 1 (-1)) := by
    refine ⟨⟨rfl, fun j => rl_b1 j, fun b h1 h2 => ?_⟩, ⟨rfl, rfl⟩, ⟨rfl, rfl, hbo⟩, fun b h1 h2 => ?_⟩
    · omega
    · omega
  have hV : rl_V (fun _ => 0) (upd (fun _ => 0) 0 1) (upd (fun _ => 0) 0 1) 0 := rl_V_0 H rfl
  refine ⟨by omega, by omega, by omega, by omega, fun t ht => absurd ht (Nat.not_lt_zero t), H, rfl, fun _ _ => rfl, fun b hb => ?_, hV⟩
  have e : b = 0 := by omega
  subst e
  exact Or.inl ⟨pk_us, hV⟩
theorem i_vc0 : wpX_init (fun u => wpY_init (fun v => i_Rel 0 u v)) := by
  refine nm_r (congrArg (upd _ 0) rl_n1) (nm_r (congrArg (upd _ 0) rl_n1) (nm_e (nm_e ?_)))
  refine nm_e (nm_e ?_)
  exact ⟨0, 1, 0, _, _, _, _, _, _, _, _, _, _, _, _, _, _, _, _, _, _, _, _, rfl, rfl, rv_P0⟩
theorem i_vc_tip {k : Nat} {u : SX} {v : SY} (I : i_Rel k u v) (hk : k + 5 ≤ 2560) : wpX_tip (fun r => wpY_tip (fun r' => r' = r ∧ i_Rel (k + 5) u v) v) u := by
  have I2 := i_up I
  obtain ⟨tc, bc, tip, fs, ss, pd, sn, rc, pa, mi, tl, bn, st, br, ca, fi, am, wk, ins, th, ya, ow, dn, rfl, rfl, P⟩ := I
  exact ⟨rfl, I2⟩
theorem i_vc_valid {k : Nat} {u : SX} {v : SY} (I : i_Rel k u v) (hk : k + 5 ≤ 2560) (v1 : Int32) : wpX_valid (fun r => wpY_valid (fun r' v' => r' = r ∧ i_Rel (k + 5) u v') v v1) u v1 := by
  obtain ⟨tc, bc, tip, fs, ss, pd, sn, rc, pa, mi, tl, bn, st, br, ca, fi, am, wk, ins, th, ya, ow, dn, rfl, rfl, P⟩ := I
  obtain ⟨htc, h0, hbc, ht, T, H, hz, hbn, S, hV⟩ := id P
  have bad : v1 < 0 ∨ nI bc ≤ v1 → wpX_valid (fun r => wpY_valid (fun r' v' => r' = r ∧ i_Rel (k + 5) (nI tc, nI bc, nI tip, fs, ss, pd, sn, rc, pa, mi, tl, bn, st, br, ca, fi, am) v') (nI tc, nI bc, nI tip, fs, ss, pd, sn, rc, pa, mi, wk, ins, bn, th, ya, ow, dn) v1) (nI tc, nI bc, nI tip, fs, ss, pd, sn, rc, pa, mi, tl, bn, st, br, ca, fi, am) v1 := by
    intro hx
    unfold wpX_valid
    refine rx_isBlock_n hx (br_t rfl ?_)
    unfold wpY_valid
    exact ry_isBlock_n hx (br_t rfl ⟨rfl, rv_mk P⟩)
  rcases pk_ix v1 (n := bc) (by omega) with h | h | ⟨b, hb, rfl⟩
  · exact bad (Or.inl h)
  · exact bad (Or.inr h)
  · unfold wpX_valid
    refine rx_isBlock_y hbc hb (br_f (by decide) ⟨vp_in_nI (by omega) (by decide), ?_⟩)
    rw [nI_clamp (n := b) (by omega)]
    refine br_c (fun z => ?_) (fun z => ?_)
    · exact ry_valid T htc hbc H hb (fun hV th ya ow dn => absurd z ((rl_sd_V S hb).mpr hV)) (fun hV th ya ow dn => ⟨rfl, rv_mk P⟩)
    · exact ry_valid T htc hbc H hb (fun hV th ya ow dn => ⟨rfl, rv_mk P⟩) (fun hV th ya ow dn => absurd ((rl_sd_V S hb).mp z) hV)
theorem i_vc_total {k : Nat} {u : SX} {v : SY} (I : i_Rel k u v) (hk : k + 5 ≤ 2560) (v1 : Int32) : wpX_total (fun r => wpY_total (fun r' => r' = r ∧ i_Rel (k + 5) u v) v v1) u v1 := by
  obtain ⟨tc, bc, tip, fs, ss, pd, sn, rc, pa, mi, tl, bn, st, br, ca, fi, am, wk, ins, th, ya, ow, dn, rfl, rfl, P⟩ := I
  obtain ⟨htc, h0, hbc, ht, T, H, hz, hbn, S, hV⟩ := id P
  have bad : v1 < 0 ∨ nI bc ≤ v1 → wpX_total (fun r => wpY_total (fun r' => r' = r ∧ i_Rel (k + 5) (nI tc, nI bc, nI tip, fs, ss, pd, sn, rc, pa, mi, tl, bn, st, br, ca, fi, am) (nI tc, nI bc, nI tip, fs, ss, pd, sn, rc, pa, mi, wk, ins, bn, th, ya, ow, dn)) (nI tc, nI bc, nI tip, fs, ss, pd, sn, rc, pa, mi, wk, ins, bn, th, ya, ow, dn) v1) (nI tc, nI bc, nI tip, fs, ss, pd, sn, rc, pa, mi, tl, bn, st, br, ca, fi, am) v1 := by
    intro hx
    unfold wpX_total
    refine rx_isBlock_n hx (br_t rfl ?_)
    unfold wpY_total
    exact ry_isBlock_n hx (br_t rfl ⟨rfl, rv_mk P⟩)
  rcases pk_ix v1 (n := bc) (by omega) with h | h | ⟨b, hb, rfl⟩
  · exact bad (Or.inl h)
  · exact bad (Or.inr h)
  · unfold wpX_total
    refine rx_isBlock_y hbc hb (br_f (by decide) ⟨vp_in_nI (by omega) (by decide), ?_⟩)
    rw [nI_clamp (n := b) (by omega)]
    exact ry_total hbc H hb ⟨rfl, rv_mk P⟩
end
section
/-! unspent, fits, shared, confirmations -/
variable {tc bc tip : Nat} {fs ss pd sn rc pa mi tl bn st br ca fi am wk ins th ya ow dn : Nat → Int32}
theorem rl_gt {x : Int32} {n : Nat} (hn : n < 2 ^ 31 - 1) (h : nI (n + 1) ≤ x) : nI n < x := by
  rw [Int32.le_iff_toInt_le, nI_toInt (by omega)] at h
  rw [Int32.lt_iff_toInt_lt, nI_toInt (by omega)]
  omega
theorem i_vc_unspent {k : Nat} {u : SX} {v : SY} (I : i_Rel k u v) (hk : k + 5 ≤ 2560) (v1 : Int32) : wpX_unspent (fun r => wpY_unspent (fun r' v' => r' = r ∧ i_Rel (k + 5) u v') v v1) u v1 := by
  obtain ⟨tc, bc, tip, fs, ss, pd, sn, rc, pa, mi, tl, bn, st, br, ca, fi, am, wk, ins, th, ya, ow, dn, rfl, rfl, P⟩ := I
  obtain ⟨htc, h0, hbc, ht, T, H, hz, hbn, S, hV⟩ := id P
  rcases pk_ix v1 (n := 64) (by omega) with h | h | ⟨c, hc, rfl⟩
  · unfold wpX_unspent
    exact rx_isCoin_n (Or.inl h) (br_t rfl (br_t h ⟨rfl, rv_mk P⟩))
  · unfold wpX_unspent
    refine rx_isCoin_n (Or.inr h) (br_t rfl ?_)
    have h63 : (63 : Int32) < v1 := rl_gt (n := 63) (by omega) h
    by_cases h0 : v1 < 0
    · exact br_t h0 ⟨rfl, rv_mk P⟩
    · exact br_f h0 (br_f (Int32.not_le.mpr h63) ⟨rfl, rv_mk P⟩)
  · have hg := rl_gd_bo T htc H tip ht _ (rl_bo_y hV.1)
    have Y : ∀ r : Int32, r = (if rl_row am tip c = 0 then 0 else 1) → wpY_unspent (fun r' v' => r' = r ∧ i_Rel (k + 5) (nI tc, nI bc, nI tip, fs, ss, pd, sn, rc, pa, mi, tl, bn, st, br, ca, fi, am) v') (nI tc, nI bc, nI tip, fs, ss, pd, sn, rc, pa, mi, wk, ins, bn, th, ya, ow, dn) (nI c) := by
      intro r hr
      refine br_f (nI_pos (by omega)) (br_t (nI_le (b := 63) (by omega) (by decide)) (ry_replay T htc hbc H ht (fun _ th ya ow dn R => ⟨vp_in_nI hc (by decide), ?_⟩) (fun z => absurd hV z)))
      rw [nI_clamp (n := c) (by omega)]
      dsimp only
      rcases R.2.2.2 c hc with e | e
      · rw [e, hr, if_pos ((R.1 c hc).mp e)]
        exact ⟨rfl, rfl, rv_mk P⟩
      · rw [e, hr, if_neg (fun z => absurd (e.symm.trans ((R.1 c hc).mpr z)) (by decide))]
        exact ⟨rfl, rfl, rv_mk P⟩
    unfold wpX_unspent
    refine rx_isCoin_y hc (br_f (by decide) (rx_ab (by omega) hc (br_c (fun w => Y 0 ?_) (fun w => Y 1 ?_))))
    · rw [if_pos (Int32.le_antisymm w (hg.1 c))]
    · rw [if_neg (fun z => w (by rw [z]; exact Int32.le_refl 0))]
theorem i_vc_fits {k : Nat} {u : SX} {v : SY} (I : i_Rel k u v) (hk : k + 5 ≤ 2560) (v1 : Int32) : wpX_fits (fun r => wpY_fits (fun r' v' => r' = r ∧ i_Rel (k + 5) u v') v v1) u v1 := by
  obtain ⟨tc, bc, tip, fs, ss, pd, sn, rc, pa, mi, tl, bn, st, br, ca, fi, am, wk, ins, th, ya, ow, dn, rfl, rfl, P⟩ := I
  obtain ⟨htc, h0, hbc, ht, T, H, hz, hbn, S, hV⟩ := id P
  rcases pk_ix v1 (n := tc) (by omega) with h | h | ⟨t, htt, rfl⟩
  · unfold wpX_fits
    exact rx_isTx_n (Or.inl h) (br_t rfl (br_t h ⟨rfl, rv_mk P⟩))
  · unfold wpX_fits
    refine rx_isTx_n (Or.inr h) (br_t rfl ?_)
    by_cases h0 : v1 < 0
    · exact br_t h0 ⟨rfl, rv_mk P⟩
    · exact br_f h0 (br_f (Int32.not_lt.mpr h) ⟨rfl, rv_mk P⟩)
  · have Y : ∀ r : Int32, (rl_fit fs ss pd (rl_row am tip, ca tip) t → r = 1) → (¬ rl_fit fs ss pd (rl_row am tip, ca tip) t → r = 0) → wpY_fits (fun r' v' => r' = r ∧ i_Rel (k + 5) (nI tc, nI bc, nI tip, fs, ss, pd, sn, rc, pa, mi, tl, bn, st, br, ca, fi, am) v') (nI tc, nI bc, nI tip, fs, ss, pd, sn, rc, pa, mi, wk, ins, bn, th, ya, ow, dn) (nI t) := by
      intro r h1 h2
      refine br_f (nI_pos (by omega)) (br_t (nI_lt htt (by omega)) (ry_replay T htc hbc H ht (fun _ th ya ow dn R => ?_) (fun z => absurd hV z)))
      exact ry_fits T htc htt R (fun hf => ⟨rfl, (h1 hf).symm, rv_mk P⟩) (fun hf => ⟨rfl, (h2 hf).symm, rv_mk P⟩)
    unfold wpX_fits
    exact rx_isTx_y (by omega) htt (br_f (by decide) (rx_fits T htc htt (by omega) (fun hf => br_f (by decide) (Y 1 (fun _ => rfl) (fun z => absurd hf z))) (fun hf => br_t rfl (Y 0 (fun z => absurd z hf) (fun _ => rfl)))))
theorem rx_shared_loop {post : Int32 → Prop} {a b : Nat} (hbc : bc ≤ 21) (ha : a < bc) (hb : b < bc) (h : post (rl_ct (fun i => bt (br a) i && bt (br b) i) bc)) :
    ∀ m i n : Nat, i + m = bc → m < n → wX_shared_24 post (nI a) (nI b) (nI tc) (nI bc) (nI tip) fs ss pd sn rc pa mi tl bn st br ca fi am n (rl_ct (fun i => bt (br a) i && bt (br b) i) i) (nI i) := by
  intro m
  induction m with
  | zero =>
    intro i n him hn
    obtain ⟨n, rfl⟩ : ∃ n', n = n' + 1 := ⟨n - 1, by omega⟩
    have e : i = bc := by omega
    rw [e]
    exact br_t (nI_le (by omega) (by omega)) h
  | succ m ih =>
    intro i n him hn
    obtain ⟨n, rfl⟩ : ∃ n', n = n' + 1 := ⟨n - 1, by omega⟩
    have hh := ih (i + 1) n (by omega) (by omega)
    refine br_f (nI_ge (by omega) (by omega)) (rx_ob (by omega) (by omega) (fun z => br_f (by decide) (rx_ob (by omega) (by omega) (fun w => br_f (by decide) (nm_e (nm_r (nI_1 i) ?_))) (fun w => br_t rfl (nm_r (nI_1 i) ?_)))) (fun z => br_t rfl (nm_r (nI_1 i) ?_)))
    · rw [rl_ct_y (by rw [z, w]; rfl)] at hh
      exact hh
    · rw [rl_ct_n (fun q => w ((Bool.and_eq_true _ _).mp q).2)] at hh
      exact hh
    · rw [rl_ct_n (fun q => z ((Bool.and_eq_true _ _).mp q).1)] at hh
      exact hh
theorem ry_shared_loop {post : Int32 → Prop} {a b : Nat} (hbc : bc ≤ 21) (H : rl_A bc pa br) (ha : a < bc) (hb : b < bc) (h : post (rl_ct (fun i => bt (br a) i && bt (br b) i) bc)) :
    ∀ m i n : Nat, i + m = bc → m < n → wY_shared_24 post (nI a) (nI b) (nI tc) (nI bc) (nI tip) fs ss pd sn rc pa mi wk ins bn th ya ow dn n (rl_ct (fun i => bt (br a) i && bt (br b) i) i) (nI i) := by
  intro m
  induction m with
  | zero =>
    intro i n him hn
    obtain ⟨n, rfl⟩ : ∃ n', n = n' + 1 := ⟨n - 1, by omega⟩
    have e : i = bc := by omega
    rw [e]
    exact br_t (nI_le (by omega) (by omega)) h
  | succ m ih =>
    intro i n him hn
    obtain ⟨n, rfl⟩ : ∃ n', n = n' + 1 := ⟨n - 1, by omega⟩
    have hh := ih (i + 1) n (by omega) (by omega)
    refine br_f (nI_ge (by omega) (by omega)) (ry_ob hbc H (by omega) ha (fun z => br_f (by decide) (ry_ob hbc H (by omega) hb (fun w => br_f (by decide) (nm_e (nm_r (nI_1 i) ?_))) (fun w => br_t rfl (nm_r (nI_1 i) ?_)))) (fun z => br_t rfl (nm_r (nI_1 i) ?_)))
    · rw [rl_ct_y (by rw [z, w]; rfl)] at hh
      exact hh
    · rw [rl_ct_n (fun q => w ((Bool.and_eq_true _ _).mp q).2)] at hh
      exact hh
    · rw [rl_ct_n (fun q => z ((Bool.and_eq_true _ _).mp q).1)] at hh
      exact hh
theorem i_vc_shared {k : Nat} {u : SX} {v : SY} (I : i_Rel k u v) (hk : k + 5 ≤ 2560) (v1 : Int32) (v2 : Int32) : wpX_shared (fun r => wpY_shared (fun r' => r' = r ∧ i_Rel (k + 5) u v) v v1 v2) u v1 v2 := by
  obtain ⟨tc, bc, tip, fs, ss, pd, sn, rc, pa, mi, tl, bn, st, br, ca, fi, am, wk, ins, th, ya, ow, dn, rfl, rfl, P⟩ := I
  obtain ⟨htc, h0, hbc, ht, T, H, hz, hbn, S, hV⟩ := id P
  have split : ∀ x : Int32, (x < 0 ∨ nI bc ≤ x) ∨ ∃ j, j < bc ∧ x = nI j := by
    intro x
    rcases pk_ix x (n := bc) (by omega) with h | h | h
    · exact Or.inl (Or.inl h)
    · exact Or.inl (Or.inr h)
    · exact Or.inr h
  unfold wpX_shared
  rcases split v1 with hx | ⟨a, ha, rfl⟩
  · refine rx_isBlock_n hx (br_t rfl ?_)
    unfold wpY_shared
    exact ry_isBlock_n hx (br_t rfl ⟨rfl, rv_mk P⟩)
  · rcases split v2 with hx | ⟨b, hb, rfl⟩
    · refine rx_isBlock_y hbc ha (br_f (by decide) (rx_isBlock_n hx (br_t rfl ?_)))
      unfold wpY_shared
      exact ry_isBlock_y hbc ha (br_f (by decide) (ry_isBlock_n hx (br_t rfl ⟨rfl, rv_mk P⟩)))
    · refine rx_isBlock_y hbc ha (br_f (by decide) (rx_isBlock_y hbc hb (br_f (by decide) ⟨bc + 1, rx_shared_loop hbc ha hb ?_ bc 0 (bc + 1) (by omega) (by omega)⟩)))
      unfold wpY_shared
      exact ry_isBlock_y hbc ha (br_f (by decide) (ry_isBlock_y hbc hb (br_f (by decide) ⟨bc + 1, ry_shared_loop hbc H.1 ha hb ⟨rfl, rv_mk P⟩ bc 0 (bc + 1) (by omega) (by omega)⟩)))
theorem rx_conf_loop {post : Int32 → Prop} {t : Nat} (hbc : bc ≤ 21) (ht : tip < bc) (htt : t < 16) (h : post (rl_ct (fun i => bt (br tip) i && bt (ca i) t) bc)) :
    ∀ m i n : Nat, i + m = bc → m < n → wX_confirmations_15 post (nI t) (nI tc) (nI bc) (nI tip) fs ss pd sn rc pa mi tl bn st br ca fi am n (rl_ct (fun i => bt (br tip) i && bt (ca i) t) i) (nI i) := by
  intro m
  induction m with
  | zero =>
    intro i n him hn
    obtain ⟨n, rfl⟩ : ∃ n', n = n' + 1 := ⟨n - 1, by omega⟩
    have e : i = bc := by omega
    rw [e]
    exact br_t (nI_le (by omega) (by omega)) h
  | succ m ih =>
    intro i n him hn
    obtain ⟨n, rfl⟩ : ∃ n', n = n' + 1 := ⟨n - 1, by omega⟩
    have hh := ih (i + 1) n (by omega) (by omega)
    refine br_f (nI_ge (by omega) (by omega)) (rx_ob (by omega) (by omega) (fun z => br_f (by decide) (rx_carried (by omega) (by omega) (fun w => br_f (by decide) (nm_e (nm_r (nI_1 i) ?_))) (fun w => br_t rfl (nm_r (nI_1 i) ?_)))) (fun z => br_t rfl (nm_r (nI_1 i) ?_)))
    · rw [rl_ct_y (by rw [z, w]; rfl)] at hh
      exact hh
    · rw [rl_ct_n (fun q => w ((Bool.and_eq_true _ _).mp q).2)] at hh
      exact hh
    · rw [rl_ct_n (fun q => z ((Bool.and_eq_true _ _).mp q).1)] at hh
      exact hh
/-- the walk along the tip's branch has come to i: found says whether t was carried out -/
def rl_F (br ca : Nat → Int32) (tip t i : Nat) (x : Int32) : Prop :=
  (i = 0 ∧ x = 0) ∨ ∃ q, rl_Q br tip i q ∧ ((x = 1 ∧ bt (ca q) t = true) ∨ (x = 0 ∧ ¬ bt (ca q) t = true))
theorem rl_F_next {t i : Nat} {x : Int32} (htc : tc ≤ 16) (H : rl_G tc bc fs ss pd pa tl br fi ca am wk ins) (ht : tip < bc) (hV : rl_V bn br fi tip) (htt : t < 16) (hA : bt (br tip) i = true) (hF : rl_F br ca tip t i x) :
    bt (ca i) t = true ↔ (x ≠ 0 ∨ ins (i * 2) = nI t) ∨ ins (i * 2 + 1) = nI t := by
  have hib := rl_an_le H.1 tip ht i hA
  have some_of : ∀ j, bt (br tip) j = true → rl_bo fi ca am j = some (rl_row am j, ca j) := fun j hj => rl_bo_y (fun z => hV.1 (rl_bo_n.mp (rl_bo_up H tip ht j hj (rl_bo_n.mpr z))))
  rcases hF with ⟨e, hx⟩ | ⟨q, hQ, hx⟩
  · subst e
    have h1 := some_of 0 hA
    rw [H.2.2.1.2.2] at h1
    have h2 : ca 0 = 0 := (congrArg Prod.snd (Option.some.inj h1)).symm
    have e1 : ins (0 * 2) = -1 := H.2.2.1.1
    have e2 : ins (0 * 2 + 1) = -1 := H.2.2.1.2.1
    rw [h2, b_0, e1, e2, hx]
    refine ⟨fun z => absurd z (by decide), fun z => ?_⟩
    rcases z with (z | z) | z
    · exact absurd rfl z
    · exact absurd z.symm (rl_nm1 (by omega))
    · exact absurd z.symm (rl_nm1 (by omega))
  · have hq := hQ.1
    have e := rl_Q_par H.1 ht (by omega) hA hQ
    obtain ⟨_, h1, h2, h3⟩ := H.2.2.2 i (by omega) (by omega)
    rw [e, some_of q hQ.2.1, some_of i hA] at h3
    have h4 := rl_ca_st (t := t) htc h1 h2 h3.symm (by omega)
    have h5 : x ≠ 0 ↔ bt (ca q) t = true := by
      rcases hx with hx | hx
      · exact ⟨fun _ => hx.2, fun _ => by rw [hx.1]; decide⟩
      · exact ⟨fun z => absurd hx.1 z, fun z => absurd z hx.2⟩
    rw [h5]
    exact h4
theorem ry_conf81 {post : Int32 → Prop} {J : Int32 → Int32 → Int32 → Prop} {t i : Nat} {x z0 : Int32} (h0 : z0 = 0 → J x z0 (nI (i + 1))) (h1 : ¬ z0 = 0 → J (x + 1) z0 (nI (i + 1))) : wY_confirmations_81 post J (nI t) x (nI i) z0 (nI tc) (nI bc) (nI tip) fs ss pd sn rc pa mi wk ins bn th ya ow dn :=
  br_c (fun z => nm_r (nI_1 i) (h0 z)) (fun z => nm_e (nm_r (nI_1 i) (h1 z)))
theorem ry_conf_loop {post : Int32 → Prop} {t : Nat} (htc : tc ≤ 16) (hbc : bc ≤ 21) (H : rl_G tc bc fs ss pd pa tl br fi ca am wk ins) (ht : tip < bc) (hV : rl_V bn br fi tip) (htt : t < 16) (h : post (rl_ct (fun i => bt (br tip) i && bt (ca i) t) (tip + 1))) :
    ∀ (m i n : Nat) (x : Int32), i + m = tip + 1 → m < n → rl_F br ca tip t i x → wY_confirmations_22 post (nI t) (nI tc) (nI bc) (nI tip) fs ss pd sn rc pa mi wk ins bn th ya ow dn n (rl_ct (fun i => bt (br tip) i && bt (ca i) t) i) x (nI i) := by
  intro m
  induction m with
  | zero =>
    intro i n x him hn hF
    obtain ⟨n, rfl⟩ : ∃ n', n = n' + 1 := ⟨n - 1, by omega⟩
    have e : i = tip + 1 := by omega
    rw [e]
    exact br_t (nI_lt (by omega) (by omega)) h
  | succ m ih =>
    intro i n x him hn hF
    obtain ⟨n, rfl⟩ : ∃ n', n = n' + 1 := ⟨n - 1, by omega⟩
    have hi2 : vp_in (nI (i * 2)) 42 := vp_in_nI (by omega) (by decide)
    have hi3 : vp_in (nI (i * 2 + 1)) 42 := vp_in_nI (by omega) (by decide)
    refine br_f (nI_nlt (by omega) (by omega)) (ry_ob hbc H.1 (by omega) ht (fun hA => br_f (by decide) ?_) (fun hA => br_t rfl (nm_r (nI_1 i) ?_)))
    · have N := rl_F_next htc H ht hV htt hA hF
      have yes : bt (ca i) t = true → wY_confirmations_22 post (nI t) (nI tc) (nI bc) (nI tip) fs ss pd sn rc pa mi wk ins bn th ya ow dn n (rl_ct (fun i => bt (br tip) i && bt (ca i) t) i + 1) 1 (nI (i + 1)) := by
        intro z
        have hh := ih (i + 1) n 1 (by omega) (by omega) (Or.inr ⟨i, rl_Q_y hA, Or.inl ⟨rfl, z⟩⟩)
        rw [rl_ct_y (by rw [hA, z]; rfl)] at hh
        exact hh
      have no : ¬ bt (ca i) t = true → wY_confirmations_22 post (nI t) (nI tc) (nI bc) (nI tip) fs ss pd sn rc pa mi wk ins bn th ya ow dn n (rl_ct (fun i => bt (br tip) i && bt (ca i) t) i) 0 (nI (i + 1)) := by
        intro z
        have hh := ih (i + 1) n 0 (by omega) (by omega) (Or.inr ⟨i, rl_Q_y hA, Or.inr ⟨rfl, z⟩⟩)
        rw [rl_ct_n (fun q => z ((Bool.and_eq_true _ _).mp q).2)] at hh
        exact hh
      rw [show nI i * 2 = nI (i * 2) from pk_mul i 2, nI_1 (i * 2), nI_clamp (n := i * 2) (by omega), nI_clamp (n := i * 2 + 1) (by omega)]
      refine br_c (fun z1 => ⟨hi2, br_c (fun z2 => ?_) (fun z2 => ⟨hi3, br_c (fun z3 => ?_) (fun z3 => ?_)⟩)⟩) (fun z1 => ?_)
      · exact ry_conf81 (fun q => absurd q (by decide)) (fun _ => yes (N.mpr (Or.inl (Or.inr z2))))
      · exact ry_conf81 (fun q => absurd q (by decide)) (fun _ => yes (N.mpr (Or.inr z3)))
      · exact ry_conf81 (fun _ => no (fun q => (N.mp q).elim (fun q => q.elim (fun q => q z1) z2) z3)) (fun q => absurd rfl q)
      · exact ry_conf81 (fun q => absurd q (by decide)) (fun _ => yes (N.mpr (Or.inl (Or.inl z1))))
    · have hh := ih (i + 1) n x (by omega) (by omega) (by
        rcases hF with ⟨e, _⟩ | ⟨q, hQ, hx⟩
        · rw [e] at hA
          exact absurd (rl_an_z H.1 tip ht) hA
        · exact Or.inr ⟨q, rl_Q_n hA hQ, hx⟩)
      rw [rl_ct_n (fun q => hA ((Bool.and_eq_true _ _).mp q).1)] at hh
      exact hh
theorem i_vc_confirmations {k : Nat} {u : SX} {v : SY} (I : i_Rel k u v) (hk : k + 5 ≤ 2560) (v1 : Int32) : wpX_confirmations (fun r => wpY_confirmations (fun r' => r' = r ∧ i_Rel (k + 5) u v) v v1) u v1 := by
  obtain ⟨tc, bc, tip, fs, ss, pd, sn, rc, pa, mi, tl, bn, st, br, ca, fi, am, wk, ins, th, ya, ow, dn, rfl, rfl, P⟩ := I
  obtain ⟨htc, h0, hbc, ht, T, H, hz, hbn, S, hV⟩ := id P
  rcases pk_ix v1 (n := tc) (by omega) with h | h | ⟨t, htt, rfl⟩
  · unfold wpX_confirmations
    exact rx_isTx_n (Or.inl h) (br_t rfl (br_t h ⟨rfl, rv_mk P⟩))
  · unfold wpX_confirmations
    refine rx_isTx_n (Or.inr h) (br_t rfl ?_)
    by_cases h0 : v1 < 0
    · exact br_t h0 ⟨rfl, rv_mk P⟩
    · exact br_f h0 (br_f (Int32.not_lt.mpr h) ⟨rfl, rv_mk P⟩)
  · unfold wpX_confirmations
    refine rx_isTx_y (by omega) htt (br_f (by decide) ⟨bc + 1, rx_conf_loop hbc ht (by omega) ?_ bc 0 (bc + 1) (by omega) (by omega)⟩)
    have e : rl_ct (fun i => bt (br tip) i && bt (ca i) t) bc = rl_ct (fun i => bt (br tip) i && bt (ca i) t) (tip + 1) :=
      rl_ct_z bc (by omega) (fun i h1 h2 q => by have := rl_an_le H.1 tip ht i ((Bool.and_eq_true _ _).mp q).1; omega)
    exact br_f (nI_pos (by omega)) (br_t (nI_lt htt (by omega)) ⟨tip + 2, ry_conf_loop htc hbc H ht hV (by omega) ⟨e.symm, rv_mk P⟩ (tip + 1) 0 (tip + 2) 0 (by omega) (by omega) (Or.inl ⟨rfl, rfl⟩)⟩)
end
section
/-! balance -/
variable {tc bc tip : Nat} {fs ss pd sn rc pa mi tl bn st br ca fi am wk ins th ya ow dn : Nat → Int32}
def rl_g (mi rc sn r : Nat → Int32) (o : Int32) (c : Nat) : Int32 := if rl_ow mi rc sn c = o then r c else 0
theorem rl_g_y {r : Nat → Int32} {o : Int32} {c : Nat} (h : rl_ow mi rc sn c = o) : rl_g mi rc sn r o c = r c := if_pos h
theorem rl_g_n {r : Nat → Int32} {o : Int32} {c : Nat} (h : ¬ rl_ow mi rc sn c = o) : rl_g mi rc sn r o c = 0 := if_neg h
theorem rl_g_0 {r : Nat → Int32} (o : Int32) {c : Nat} (h : r c = 0) : rl_g mi rc sn r o c = 0 := by
  unfold rl_g
  rw [h]
  exact ite_self _
theorem rx_bal87 {post : Int32 → Prop} {J : Int32 → Int32 → Prop} {t : Nat} {o x : Int32} (htt : t < 16) (ht : tip < 21) (h : J (x + rl_g mi rc sn (rl_row am tip) o (2 * t + 1)) (nI (t + 1))) : wX_balance_87 post J o x (nI t) (nI tc) (nI bc) (nI tip) fs ss pd sn rc pa mi tl bn st br ca fi am := by
  have e := rl_ow_o mi rc sn htt
  unfold wX_balance_87
  rw [nI_clamp (n := t) (by omega), show (2 : Int32) * nI t = nI (2 * t) from pk_mul 2 t, nI_1 (2 * t), nI_1 t]
  refine ⟨vp_in_nI htt (by decide), br_c (fun z => rx_ab ht (by omega) (nm_e (nm_e ?_))) (fun z => nm_e ?_)⟩
  · rw [rl_g_y (e.trans z)] at h
    exact h
  · rw [rl_g_n (fun w => z (e.symm.trans w)), Int32.add_zero] at h
    exact h
theorem rx_bal55 {post : Int32 → Prop} {o s0 : Int32} (htc : tc ≤ 16) (ht : tip < 21) (h : post (rl_tm (rl_g mi rc sn (rl_row am tip) o) s0 tc)) :
    ∀ m i n : Nat, i + m = tc → m < n → wX_balance_55 post o (nI tc) (nI bc) (nI tip) fs ss pd sn rc pa mi tl bn st br ca fi am n (rl_tm (rl_g mi rc sn (rl_row am tip) o) s0 i) (nI i) := by
  intro m
  induction m with
  | zero =>
    intro i n him hn
    obtain ⟨n, rfl⟩ : ∃ n', n = n' + 1 := ⟨n - 1, by omega⟩
    have e : i = tc := by omega
    rw [e]
    exact br_t (nI_le (by omega) (by omega)) h
  | succ m ih =>
    intro i n him hn
    obtain ⟨n, rfl⟩ : ∃ n', n = n' + 1 := ⟨n - 1, by omega⟩
    have hh := ih (i + 1) n (by omega) (by omega)
    have e := rl_ow_e mi rc sn (t := i) (by omega)
    refine br_f (nI_ge (by omega) (by omega)) ?_
    rw [nI_clamp (n := i) (by omega), show (2 : Int32) * nI i = nI (2 * i) from pk_mul 2 i]
    refine ⟨vp_in_nI (by omega) (by decide), br_c (fun z => rx_ab ht (by omega) (nm_e (rx_bal87 (by omega) ht ?_))) (fun z => rx_bal87 (by omega) ht ?_)⟩
    · rw [← rl_g_y (mi := mi) (r := rl_row am tip) (e.trans z)]
      exact hh
    · have h2 : rl_tm (rl_g mi rc sn (rl_row am tip) o) s0 (i + 1) = rl_tm (rl_g mi rc sn (rl_row am tip) o) s0 i + rl_g mi rc sn (rl_row am tip) o (2 * i + 1) := by
        show rl_tm (rl_g mi rc sn (rl_row am tip) o) s0 i + rl_g mi rc sn (rl_row am tip) o (2 * i) + rl_g mi rc sn (rl_row am tip) o (2 * i + 1) = _
        rw [rl_g_n (fun w => z (e.symm.trans w)), Int32.add_zero]
      rw [h2] at hh
      exact hh
theorem rx_bal14 {post : Int32 → Prop} {o : Int32} (hbc : bc ≤ 21) (ht : tip < bc) (hK : ∃ n, wX_balance_55 post o (nI tc) (nI bc) (nI tip) fs ss pd sn rc pa mi tl bn st br ca fi am n (rl_sm (fun b => rl_g mi rc sn (rl_row am tip) o (32 + b)) bc) 0) :
    ∀ m i n : Nat, i + m = bc → m < n → wX_balance_14 post o (nI tc) (nI bc) (nI tip) fs ss pd sn rc pa mi tl bn st br ca fi am n (rl_sm (fun b => rl_g mi rc sn (rl_row am tip) o (32 + b)) i) (nI i) := by
  intro m
  induction m with
  | zero =>
    intro i n him hn
    obtain ⟨n, rfl⟩ : ∃ n', n = n' + 1 := ⟨n - 1, by omega⟩
    have e : i = bc := by omega
    rw [e]
    exact br_t (nI_le (by omega) (by omega)) hK
  | succ m ih =>
    intro i n him hn
    obtain ⟨n, rfl⟩ : ∃ n', n = n' + 1 := ⟨n - 1, by omega⟩
    have hh := ih (i + 1) n (by omega) (by omega)
    have e := rl_ow_b mi rc sn i
    have e2 : rl_sm (fun b => rl_g mi rc sn (rl_row am tip) o (32 + b)) (i + 1) = rl_sm (fun b => rl_g mi rc sn (rl_row am tip) o (32 + b)) i + rl_g mi rc sn (rl_row am tip) o (32 + i) := rfl
    rw [e2] at hh
    refine br_f (nI_ge (by omega) (by omega)) ?_
    rw [nI_clamp (n := i) (by omega), show (32 : Int32) + nI i = nI (32 + i) from nI_add 32 i]
    refine ⟨vp_in_nI (by omega) (by decide), br_c (fun z => rx_ab (by omega) (by omega) (nm_e (nm_r (nI_1 i) ?_))) (fun z => nm_r (nI_1 i) ?_)⟩
    · rw [rl_g_y (e.trans z)] at hh
      exact hh
    · rw [rl_g_n (fun w => z (e.symm.trans w)), Int32.add_zero] at hh
      exact hh
theorem ry_bal25 {post : Int32 → SY → Prop} {o : Int32} {s : rl_S} (R : rl_R mi rc sn s th ya ow dn) (h : post (rl_sm (rl_g mi rc sn s.1 o) 64) (nI tc, nI bc, nI tip, fs, ss, pd, sn, rc, pa, mi, wk, ins, bn, th, ya, ow, dn)) :
    ∀ m i n : Nat, i + m = 64 → m < n → wY_balance_25 post o (nI tc) (nI bc) (nI tip) fs ss pd sn rc pa mi wk ins bn th ya ow dn n (rl_sm (rl_g mi rc sn s.1 o) i) (nI i) := by
  intro m
  induction m with
  | zero =>
    intro i n him hn
    obtain ⟨n, rfl⟩ : ∃ n', n = n' + 1 := ⟨n - 1, by omega⟩
    have e : i = 64 := by omega
    rw [e]
    exact br_t (nI_le (a := 64) (by omega) (by omega)) h
  | succ m ih =>
    intro i n him hn
    obtain ⟨n, rfl⟩ : ∃ n', n = n' + 1 := ⟨n - 1, by omega⟩
    have hi : vp_in (nI i) 64 := vp_in_nI (by omega) (by decide)
    have hh := ih (i + 1) n (by omega) (by omega)
    have e2 : rl_sm (rl_g mi rc sn s.1 o) (i + 1) = rl_sm (rl_g mi rc sn s.1 o) i + rl_g mi rc sn s.1 o i := rfl
    rw [e2] at hh
    refine br_f (nI_ge (b := 64) (by omega) (by decide)) ?_
    rw [nI_clamp (n := i) (by omega)]
    refine ⟨hi, br_c (fun z => nm_r (nI_1 i) ?_) (fun z => ⟨hi, br_c (fun w => ⟨hi, nm_e (nm_r (nI_1 i) ?_)⟩) (fun w => nm_r (nI_1 i) ?_)⟩)⟩
    · rw [rl_g_0 o ((R.1 i (by omega)).mp z), Int32.add_zero] at hh
      exact hh
    · have q := R.2.1 i (by omega) (fun q => z ((R.1 i (by omega)).mpr q))
      rw [q.2] at w
      rw [rl_g_y w, ← q.1] at hh
      exact hh
    · have q := R.2.1 i (by omega) (fun q => z ((R.1 i (by omega)).mpr q))
      rw [q.2] at w
      rw [rl_g_n w, Int32.add_zero] at hh
      exact hh
theorem i_vc_balance {k : Nat} {u : SX} {v : SY} (I : i_Rel k u v) (hk : k + 5 ≤ 2560) (v1 : Int32) : wpX_balance (fun r => wpY_balance (fun r' v' => r' = r ∧ i_Rel (k + 5) u v') v v1) u v1 := by
  obtain ⟨tc, bc, tip, fs, ss, pd, sn, rc, pa, mi, tl, bn, st, br, ca, fi, am, wk, ins, th, ya, ow, dn, rfl, rfl, P⟩ := I
  obtain ⟨htc, h0, hbc, ht, T, H, hz, hbn, S, hV⟩ := id P
  rcases pk_ix v1 (n := 8) (by omega) with h | h | ⟨o, ho, rfl⟩
  · unfold wpX_balance
    exact rx_isOwner_n (Or.inl h) (br_t rfl (br_t h ⟨rfl, rv_mk P⟩))
  · unfold wpX_balance
    refine rx_isOwner_n (Or.inr h) (br_t rfl ?_)
    have h7 : (7 : Int32) < v1 := rl_gt (n := 7) (by omega) h
    by_cases h0 : v1 < 0
    · exact br_t h0 ⟨rfl, rv_mk P⟩
    · exact br_f h0 (br_f (Int32.not_le.mpr h7) ⟨rfl, rv_mk P⟩)
  · have hg := rl_gd_bo T htc H tip ht _ (rl_bo_y hV.1)
    have e : rl_tm (rl_g mi rc sn (rl_row am tip) (nI o)) (rl_sm (fun b => rl_g mi rc sn (rl_row am tip) (nI o) (32 + b)) bc) tc = rl_sm (rl_g mi rc sn (rl_row am tip) (nI o)) 64 := by
      refine rl_sum htc (by omega) (fun c h1 h2 => rl_g_0 _ (Classical.byContradiction fun z => ?_)) (fun c h1 => rl_g_0 _ (Classical.byContradiction fun z => ?_))
      · have := hg.2.2.1 _ (hg.2.1 c h2 z)
        omega
      · have := hg.2.2.2 c (by omega) z
        omega
    unfold wpX_balance
    refine rx_isOwner_y ho (br_f (by decide) ⟨bc + 1, rx_bal14 hbc ht ⟨tc + 1, rx_bal55 htc (by omega) ?_ tc 0 (tc + 1) (by omega) (by omega)⟩ bc 0 (bc + 1) (by omega) (by omega)⟩)
    refine br_f (nI_pos (by omega)) (br_t (nI_le (b := 7) (by omega) (by decide)) (ry_replay T htc hbc H ht (fun _ th ya ow dn R => ?_) (fun z => absurd hV z)))
    exact ⟨65, ry_bal25 R ⟨e.symm, rv_mk P⟩ 64 0 65 (by omega) (by omega)⟩
end
section
/-! transaction, block, ban -/
variable {tc bc tip : Nat} {fs ss pd sn rc pa mi tl bn st br ca fi am wk ins th ya ow dn : Nat → Int32}
theorem rl_ltm1 {x : Int32} (h : x < 0) (h1 : ¬ x = -1) : x < -1 := by
  have h2 : x.toInt ≠ -1 := fun z => h1 (Int32.toInt_inj.mp (z.trans (by decide)))
  rw [Int32.lt_iff_toInt_lt, show (0 : Int32).toInt = 0 from by decide] at h
  rw [Int32.lt_iff_toInt_lt, show (-1 : Int32).toInt = -1 from by decide]
  omega
theorem rl_nltm1 {n : Nat} (h : n < 2 ^ 31) : ¬ nI n < -1 := by
  rw [Int32.lt_iff_toInt_lt, show (-1 : Int32).toInt = -1 from by decide, nI_toInt h]
  omega
theorem rv_tx24 {k x : Nat} {y v3 v4 : Int32} (P : rl_P tc bc tip fs ss pd pa bn tl st br ca fi am wk ins) (hx : x < 64) (hy : y = -1 ∨ ∃ z, z < 64 ∧ y = nI z) :
    wX_transaction_24 (fun r u' => wpY_transaction (fun r' v' => r' = r ∧ i_Rel (k + 5) u' v') (nI tc, nI bc, nI tip, fs, ss, pd, sn, rc, pa, mi, wk, ins, bn, th, ya, ow, dn) (nI x) y v3 v4) (nI x) y v3 v4 (nI tc) (nI bc) (nI tip) fs ss pd sn rc pa mi tl bn st br ca fi am := by
  obtain ⟨htc, h0, hbc, ht, T, H, hz, hbn, S, hV⟩ := id P
  have hx0 : ¬ nI x < 0 := nI_pos (by omega)
  have hx1 : ¬ (63 : Int32) < nI x := nI_nlt (a := 63) (by omega) (by decide)
  have hy0 : ¬ y < -1 := by
    rcases hy with e | ⟨z, hz, e⟩
    · rw [e]
      decide
    · rw [e]
      exact rl_nltm1 (by omega)
  have hy1 : y ≤ 63 := by
    rcases hy with e | ⟨z, hz, e⟩
    · rw [e]
      decide
    · rw [e]
      exact nI_le (b := 63) (by omega) (by decide)
  by_cases a1 : v3 < 1
  · exact br_t a1 (br_f hx0 (br_f hx1 (br_f hy0 (br_t hy1 (br_t a1 ⟨rfl, rv_mk P⟩)))))
  by_cases a2 : v3 ≤ 1000
  · by_cases c : tc < 16
    · have c1 : nI tc < 16 := nI_lt (b := 16) c (by decide)
      have c2 : ¬ nI tc = 16 := fun z => by
        rw [z] at c1
        exact absurd c1 (by decide)
      have hi : vp_in (nI tc) 16 := vp_in_nI c (by decide)
      have a3 : ¬ v3 < 0 := fun z => a1 (Int32.lt_iff_toInt_lt.mpr (by
        have q := Int32.lt_iff_toInt_lt.mp z
        rw [show (0 : Int32).toInt = 0 from by decide] at q
        rw [show (1 : Int32).toInt = 1 from by decide]
        omega))
      obtain ⟨a, ha, rfl⟩ := nI_of a3
      have b1 : 1 ≤ a := Nat.not_lt.mp (fun z => a1 (nI_lt (b := 1) z (by decide)))
      have b2 : a ≤ 1000 := (nI_leI ha (by decide)).mp a2
      have P2 : rl_P (tc + 1) bc tip (upd fs tc (nI x)) (upd ss tc y) (upd pd tc (nI a)) pa bn tl st br ca fi am wk ins :=
        ⟨by omega, h0, hbc, ht, rl_tx_a T hx hy b1 b2, rl_G_tx htc H (nI x) y (nI a), hz, hbn, S, hV⟩
      refine br_f a1 (br_t a2 (br_t c1 ?_))
      rw [nI_clamp (n := tc) (by omega)]
      refine ⟨hi, nm_e ⟨hi, nm_e ⟨hi, nm_e ⟨hi, nm_e ⟨hi, nm_e (nm_r (nI_1 tc) ?_)⟩⟩⟩⟩⟩
      refine br_f hx0 (br_f hx1 (br_f hy0 (br_t hy1 (br_f a1 (br_t a2 (br_f c2 ?_))))))
      rw [nI_clamp (n := tc) (by omega)]
      exact ⟨hi, nm_e ⟨hi, nm_e ⟨hi, nm_e ⟨hi, nm_e ⟨hi, nm_e (nm_r (nI_1 tc) ⟨nI_pred tc, rv_mk P2⟩)⟩⟩⟩⟩⟩
    · have e : tc = 16 := by omega
      have c1 : ¬ nI tc < 16 := nI_nlt (b := 16) (by omega) (by omega)
      have c2 : nI tc = 16 := congrArg nI e
      exact br_f a1 (br_t a2 (br_f c1 (br_f hx0 (br_f hx1 (br_f hy0 (br_t hy1 (br_f a1 (br_t a2 (br_t c2 ⟨rfl, rv_mk P⟩)))))))))
  · exact br_f a1 (br_f a2 (br_f hx0 (br_f hx1 (br_f hy0 (br_t hy1 (br_f a1 (br_f a2 ⟨rfl, rv_mk P⟩)))))))
theorem i_vc_transaction {k : Nat} {u : SX} {v : SY} (I : i_Rel k u v) (hk : k + 5 ≤ 2560) (v1 : Int32) (v2 : Int32) (v3 : Int32) (v4 : Int32) : wpX_transaction (fun r u' => wpY_transaction (fun r' v' => r' = r ∧ i_Rel (k + 5) u' v') v v1 v2 v3 v4) u v1 v2 v3 v4 := by
  obtain ⟨tc, bc, tip, fs, ss, pd, sn, rc, pa, mi, tl, bn, st, br, ca, fi, am, wk, ins, th, ya, ow, dn, rfl, rfl, P⟩ := I
  unfold wpX_transaction
  rcases pk_ix v1 (n := 64) (by omega) with h | h | ⟨x, hx, rfl⟩
  · exact rx_isCoin_n (Or.inl h) (br_t rfl (br_t h ⟨rfl, rv_mk P⟩))
  · refine rx_isCoin_n (Or.inr h) (br_t rfl ?_)
    have h63 : (63 : Int32) < v1 := rl_gt (n := 63) (by omega) h
    by_cases h0 : v1 < 0
    · exact br_t h0 ⟨rfl, rv_mk P⟩
    · exact br_f h0 (br_t h63 ⟨rfl, rv_mk P⟩)
  · have hx0 : ¬ nI x < 0 := nI_pos (by omega)
    have hx1 : ¬ (63 : Int32) < nI x := nI_nlt (a := 63) (by omega) (by decide)
    refine rx_isCoin_y hx (br_f (by decide) ?_)
    by_cases e : v2 = -1
    · exact br_t e (rv_tx24 P hx (Or.inl e))
    · refine br_f e ?_
      rcases pk_ix v2 (n := 64) (by omega) with h | h | ⟨y, hy, rfl⟩
      · exact rx_isCoin_n (Or.inl h) (br_t rfl (br_f hx0 (br_f hx1 (br_t (rl_ltm1 h e) ⟨rfl, rv_mk P⟩))))
      · refine rx_isCoin_n (Or.inr h) (br_t rfl (br_f hx0 (br_f hx1 ?_)))
        have h63 : (63 : Int32) < v2 := rl_gt (n := 63) (by omega) h
        by_cases h0 : v2 < -1
        · exact br_t h0 ⟨rfl, rv_mk P⟩
        · exact br_f h0 (br_f (Int32.not_le.mpr h63) ⟨rfl, rv_mk P⟩)
      · exact rx_isCoin_y hy (br_f (by decide) (rv_tx24 P hx (Or.inr ⟨y, hy, rfl⟩)))
theorem rl_io_of {c f : Int32} (htc : tc ≤ 16) (e : f = (c &&& 31) - 1) (h : ¬ nI tc ≤ f) : rl_io tc f := by
  obtain ⟨j, hj, e2⟩ := pk_andE c (m := 31) 5 (by decide)
  rw [e2] at e
  by_cases z : j = 0
  · left
    rw [e, z]
    decide
  · right
    obtain ⟨i, rfl⟩ : ∃ i, j = i + 1 := ⟨j - 1, by omega⟩
    rw [nI_pred] at e
    refine ⟨i, ?_, e⟩
    rw [e, nI_leI (by omega) (by omega)] at h
    omega
theorem i_vc_ban {k : Nat} {u : SX} {v : SY} (I : i_Rel k u v) (hk : k + 5 ≤ 2560) (v1 : Int32) (v2 : Int32) : wpX_ban (fun r u' => wpY_ban (fun r' v' => r' = r ∧ i_Rel (k + 5) u' v') v v1 (lw_bz v2)) u v1 (lw_bz v2) := by
  obtain ⟨tc, bc, tip, fs, ss, pd, sn, rc, pa, mi, tl, bn, st, br, ca, fi, am, wk, ins, th, ya, ow, dn, rfl, rfl, P⟩ := I
  obtain ⟨htc, h0, hbc, ht, T, H, hz, hbn, S, hV⟩ := id P
  unfold wpX_ban
  have bad : v1 < 0 ∨ nI bc ≤ v1 → wpX_ban (fun r u' => wpY_ban (fun r' v' => r' = r ∧ i_Rel (k + 5) u' v') (nI tc, nI bc, nI tip, fs, ss, pd, sn, rc, pa, mi, wk, ins, bn, th, ya, ow, dn) v1 (lw_bz v2)) (nI tc, nI bc, nI tip, fs, ss, pd, sn, rc, pa, mi, tl, bn, st, br, ca, fi, am) v1 (lw_bz v2) := by
    intro hx
    unfold wpX_ban
    refine rx_isBlock_n hx (br_t rfl ?_)
    unfold wpY_ban
    exact ry_isBlock_n hx (br_t rfl ⟨rfl, rv_mk P⟩)
  rcases pk_ix v1 (n := bc) (by omega) with h | h | ⟨b, hb, rfl⟩
  · exact bad (Or.inl h)
  · exact bad (Or.inr h)
  · by_cases e : b = 0
    · subst e
      refine rx_isBlock_y hbc hb (br_f (by decide) (br_t rfl ?_))
      unfold wpY_ban
      exact ry_isBlock_y hbc hb (br_f (by decide) (br_t rfl ⟨rfl, rv_mk P⟩))
    · have hne : ¬ nI b = 0 := nI_ne0 (by omega) (by omega)
      have hi : vp_in (nI b) 21 := vp_in_nI (by omega) (by decide)
      have hz2 : upd bn b (vp_nar .boolean (lw_bz v2)) 0 = 0 := by rw [pk_un (by omega)]; exact hz
      have hb2 : ∀ j, bc ≤ j → upd bn b (vp_nar .boolean (lw_bz v2)) j = 0 := fun j hj => by rw [pk_un (by omega)]; exact hbn j hj
      have hst : st 0 = 1 := (S 0 h0).elim (fun q => q.1) (fun q => absurd (rl_V_0 H hz) q.2)
      have fin : ∀ st' : Nat → Int32, rl_sd bc (upd bn b (vp_nar .boolean (lw_bz v2))) br fi st' → rl_P tc bc (rl_tp st' tl bc tip) fs ss pd pa (upd bn b (vp_nar .boolean (lw_bz v2))) tl st' br ca fi am wk ins := by
        intro st' S'
        have q := rl_tp_ok tl S' h0 (rl_V_0 H hz2) ht
        exact ⟨htc, h0, hbc, q.1, T, H, hz2, hb2, S', q.2⟩
      refine rx_isBlock_y hbc hb (br_f (by decide) (br_f hne ⟨hi, ?_⟩))
      rw [nI_clamp (n := b) (by omega)]
      refine br_c (fun z => ⟨hi, nm_r (congrArg (fun j => upd bn j _) (nI_clamp (by omega))) (rx_choose hbc h0 H hz2 hst ht (fun st' S' => ?_))⟩) (fun z => ⟨hi, nm_r (congrArg (fun j => upd bn j _) (nI_clamp (by omega))) (rx_choose hbc h0 H hz2 hst ht (fun st' S' => ?_))⟩)
      · unfold wpY_ban
        refine ry_isBlock_y hbc hb (br_f (by decide) (br_f hne ⟨hi, ?_⟩))
        rw [nI_clamp (n := b) (by omega)]
        exact br_t z ⟨hi, nm_r (congrArg (fun j => upd bn j _) (nI_clamp (by omega))) (ry_choose T htc hbc H S' ht (fun th ya ow dn => ⟨rfl, rv_mk (fin st' S')⟩))⟩
      · unfold wpY_ban
        refine ry_isBlock_y hbc hb (br_f (by decide) (br_f hne ⟨hi, ?_⟩))
        rw [nI_clamp (n := b) (by omega)]
        exact br_f z ⟨hi, nm_r (congrArg (fun j => upd bn j _) (nI_clamp (by omega))) (ry_choose T htc hbc H S' ht (fun th ya ow dn => ⟨rfl, rv_mk (fin st' S')⟩))⟩
end
section
/-! block -/
variable {tc bc tip : Nat} {fs ss pd sn rc pa mi tl bn st br ca fi am wk ins th ya ow dn : Nat → Int32}
theorem i_vc_block {k : Nat} {u : SX} {v : SY} (I : i_Rel k u v) (hk : k + 5 ≤ 2560) (v1 : Int32) (v2 : Int32) (v3 : Int32) : wpX_block (fun r u' => wpY_block (fun r' v' => r' = r ∧ i_Rel (k + 5) u' v') v v1 v2 v3) u v1 v2 v3 := by
  obtain ⟨tc, bc, tip, fs, ss, pd, sn, rc, pa, mi, tl, bn, st, br, ca, fi, am, wk, ins, th, ya, ow, dn, rfl, rfl, P⟩ := I
  obtain ⟨htc, h0, hbc, ht, T, H, hz, hbn, S, hV⟩ := id P
  unfold wpX_block
  intro f ef g eg w ew
  have split : ∀ x : Int32, (x < 0 ∨ nI bc ≤ x) ∨ ∃ j, j < bc ∧ x = nI j := by
    intro x
    rcases pk_ix x (n := bc) (by omega) with h | h | h
    · exact Or.inl (Or.inl h)
    · exact Or.inl (Or.inr h)
    · exact Or.inr h
  rcases split v1 with hx | ⟨p, hp, rfl⟩
  · refine rx_isBlock_n hx (br_t rfl ?_)
    unfold wpY_block
    exact nm_r ef.symm (nm_r eg.symm (nm_r ew.symm (ry_isBlock_n hx (br_t rfl ⟨rfl, rv_mk P⟩))))
  refine rx_isBlock_y hbc hp (br_f (by decide) ?_)
  rcases pk_ix v2 (n := 8) (by omega) with h | h | ⟨m, hm, rfl⟩
  · refine rx_isOwner_n (Or.inl h) (br_t rfl ?_)
    unfold wpY_block
    exact nm_r ef.symm (nm_r eg.symm (nm_r ew.symm (ry_isBlock_y hbc hp (br_f (by decide) (br_t h ⟨rfl, rv_mk P⟩)))))
  · refine rx_isOwner_n (Or.inr h) (br_t rfl ?_)
    have h7 : (7 : Int32) < v2 := rl_gt (n := 7) (by omega) h
    unfold wpY_block
    refine nm_r ef.symm (nm_r eg.symm (nm_r ew.symm (ry_isBlock_y hbc hp (br_f (by decide) ?_))))
    by_cases h0 : v2 < 0
    · exact br_t h0 ⟨rfl, rv_mk P⟩
    · exact br_f h0 (br_f (Int32.not_le.mpr h7) ⟨rfl, rv_mk P⟩)
  have m0 : ¬ nI m < 0 := nI_pos (by omega)
  have m7 : nI m ≤ 7 := nI_le (b := 7) (by omega) (by decide)
  refine rx_isOwner_y hm (br_f (by decide) ?_)
  by_cases hf : nI tc ≤ f
  · refine br_t hf ?_
    unfold wpY_block
    exact nm_r ef.symm (nm_r eg.symm (nm_r ew.symm (ry_isBlock_y hbc hp (br_f (by decide) (br_f m0 (br_t m7 (br_t hf ⟨rfl, rv_mk P⟩)))))))
  refine br_f hf ?_
  by_cases hg : g < nI tc
  · refine br_t hg ?_
    by_cases hw : w = 0
    · refine br_t hw ?_
      unfold wpY_block
      exact nm_r ef.symm (nm_r eg.symm (nm_r ew.symm (ry_isBlock_y hbc hp (br_f (by decide) (br_f m0 (br_t m7 (br_f hf (br_t hg (br_t hw ⟨rfl, rv_mk P⟩)))))))))
    refine br_f hw ?_
    by_cases c : bc < 21
    · have c1 : nI bc < 21 := nI_lt (b := 21) c (by decide)
      have c2 : ¬ nI bc = 21 := fun z => by
        rw [z] at c1
        exact absurd c1 (by decide)
      have hib : vp_in (nI bc) 21 := vp_in_nI c (by decide)
      have hip : vp_in (nI p) 21 := vp_in_nI (by omega) (by decide)
      have io1 : rl_io tc f := rl_io_of htc ef hf
      have io2 : rl_io tc g := rl_io_of htc eg (Int32.not_le.mpr hg)
      have hst : st 0 = 1 := (S 0 h0).elim (fun q => q.1) (fun q => absurd (rl_V_0 H hz) q.2)
      refine br_t c1 ?_
      rw [nI_clamp (n := bc) (by omega), nI_clamp (n := p) (by omega)]
      refine nm_r (nI_1 bc) ⟨hib, nm_e ⟨hib, nm_e ⟨hip, hib, nm_e ⟨hip, hib, nm_e (rx_build T htc c hp pk_us io1 io2 (fun am' ca' fi' ho hn => ?_))⟩⟩⟩⟩
      have G := rl_G_bl (by omega) h0 H hp w io1 io2 ho hn
      refine rx_choose (bc := bc + 1) (by omega) (by omega) G hz hst (by omega) (fun st' S' => ?_)
      have q := rl_tp_ok (tip := tip) (upd tl bc (tl p + w)) S' (by omega) (rl_V_0 G hz) (by omega)
      unfold wpY_block
      refine nm_r ef.symm (nm_r eg.symm (nm_r ew.symm (ry_isBlock_y hbc hp (br_f (by decide) (br_f m0 (br_t m7 (br_f hf (br_t hg (br_f hw (br_f c2 ?_))))))))))
      rw [nI_clamp (n := bc) (by omega), show nI bc * 2 = nI (bc * 2) from pk_mul bc 2, nI_1 (bc * 2), nI_clamp (n := bc * 2) (by omega), nI_clamp (n := bc * 2 + 1) (by omega)]
      refine ⟨hib, nm_e ⟨hib, nm_e ⟨hib, nm_e ⟨vp_in_nI (by omega) (by decide), nm_e ⟨vp_in_nI (by omega) (by decide), nm_e ⟨hib, nm_r (e' := bn) (by rw [rl_n0, rl_uv (hbn bc (by omega))]) (nm_r (nI_1 bc) ?_)⟩⟩⟩⟩⟩⟩
      refine ry_choose T htc (by omega) G S' (by omega) (fun th ya ow dn => ⟨nI_pred bc, rv_mk ⟨htc, by omega, by omega, q.1, T, G, hz, fun b hb => hbn b (by omega), S', q.2⟩⟩)
    · have e : bc = 21 := by omega
      have c1 : ¬ nI bc < 21 := nI_nlt (b := 21) (by omega) (by omega)
      have c2 : nI bc = 21 := congrArg nI e
      refine br_f c1 ?_
      unfold wpY_block
      exact nm_r ef.symm (nm_r eg.symm (nm_r ew.symm (ry_isBlock_y hbc hp (br_f (by decide) (br_f m0 (br_t m7 (br_f hf (br_t hg (br_f hw (br_t c2 ⟨rfl, rv_mk P⟩))))))))))
  · refine br_f hg ?_
    unfold wpY_block
    exact nm_r ef.symm (nm_r eg.symm (nm_r ew.symm (ry_isBlock_y hbc hp (br_f (by decide) (br_f m0 (br_t m7 (br_f hf (br_f hg ⟨rfl, rv_mk P⟩))))))))
end
