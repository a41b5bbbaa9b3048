/-! the pure picture of a branch: a row of 64 amounts and a set of transactions carried out -/
theorem rl_nm1 {t : Nat} (h : t < 2 ^ 31) : ¬ nI t = -1 := by
  intro e
  have e2 := congrArg Int32.toInt e
  rw [nI_toInt h, show (-1 : Int32).toInt = -1 from by decide] at e2
  omega
theorem rl_sub0 {x y : Int32} (h : y ≤ x) (hy : 0 ≤ y) : 0 ≤ x - y := by
  rw [Int32.le_iff_toInt_le] at h hy
  rw [Int32.le_iff_toInt_le]
  have h2 := Int32.toInt_lt x
  rw [show (0 : Int32).toInt = 0 from by decide] at hy
  rw [show (0 : Int32).toInt = 0 from by decide, Int32.toInt_sub, Int.bmod_eq_of_le (by omega) (by omega)]
  omega
theorem rl_b1 (j : Nat) : bt 1 j = decide (j = 0) := by
  rcases Nat.lt_or_ge j 32 with h | h
  · exact (by decide +kernel : ∀ i, i < 32 → bt 1 i = decide (i = 0)) j h
  · rw [b_big h, decide_eq_false (by omega)]
theorem rl_bsh {t : Nat} (ht : t < 32) (j : Nat) : bt ((1 : Int32) <<< (nI t &&& 31)) j = decide (j = t) := by
  rcases Nat.lt_or_ge j 32 with h | h
  · rw [b_shl t ht 1 h, rl_b1]
    by_cases e : j = t
    · subst e
      simp
    · rcases Nat.lt_or_ge j t with h2 | h2
      · rw [decide_eq_false (by omega : ¬ t ≤ j), decide_eq_false e, Bool.false_and]
      · rw [decide_eq_false (by omega : ¬ j - t = 0), decide_eq_false e, Bool.and_false]
  · rw [b_big h, decide_eq_false (by omega)]
theorem rl_bset (x : Int32) {t : Nat} (ht : t < 32) (j : Nat) : bt (x ||| ((1 : Int32) <<< (nI t &&& 31))) j = (bt x j || decide (j = t)) := by
  rw [b_or, rl_bsh ht]
theorem rl_bit (x : Int32) {j : Nat} (hj : j < 32) : (x >>> (nI j &&& 31)) &&& 1 = if bt x j = true then 1 else 0 := by
  apply b_ext
  intro i hi
  rw [b_and, rl_b1]
  by_cases e : i = 0
  · subst e
    rw [b_sshr j hj x (by omega), if_pos (by omega)]
    by_cases h : bt x j = true
    · rw [if_pos h, rl_b1]
      simp [h]
    · rw [if_neg h, b_0]
      simp at h
      simp [h]
  · rw [decide_eq_false e, Bool.and_false]
    by_cases h : bt x j = true
    · rw [if_pos h, rl_b1, decide_eq_false e]
    · rw [if_neg h, b_0]
abbrev rl_S : Type := (Nat → Int32) × Int32
def rl_row (am : Nat → Int32) (b : Nat) : Nat → Int32 := fun c => if c < 64 then am (b * 64 + c) else 0
theorem rl_row_lt {am : Nat → Int32} {b c : Nat} (h : c < 64) : rl_row am b c = am (b * 64 + c) := if_pos h
theorem rl_row_ge {am : Nat → Int32} {b c : Nat} (h : ¬ c < 64) : rl_row am b c = 0 := if_neg h
theorem rl_row_u {am : Nat → Int32} {b c : Nat} {v : Int32} (h : c < 64) : rl_row (upd am (b * 64 + c) v) b = upd (rl_row am b) c v := by
  funext d
  by_cases hd : d < 64
  · rw [rl_row_lt hd]
    by_cases e : d = c
    · subst e
      rw [pk_us, pk_us]
    · rw [pk_un (by omega), pk_un e, rl_row_lt hd]
  · rw [rl_row_ge hd, pk_un (by omega), rl_row_ge hd]
theorem rl_row_o {am : Nat → Int32} {b b' c : Nat} {v : Int32} (h : c < 64) (hb : b' ≠ b) : rl_row (upd am (b * 64 + c) v) b' = rl_row am b' := by
  funext d
  by_cases hd : d < 64
  · rw [rl_row_lt hd, rl_row_lt hd, pk_un (by omega)]
  · rw [rl_row_ge hd, rl_row_ge hd]
def rl_cp (am : Nat → Int32) (b p c : Nat) : Nat → Int32 := fun k => if b * 64 ≤ k ∧ k < b * 64 + c then am (p * 64 + (k - b * 64)) else am k
theorem rl_cp_0 (am : Nat → Int32) (b p : Nat) : rl_cp am b p 0 = am := by
  funext k
  exact if_neg (by omega)
theorem rl_cp_r (am : Nat → Int32) {b p c : Nat} (h : p < b) (hc : c < 64) : rl_cp am b p c (p * 64 + c) = am (p * 64 + c) := if_neg (by omega)
theorem rl_cp_s (am : Nat → Int32) {b p c : Nat} : upd (rl_cp am b p c) (b * 64 + c) (am (p * 64 + c)) = rl_cp am b p (c + 1) := by
  funext k
  by_cases e : k = b * 64 + c
  · subst e
    have e2 : rl_cp am b p (c + 1) (b * 64 + c) = am (p * 64 + (b * 64 + c - b * 64)) := if_pos (by omega)
    rw [pk_us, e2, Nat.add_sub_cancel_left]
  · rw [pk_un e]
    unfold rl_cp
    by_cases h2 : b * 64 ≤ k ∧ k < b * 64 + c
    · rw [if_pos h2, if_pos (by omega)]
    · rw [if_neg h2, if_neg (by omega)]
theorem rl_cp_b (am : Nat → Int32) (b p : Nat) : rl_row (rl_cp am b p 64) b = rl_row am p := by
  funext d
  by_cases hd : d < 64
  · have e2 : rl_cp am b p 64 (b * 64 + d) = am (p * 64 + (b * 64 + d - b * 64)) := if_pos (by omega)
    rw [rl_row_lt hd, rl_row_lt hd, e2, Nat.add_sub_cancel_left]
  · rw [rl_row_ge hd, rl_row_ge hd]
theorem rl_cp_o (am : Nat → Int32) {b b' : Nat} (p : Nat) (h : b' ≠ b) : rl_row (rl_cp am b p 64) b' = rl_row am b' := by
  funext d
  by_cases hd : d < 64
  · rw [rl_row_lt hd, rl_row_lt hd]
    exact if_neg (by omega)
  · rw [rl_row_ge hd, rl_row_ge hd]
/-! one transaction carried out -/
def rl_sp (fs ss r : Nat → Int32) (t : Nat) : Int32 :=
  if ss t = -1 then r (fs t).toNatClampNeg
  else if fs t = ss t ∨ r (fs t).toNatClampNeg = 0 ∨ r (ss t).toNatClampNeg = 0 then 0
  else r (fs t).toNatClampNeg + r (ss t).toNatClampNeg
abbrev rl_fit (fs ss pd : Nat → Int32) (s : rl_S) (t : Nat) : Prop := bt s.2 t = false ∧ pd t ≤ rl_sp fs ss s.1 t
def rl_cl (fs ss r : Nat → Int32) (t : Nat) : Nat → Int32 :=
  if ss t = -1 then upd r (fs t).toNatClampNeg 0 else upd (upd r (fs t).toNatClampNeg 0) (ss t).toNatClampNeg 0
def rl_put (fs ss pd : Nat → Int32) (s : rl_S) (t : Nat) : rl_S :=
  (upd (upd (rl_cl fs ss s.1 t) (2 * t) (pd t)) (2 * t + 1) (rl_sp fs ss s.1 t - pd t), s.2 ||| ((1 : Int32) <<< (nI t &&& 31)))
def rl_cy (fs ss pd : Nat → Int32) (s : rl_S) (i : Int32) : Option rl_S :=
  if i = -1 then some s
  else if rl_fit fs ss pd s i.toNatClampNeg then some (rl_put fs ss pd s i.toNatClampNeg) else none
def rl_st (fs ss pd : Nat → Int32) (b : Nat) (f g : Int32) (s : rl_S) : Option rl_S :=
  (rl_cy fs ss pd (upd s.1 (32 + b) 50, s.2) f).bind (fun s' => rl_cy fs ss pd s' g)
theorem rl_cy_m (fs ss pd : Nat → Int32) (s : rl_S) : rl_cy fs ss pd s (-1) = some s := if_pos rfl
theorem rl_cy_t {fs ss pd : Nat → Int32} {s : rl_S} {t : Nat} (ht : t < 2 ^ 31) (h : rl_fit fs ss pd s t) : rl_cy fs ss pd s (nI t) = some (rl_put fs ss pd s t) := by
  unfold rl_cy
  rw [if_neg (rl_nm1 ht), nI_clamp ht, if_pos h]
theorem rl_cy_n {fs ss pd : Nat → Int32} {s : rl_S} {t : Nat} (ht : t < 2 ^ 31) (h : ¬ rl_fit fs ss pd s t) : rl_cy fs ss pd s (nI t) = none := by
  unfold rl_cy
  rw [if_neg (rl_nm1 ht), nI_clamp ht, if_neg h]
theorem rl_cy_c {fs ss pd fs' ss' pd' : Nat → Int32} {s : rl_S} {t : Nat} (ht : t < 2 ^ 31) (h1 : fs' t = fs t) (h2 : ss' t = ss t) (h3 : pd' t = pd t) : rl_cy fs' ss' pd' s (nI t) = rl_cy fs ss pd s (nI t) := by
  have e1 : rl_sp fs' ss' s.1 t = rl_sp fs ss s.1 t := by
    unfold rl_sp
    rw [h1, h2]
  have e2 : rl_put fs' ss' pd' s t = rl_put fs ss pd s t := by
    unfold rl_put rl_cl
    rw [e1, h1, h2, h3]
  have e3 : (bt s.2 t = false ∧ pd' t ≤ rl_sp fs' ss' s.1 t) ↔ (bt s.2 t = false ∧ pd t ≤ rl_sp fs ss s.1 t) := by rw [e1, h3]
  by_cases h : rl_fit fs ss pd s t
  · rw [rl_cy_t ht h, rl_cy_t ht (e3.mpr h), e2]
  · rw [rl_cy_n ht h, rl_cy_n ht (fun z => h (e3.mp z))]
theorem rl_sp1 {fs ss r : Nat → Int32} {t x : Nat} (hx : x < 64) (e1 : fs t = nI x) (e2 : ss t = -1) : rl_sp fs ss r t = r x := by
  unfold rl_sp
  rw [if_pos e2, e1, nI_clamp (by omega)]
theorem rl_sp2 {fs ss r : Nat → Int32} {t x y : Nat} (hx : x < 64) (hy : y < 64) (e1 : fs t = nI x) (e2 : ss t = nI y) (h : x ≠ y) (h1 : r x ≠ 0) (h2 : r y ≠ 0) : rl_sp fs ss r t = r x + r y := by
  unfold rl_sp
  rw [e2, if_neg (rl_nm1 (by omega)), e1, nI_clamp (by omega), nI_clamp (by omega), if_neg]
  rw [nI_eq (by omega) (by omega)]
  intro z
  rcases z with z | z | z
  · exact h z
  · exact h1 z
  · exact h2 z
theorem rl_sp0 {fs ss r : Nat → Int32} {t x y : Nat} (hx : x < 64) (hy : y < 64) (e1 : fs t = nI x) (e2 : ss t = nI y) (h : x = y ∨ r x = 0 ∨ r y = 0) : rl_sp fs ss r t = 0 := by
  unfold rl_sp
  rw [e2, if_neg (rl_nm1 (by omega)), e1, nI_clamp (by omega), nI_clamp (by omega), if_pos]
  rw [nI_eq (by omega) (by omega)]
  exact h
theorem rl_cl1 {fs ss r : Nat → Int32} {t x : Nat} (hx : x < 64) (e1 : fs t = nI x) (e2 : ss t = -1) : rl_cl fs ss r t = upd r x 0 := by
  unfold rl_cl
  rw [if_pos e2, e1, nI_clamp (by omega)]
theorem rl_cl2 {fs ss r : Nat → Int32} {t x y : Nat} (hx : x < 64) (hy : y < 64) (e1 : fs t = nI x) (e2 : ss t = nI y) : rl_cl fs ss r t = upd (upd r x 0) y 0 := by
  unfold rl_cl
  rw [e2, if_neg (rl_nm1 (by omega)), e1, nI_clamp (by omega), nI_clamp (by omega)]
theorem rl_u0 (r : Nat → Int32) (x c : Nat) : upd r x 0 c = 0 ∨ upd r x 0 c = r c := by
  by_cases e : c = x
  · subst e
    exact Or.inl pk_us
  · exact Or.inr (pk_un e)
theorem rl_cl_or (fs ss r : Nat → Int32) (t c : Nat) : rl_cl fs ss r t c = 0 ∨ rl_cl fs ss r t c = r c := by
  unfold rl_cl
  by_cases h : ss t = -1
  · rw [if_pos h]
    exact rl_u0 _ _ _
  · rw [if_neg h]
    rcases rl_u0 (upd r (fs t).toNatClampNeg 0) (ss t).toNatClampNeg c with z | z
    · exact Or.inl z
    · rw [z]
      exact rl_u0 _ _ _
