/-! block -/
variable {tc bc tip : Nat} {fs ss pd sn rc pa mi tl bn st br ca fi am wk ins th ya ow dn : Nat → Int32}
theorem i_vc_block {k : Nat} {u : SX} {v : SY} (I : i_Rel k u v) (hk : k + 5 ≤ 2560) (v1 : Int32) (v2 : Int32) (v3 : Int32) : wpX_block (fun r u' => wpY_block (fun r' v' => r' = r ∧ i_Rel (k + 5) u' v') v v1 v2 v3) u v1 v2 v3 := by
  obtain ⟨tc, bc, tip, fs, ss, pd, sn, rc, pa, mi, tl, bn, st, br, ca, fi, am, wk, ins, th, ya, ow, dn, rfl, rfl, P⟩ := I
  obtain ⟨htc, h0, hbc, ht, T, H, hz, hbn, S, hV⟩ := id P
  unfold wpX_block
  intro f ef g eg w ew
  have split : ∀ x : Int32, (x < 0 ∨ nI bc ≤ x) ∨ ∃ j, j < bc ∧ x = nI j := by
    intro x
    rcases pk_ix x (n := bc) (by omega) with h | h | h
    · exact Or.inl (Or.inl h)
    · exact Or.inl (Or.inr h)
    · exact Or.inr h
  rcases split v1 with hx | ⟨p, hp, rfl⟩
  · refine rx_isBlock_n hx (br_t rfl ?_)
    unfold wpY_block
    exact nm_r ef.symm (nm_r eg.symm (nm_r ew.symm (ry_isBlock_n hx (br_t rfl ⟨rfl, rv_mk P⟩))))
  refine rx_isBlock_y hbc hp (br_f (by decide) ?_)
  rcases pk_ix v2 (n := 8) (by omega) with h | h | ⟨m, hm, rfl⟩
  · refine rx_isOwner_n (Or.inl h) (br_t rfl ?_)
    unfold wpY_block
    exact nm_r ef.symm (nm_r eg.symm (nm_r ew.symm (ry_isBlock_y hbc hp (br_f (by decide) (br_t h ⟨rfl, rv_mk P⟩)))))
  · refine rx_isOwner_n (Or.inr h) (br_t rfl ?_)
    have h7 : (7 : Int32) < v2 := rl_gt (n := 7) (by omega) h
    unfold wpY_block
    refine nm_r ef.symm (nm_r eg.symm (nm_r ew.symm (ry_isBlock_y hbc hp (br_f (by decide) ?_))))
    by_cases h0 : v2 < 0
    · exact br_t h0 ⟨rfl, rv_mk P⟩
    · exact br_f h0 (br_f (Int32.not_le.mpr h7) ⟨rfl, rv_mk P⟩)
  have m0 : ¬ nI m < 0 := nI_pos (by omega)
  have m7 : nI m ≤ 7 := nI_le (b := 7) (by omega) (by decide)
  refine rx_isOwner_y hm (br_f (by decide) ?_)
  by_cases hf : nI tc ≤ f
  · refine br_t hf ?_
    unfold wpY_block
    exact nm_r ef.symm (nm_r eg.symm (nm_r ew.symm (ry_isBlock_y hbc hp (br_f (by decide) (br_f m0 (br_t m7 (br_t hf ⟨rfl, rv_mk P⟩)))))))
  refine br_f hf ?_
  by_cases hg : g < nI tc
  · refine br_t hg ?_
    by_cases hw : w = 0
    · refine br_t hw ?_
      unfold wpY_block
      exact nm_r ef.symm (nm_r eg.symm (nm_r ew.symm (ry_isBlock_y hbc hp (br_f (by decide) (br_f m0 (br_t m7 (br_f hf (br_t hg (br_t hw ⟨rfl, rv_mk P⟩)))))))))
    refine br_f hw ?_
    by_cases c : bc < 21
    · have c1 : nI bc < 21 := nI_lt (b := 21) c (by decide)
      have c2 : ¬ nI bc = 21 := fun z => by
        rw [z] at c1
        exact absurd c1 (by decide)
      have hib : vp_in (nI bc) 21 := vp_in_nI c (by decide)
      have hip : vp_in (nI p) 21 := vp_in_nI (by omega) (by decide)
      have io1 : rl_io tc f := rl_io_of htc ef hf
      have io2 : rl_io tc g := rl_io_of htc eg (Int32.not_le.mpr hg)
      have hst : st 0 = 1 := (S 0 h0).elim (fun q => q.1) (fun q => absurd (rl_V_0 H hz) q.2)
      refine br_t c1 ?_
      rw [nI_clamp (n := bc) (by omega), nI_clamp (n := p) (by omega)]
      refine nm_r (nI_1 bc) ⟨hib, nm_e ⟨hib, nm_e ⟨hip, hib, nm_e ⟨hip, hib, nm_e (rx_build T htc c hp pk_us io1 io2 (fun am' ca' fi' ho hn => ?_))⟩⟩⟩⟩
      have G := rl_G_bl (by omega) h0 H hp w io1 io2 ho hn
      refine rx_choose (bc := bc + 1) (by omega) (by omega) G hz hst (by omega) (fun st' S' => ?_)
      have q := rl_tp_ok (tip := tip) (upd tl bc (tl p + w)) S' (by omega) (rl_V_0 G hz) (by omega)
      unfold wpY_block
      refine nm_r ef.symm (nm_r eg.symm (nm_r ew.symm (ry_isBlock_y hbc hp (br_f (by decide) (br_f m0 (br_t m7 (br_f hf (br_t hg (br_f hw (br_f c2 ?_))))))))))
      rw [nI_clamp (n := bc) (by omega), show nI bc * 2 = nI (bc * 2) from pk_mul bc 2, nI_1 (bc * 2), nI_clamp (n := bc * 2) (by omega), nI_clamp (n := bc * 2 + 1) (by omega)]
      refine ⟨hib, nm_e ⟨hib, nm_e ⟨hib, nm_e ⟨vp_in_nI (by omega) (by decide), nm_e ⟨vp_in_nI (by omega) (by decide), nm_e ⟨hib, nm_r (e' := bn) (by rw [rl_n0, rl_uv (hbn bc (by omega))]) (nm_r (nI_1 bc) ?_)⟩⟩⟩⟩⟩⟩
      refine ry_choose T htc (by omega) G S' (by omega) (fun th ya ow dn => ⟨nI_pred bc, rv_mk ⟨htc, by omega, by omega, q.1, T, G, hz, fun b hb => hbn b (by omega), S', q.2⟩⟩)
    · have e : bc = 21 := by omega
      have c1 : ¬ nI bc < 21 := nI_nlt (b := 21) (by omega) (by omega)
      have c2 : nI bc = 21 := congrArg nI e
      refine br_f c1 ?_
      unfold wpY_block
      exact nm_r ef.symm (nm_r eg.symm (nm_r ew.symm (ry_isBlock_y hbc hp (br_f (by decide) (br_f m0 (br_t m7 (br_f hf (br_t hg (br_f hw (br_t c2 ⟨rfl, rv_mk P⟩))))))))))
  · refine br_f hg ?_
    unfold wpY_block
    exact nm_r ef.symm (nm_r eg.symm (nm_r ew.symm (ry_isBlock_y hbc hp (br_f (by decide) (br_f m0 (br_t m7 (br_f hf (br_f hg ⟨rfl, rv_mk P⟩))))))))
