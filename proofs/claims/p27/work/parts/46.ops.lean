/-! delays, readied acts, who comes in: both sides -/
def zletin (z : Nat → Int32) (f c : Nat) : Nat → Int32 := zl (zbehind z f c) f 6 0
def zl4 (z : Nat → Int32) (f : Nat) (a b c d : Int32) : Nat → Int32 := zl (zl (zl (zl z f 7 a) f 8 b) f 9 c) f 10 d
def zdelay (z : Nat → Int32) (f : Nat) : Nat → Int32 := zend (zl z f 6 1) f
def zready (z : Nat → Int32) (f : Nat) (a b c d : Int32) : Nat → Int32 := zend (zl4 z f a b c d) f
theorem zl4_o {z : Nat → Int32} {f g w : Nat} {a b c d : Int32} (hw : w < 17) : zo (zl4 z f a b c d) g w = if g = f then (if w = 10 then d else if w = 9 then c else if w = 8 then b else if w = 7 then a else zo z g w) else zo z g w := by
  unfold zl4
  rw [zo_zl (by decide) hw, zo_zl (by decide) hw, zo_zl (by decide) hw, zo_zl (by decide) hw]
  by_cases e : g = f
  · subst e
    simp only [true_and, if_true]
  · simp only [e, false_and, if_false]
theorem zl4_lo {z : Nat → Int32} {f i : Nat} {a b c d : Int32} (h : i < 16) : zl4 z f a b c d i = z i := by unfold zl4; rw [zl_lo h, zl_lo h, zl_lo h, zl_lo h]
theorem Z0_l4 {z : Nat → Int32} {f : Nat} {a b c d : Int32} (hz : Z0 z) : Z0 (zl4 z f a b c d) ∧ zn (zl4 z f a b c d) = zn z ∧ ∀ i, i < zn z → zrow (zl4 z f a b c d) i = zrow z i := Z0_of hz (fun i hi _ _ _ _ _ => zl4_lo hi)
theorem ZW_l4 {z : Nat → Int32} {f : Nat} {a b c d : Int32} (hz : ZW z) (hf : f < zn z) (ha : a = 0 ∨ a = 2) (hb : ∃ g, g < zn z ∧ b = nI g) (hc : c = -1 ∨ ∃ g, g < zn z ∧ c = nI g) (hd : ∃ k, k ≤ 3 ∧ d = nI k) : ZW (zl4 z f a b c d) := by
  have h10 := hz.1.2.1
  obtain ⟨z1, z2, z3⟩ := Z0_l4 (f := f) (a := a) (b := b) (c := c) (d := d) hz.1
  refine ⟨z1, fun g hg => ?_, fun j hj => ?_⟩
  · rw [z2] at hg
    have h := hz.2.1 g hg
    by_cases e : g = f
    · obtain ⟨h0, h2, h3, h4, h5, h6, h7, h8⟩ := h
      have o : ∀ w, w < 17 → ¬ (7 ≤ w ∧ w ≤ 10) → zo (zl4 z f a b c d) g w = zo z g w := fun w hw h => by rw [zl4_o hw, if_pos e, if_neg (by omega), if_neg (by omega), if_neg (by omega), if_neg (by omega)]
      have e7 : zo (zl4 z f a b c d) g 7 = a := by rw [zl4_o (by decide), if_pos e]; rfl
      have e8 : zo (zl4 z f a b c d) g 8 = b := by rw [zl4_o (by decide), if_pos e]; rfl
      have e9 : zo (zl4 z f a b c d) g 9 = c := by rw [zl4_o (by decide), if_pos e]; rfl
      have e10 : zo (zl4 z f a b c d) g 10 = d := by rw [zl4_o (by decide), if_pos e]; rfl
      refine ⟨by rw [o 0 (by decide) (by decide)]; exact h0, by rw [o 2 (by decide) (by decide)]; exact h2, by rw [o 3 (by decide) (by decide)]; exact h3, by rw [o 4 (by decide) (by decide)]; exact h4, by rw [o 5 (by decide) (by decide)]; exact h5, by rw [o 6 (by decide) (by decide)]; exact h6, Or.inr ⟨by rw [e7]; exact ha, by rw [e8, z2]; exact hb, by rw [e9, z2]; exact hc, by rw [e10]; exact hd⟩, fun k hk => ?_⟩
      rw [o (11 + k) (by omega) (by omega)]
      exact h8 k hk
    · exact fw_of z2 (fun w hw _ _ _ => by rw [zl4_o hw, if_neg e]) h
  · unfold zl4
    rw [hi_zl (by omega) (by decide) hj, hi_zl (by omega) (by decide) hj, hi_zl (by omega) (by decide) hj, hi_zl (by omega) (by decide) hj]
    exact hz.2.2 j hj
theorem letin_ok {z : Nat → Int32} {f c : Nat} (hz : ZW z) (hf : f < zn z) (hc : c < zn z) (hfc : f ≠ c) (ht : z 2 = nI c) (h2 : ¬ zo z c 2 = 0) (h6 : zo z c 6 = 0) (h7 : zo z c 7 = -1) : ZW (zletin z f c) ∧ TH (zletin z f c) ∧ zn (zletin z f c) = zn z ∧ zo (zletin z f c) f 1 = zo z c 1 := by
  obtain ⟨a1, a2⟩ := ZW_behind hz hf hc
  have hn : zn (zletin z f c) = zn z := by unfold zletin; rw [zn_zl a1.1, a2]
  have hcf : c ≠ f := fun e => hfc e.symm
  have ho : ∀ w, w < 17 → zo (zletin z f c) c w = zo z c w := fun w hw => by
    unfold zletin
    rw [zo_zl (by decide) hw, if_neg (fun q => hcf q.1), behind_o hz.1 hf hc hw, if_neg (fun q => hcf q.1)]
  refine ⟨ZW_zl a1 (by rw [a2]; exact hf) (by decide) (vok_del (Or.inl rfl)), Or.inr ⟨c, by rw [hn]; exact hc, ?_, by rw [ho 2 (by decide)]; exact h2, by rw [ho 6 (by decide)]; exact h6, by rw [ho 7 (by decide)]; exact h7⟩, hn, ?_⟩
  · unfold zletin zbehind
    rw [zl_lo (by decide), zl_lo (by decide), zmv_else (zpn_lt hz.1 hf).1 (ztb_lt hz.1 hf hc) (Or.inl (by decide)), ht]
  · unfold zletin
    rw [zo_zl (by decide) (by decide), if_neg (fun q => absurd q.2 (by decide)), behind_o hz.1 hf hc (by decide), if_pos ⟨rfl, rfl⟩]
theorem ccan_l {M : MS} {v f : Nat} {z : Nat → Int32} (h : CZ M v z) (hz : ZW z) (hf : f < zn z) : F_X3_canBeLetIn M v (nI f) = some (if z 2 = -1 then 0 else if zo z f 6 = 1 then (if zo z f 2 = 0 then 0 else 1) else 0) := by
  rw [F_X3_canBeLetIn, h.1.2.2.1]
  by_cases h2 : z 2 = -1
  · rw [if_pos h2, if_pos h2]
  · rw [if_neg h2, if_neg h2, at_l hz.1 h hf, bd_s, f_del h hf]
    rcases (hz.2.1 f hf).2.2.2.2.2.1 with c6 | c6
    · rw [if_pos c6, c6, if_neg i01]
    · rw [c6, if_neg i10, if_pos rfl, bd_s, fal_l h hf (hz.2.1 f hf), bd_s]
      by_cases c2 : zo z f 2 = 0
      · rw [if_pos c2, if_pos i10, if_pos c2]
      · rw [if_neg c2, if_neg (fun q => q rfl), if_neg c2]
theorem ccan_no {M : MS} {v : Nat} {z : Nat → Int32} {x : Int32} (h : CZ M v z) (hx : x < 0 ∨ z 0 ≤ x) : F_X3_canBeLetIn M v x = some 0 := by
  rw [F_X3_canBeLetIn]
  by_cases h2 : rF M 54 v = -1
  · rw [if_pos h2]
  · rw [if_neg h2, at_no h hx, bd_s, h.2.2.2.2, if_pos rfl]
theorem cletin_l {M0 M : MS} {v f c : Nat} {R z : Nat → Int32} (h : CR M0 v R M z) (hz : ZW z) (hf : f < zn z) (hc : c < zn z) (hfc : f ≠ c) (ht : z 2 = nI c) : ∃ M', F_X3_letIn M v (nI f) = some (zo (zletin z f c) f 1, M') ∧ CR M0 v R M' (zletin z f c) := by
  obtain ⟨_, M4, g1, g2⟩ := cmv_l h hf hc hfc
  have hb := hz.1.2.1
  have htl := ztb_lt hz.1 hf hc
  have hp := (zpn_lt hz.1 hf).1
  have n1 : zn (zmv z (nI f) (zpn z f) (ztb z f c)) = zn z := by
    have := (Z0_mv hz.1 hp htl).2.1
    rw [(zpn_lt hz.1 hf).2.2] at this
    exact this
  have hcc : c < zn (zmv z (nI f) (zpn z f) (ztb z f c)) := by rw [n1]; exact hc
  have hff : f < zn (zmv z (nI f) (zpn z f) (ztb z f c)) := by rw [n1]; exact hf
  rw [F_X3_letIn, at_l hz.1 h.2.1 hf, bd_s, h.2.1.1.2.2.1, ht, g1, bd_s, g2.2.1.1.2.2.1, zmv_else hp htl (Or.inl (by decide)), ht, at_l g2.1 g2.2.1 hcc, bd_s, f_init g2.2.1 hcc, mv_o hb hp htl, nm_k, nm_k]
  have g3 := CR_set (f := f) (w := 1) (x := zo z c 1) g2 hff (by decide)
  have e1 : zl (zmv z (nI f) (zpn z f) (ztb z f c)) f 1 (zo z c 1) = zbehind z f c := rfl
  rw [e1] at g3
  have n3 : zn (zbehind z f c) = zn z := (ZW_behind hz hf hc).2
  have g4 := CR_set (f := f) (w := 6) (x := 0) g3 (by rw [n3]; exact hf) (by decide)
  have n4 : zn (zl (zbehind z f c) f 6 0) = zn z := (CR_n g3).trans n3
  refine ⟨_, ?_, g4⟩
  have e2 := f_init g4.2.1 (f := f) (by rw [n4]; exact hf)
  exact congrArg (fun q => some (q, cw (cw M4 v f 1 (zo z c 1)) v f 6 0)) e2
theorem cdelay_l {M0 M : MS} {v f : Nat} {R z : Nat → Int32} (h : CR M0 v R M z) (hz : ZW z) (hf : f < zn z) (ht : z 2 = nI f) : ∃ M', F_X3_delayTurn M v = some M' ∧ CR M0 v R M' (zdelay z f) := by
  have h1 : ZW (zl z f 6 1) := ZW_zl hz hf (by decide) (vok_del (Or.inr rfl))
  have g1 := CR_set (f := f) (w := 6) (x := 1) h hf (by decide)
  obtain ⟨M', k1, k2⟩ := cend_eq g1 h1 (f := f) (by rw [zn_zl hz.1]; exact hf) (by rw [zl_lo (by decide), ht])
  have k1' : F_X3_endTurn (wF M 7 (v + 1 + 4 + f) 1) v = some M' := k1
  rw [F_X3_delayTurn, h.2.1.1.2.2.1, ht, at_l hz.1 h.2.1 hf, bd_s, nm_k, k1', bd_s]
  exact ⟨M', rfl, k2⟩
theorem delay_ok {z : Nat → Int32} {f : Nat} (hz : ZW z) (hf : f < zn z) : ZW (zdelay z f) ∧ TH (zdelay z f) ∧ zn (zdelay z f) = zn z := by
  have h1 : ZW (zl z f 6 1) := ZW_zl hz hf (by decide) (vok_del (Or.inr rfl))
  obtain ⟨a, b, c⟩ := zend_ok h1 (f := f) (by rw [zn_zl hz.1]; exact hf)
  exact ⟨a, b, c.trans (zn_zl hz.1)⟩
theorem cready_l {M0 M : MS} {v f : Nat} {R z : Nat → Int32} {a b c d : Int32} (h : CR M0 v R M z) (hz : ZW z) (hf : f < zn z) (ht : z 2 = nI f) (hw : ZW (zl4 z f a b c d)) : ∃ M', F_X3_readyAct M v a b c d = some M' ∧ CR M0 v R M' (zready z f a b c d) := by
  have g1 := CR_set (f := f) (w := 7) (x := a) h hf (by decide)
  have g2 := CR_set (f := f) (w := 8) (x := b) g1 (by rw [CR_n h]; exact hf) (by decide)
  have g3 := CR_set (f := f) (w := 9) (x := c) g2 (by rw [CR_n g1, CR_n h]; exact hf) (by decide)
  have g4 := CR_set (f := f) (w := 10) (x := d) g3 (by rw [CR_n g2, CR_n g1, CR_n h]; exact hf) (by decide)
  obtain ⟨M', k1, k2⟩ := cend_eq (z := zl4 z f a b c d) g4 hw (f := f) (by rw [(Z0_l4 hz.1).2.1]; exact hf) (by rw [zl4_lo (by decide), ht])
  have k1' : F_X3_endTurn (wF (wF (wF (wF M 8 (v + 1 + 4 + f) a) 9 (v + 1 + 4 + f) b) 10 (v + 1 + 4 + f) c) 11 (v + 1 + 4 + f) d) v = some M' := k1
  rw [F_X3_readyAct, h.2.1.1.2.2.1, ht, at_l hz.1 h.2.1 hf, bd_s, nm_k, nm_k, nm_k, nm_k, k1', bd_s]
  exact ⟨M', rfl, k2⟩
theorem ready_ok {z : Nat → Int32} {f : Nat} {a b c d : Int32} (hz : ZW z) (hf : f < zn z) (hw : ZW (zl4 z f a b c d)) : ZW (zready z f a b c d) ∧ TH (zready z f a b c d) ∧ zn (zready z f a b c d) = zn z := by
  obtain ⟨h1, h2, h3⟩ := zend_ok hw (f := f) (by rw [(Z0_l4 hz.1).2.1]; exact hf)
  exact ⟨h1, h2, h3.trans (Z0_l4 hz.1).2.1⟩

