theorem act1_ok {z : Nat → Int32} {f c r : Nat} {kd x ri : Int32} (hz : ZW (zoff z f kd)) (hn : zn (zoff z f kd) = zn z) (hf : f < zn z) (hx : xok z kd x) (hc : c < 4) (hr : r ≤ 5) (hri : ri = nI r) : ZW (zact1 z f kd x c ri) ∧ zn (zact1 z f kd x c ri) = zn z := by
  have hu : ZW (upd (zoff z f kd) 4 (zoff z f kd 4 + 1)) ∧ zn (upd (zoff z f kd) 4 (zoff z f kd 4 + 1)) = zn z := ⟨ZW_up hz (by decide) (by decide), (zn_up hz.1 (by decide) (by decide)).trans hn⟩
  unfold zact1
  split
  · exact hu
  · split
    · obtain ⟨a, b⟩ := ZW_do (c := c) (r := r) (ri := ri) hz (by rw [hn]; exact hf) (xok_of hn hx) hc hr hri
      exact ⟨a, b.trans hn⟩
    · exact hu
theorem act_eq {M : MS} {f c r : Nat} {kd x ci ri : Int32} (hz : ZW (rA M 221)) (hf : f < zn (rA M 221)) (ht : rA M 221 2 = nI f) (hx : xok (rA M 221) kd x) (hc : c < 4) (hci : ci = nI c) (hr : r ≤ 5) (hri : ri = nI r) :
    ∃ M', F_X5_act M kd x ci ri = some (zactR (rA M 221) f kd x c ri, M') ∧ FQ M M' ∧ rA M' 221 = zact (rA M 221) f kd x c ri ∧ rF M' 88 220 = nI (zsl (rA M 221) f kd (zn (rA M 221))).length ∧ ZW (zact (rA M 221) f kd x c ri) ∧ TH (zact (rA M 221) f kd x c ri) ∧ zn (zact (rA M 221) f kd x c ri) = zn (rA M 221) := by
  obtain ⟨z, hzz⟩ : ∃ z, rA M 221 = z := ⟨_, rfl⟩
  obtain ⟨M1, g1, g2, g3, g4, g5⟩ := setOff_eq (kd := kd) hz hf
  rw [hzz] at hz hf ht hx g1 g3 g4 g5 ⊢
  have hb := hz.1.2.1
  obtain ⟨a1, a2⟩ := act1_ok (x := x) (c := c) (r := r) (ri := ri) g4 g5 hf hx hc hr hri
  obtain ⟨e1, e2, e3⟩ := zend_ok (f := f) a1 (by rw [a2]; exact hf)
  -- the holder's number stays in place 2
  have h2so : ∀ (l : List Nat) (y : Nat → Int32), ZW y → f < zn y → (∀ a, a ∈ l → a < zn y ∧ ¬ zo y a 7 = -1) → l.Nodup → zso f l y 2 = y 2 := by
    intro l
    induction l with
    | nil => intro y _ _ _ _; rfl
    | cons a l ih =>
      intro y hy hfy hm hd
      obtain ⟨q1, q2⟩ := hm a (List.mem_cons_self ..)
      obtain ⟨w1, w2⟩ := ZW_one hy q1 hfy q2
      have hnd := List.nodup_cons.mp hd
      rw [zso, ih (zone y f a) w1 (by rw [w2]; exact hfy) (fun b hb => by
        obtain ⟨p1, p2⟩ := hm b (List.mem_cons_of_mem _ hb)
        exact ⟨by rw [w2]; exact p1, by rw [zone_rd hy q1 hfy q2 (fun e => hnd.1 (by rw [← e]; exact hb))]; exact p2⟩) hnd.2]
      have h1 := ZW_lose hy q1
      have n1 := (Z0_lose (f := a) hy.1).2.1
      have hxx := xok_of n1 (rd_xok (hy.2.1 a q1) q2)
      have hah : ∀ zz : Nat → Int32, ZW zz → zn zz = zn y → zahead zz a f 2 = zz 2 := fun zz hzz hnn => by
        unfold zahead
        rw [zl_lo (by decide), zmv_else (zpn_lt hzz.1 (by rw [hnn]; exact q1)).1 (zta_lt hzz.1 (by rw [hnn]; exact q1) (by rw [hnn]; exact hfy)) (Or.inl (by decide))]
      unfold zone
      split
      · obtain ⟨c1, c2⟩ := ZW_do (c := 0) (r := 0) (ri := 0) h1 (by rw [n1]; exact q1) hxx (by decide) (by decide) rfl
        rw [hah _ c1 (c2.trans n1)]
        have hcn : zcnt (zlose y a) a 2 = y 2 := by unfold zcnt; rw [zl_lo (by decide), upd_n (by decide), zlose_lo (by decide)]
        unfold zdo
        split
        · unfold zstr; rw [zl_lo (by decide), zl_lo (by decide), hcn]
        split
        · unfold zhlp; rw [zl_lo (by decide), zl_lo (by decide), hcn]
        split
        · rw [zl_lo (by decide), hcn]
        · rw [zl_lo (by decide), hcn]
      · rw [hah _ (ZW_up h1 (by decide) (by decide)) (by rw [zn_up h1.1 (by decide) (by decide), n1]), upd_n (by decide), zlose_lo (by decide)]
  have h2 : zoff z f kd 2 = nI f := by
    unfold zoff
    rw [h2so _ z hz hf (fun a ha => by
      obtain ⟨q1, i, q2, q3⟩ := zsl_mem _ ha
      exact ⟨by rw [q3]; exact (hz.1.2.2.1 i q2).2, zset_kd q1⟩) (zsl_nodup hz.1 _ (Nat.le_refl _)), ht]
  have h21 : zact1 z f kd x c ri 2 = nI f := by
    have hcn : zcnt (zoff z f kd) f 2 = nI f := by unfold zcnt; rw [zl_lo (by decide), upd_n (by decide), h2]
    unfold zact1
    split
    · rw [upd_n (by decide), h2]
    split
    · unfold zdo
      split
      · unfold zstr; rw [zl_lo (by decide), zl_lo (by decide), hcn]
      split
      · unfold zhlp; rw [zl_lo (by decide), zl_lo (by decide), hcn]
      split
      · rw [zl_lo (by decide), hcn]
      · rw [zl_lo (by decide), hcn]
    · rw [upd_n (by decide), h2]
  -- behind what is set off
  obtain ⟨M2, hM2⟩ : ∃ M2, wF M1 88 220 (nI (zsl z f kd (zn z)).length) = M2 := ⟨_, rfl⟩
  have m1 : rA M2 221 = zoff z f kd := by rw [← hM2]; exact g3
  have m2 : FQ M M2 := FQ_trans g2 (by rw [← hM2]; exact FQ_88)
  have m3 : rF M2 88 220 = nI (zsl z f kd (zn z)).length := by rw [← hM2]; exact rF_self
  have key : ∀ (y : Nat → Int32) (t : Int32), y = zact1 z f kd x c ri → t = zactR z f kd x c ri → ∃ M', (bd (F_X5_endTurn (mz M2 y)) fun M13 => (some (t, M13))) = some (zactR z f kd x c ri, M') ∧ FQ M M' ∧ rA M' 221 = zact z f kd x c ri ∧ rF M' 88 220 = nI (zsl z f kd (zn z)).length ∧ ZW (zact z f kd x c ri) ∧ TH (zact z f kd x c ri) ∧ zn (zact z f kd x c ri) = zn z := by
    intro y t hy ht2
    subst hy
    subst ht2
    have h := endT (M := mz M2 (zact1 z f kd x c ri)) (f := f) (by rw [mz_z]; exact a1) (by rw [mz_z, a2]; exact hf) (by rw [mz_z]; exact h21)
    rw [mz_z, mz_mz] at h
    rw [h, bd_s]
    exact ⟨_, rfl, FQ_trans m2 FQ_mz, mz_z, m3, e1, e2, e3.trans a2⟩
  rw [F_X5_act, gd2, nm_k, tn2, hzz, ht, g1, bd2_s, nm_k, hM2, fallen_eq (by omega), bd_s, nm_k, nm_k, m1]
  by_cases c1 : zo (zoff z f kd) f 2 = 0
  · rw [if_pos c1, if_pos (by decide), gd4, gd4, nm_k, tn4, wA_z, m1]
    exact key _ _ (by unfold zact1; rw [if_pos c1]) (by unfold zactR; rw [if_pos c1])
  rw [if_neg c1, if_neg (by decide), pos_eq (by omega) (xok_10 g4.1 (xok_of g5 hx)), bd_s, m1]
  by_cases c3 : zpos (zoff z f kd) f kd x = true
  · rw [if_pos c3, if_neg (by decide), do_eq (f := f) (c := c) (by omega) (xok_10 g4.1 (xok_of g5 hx)) hc hci, bd2_s, m1]
    exact key _ _ (by unfold zact1; rw [if_neg c1, if_pos c3]) (by unfold zactR; rw [if_neg c1, if_pos c3])
  · rw [if_neg c3, if_pos rfl, gd4, gd4, nm_k, tn4, wA_z, m1]
    exact key _ _ (by unfold zact1; rw [if_neg c1, if_neg c3]) (by unfold zactR; rw [if_neg c1, if_neg c3])
theorem can_no {M : MS} {kd x : Int32} (ht : rA M 221 2 = -1) : F_X5_canAct M kd x = some 0 := by
  rw [F_X5_canAct, gd2, tn2, ht, if_pos rfl]
theorem can_eq {M : MS} {f : Nat} {kd x : Int32} (hz : Z0 (rA M 221)) (hf : f < zn (rA M 221)) (ht : rA M 221 2 = nI f) (hx : xok (rA M 221) kd x) : F_X5_canAct M kd x = some (if zpos (rA M 221) f kd x = true then 1 else 0) := by
  have hb := hz.2.1
  rw [F_X5_canAct, gd2, tn2, ht, if_neg (ne1 f (by omega)), gd2, pos_eq (by omega) (xok_10 hz hx), bd_s]
  split
  · rw [if_neg (by decide)]
  · rw [if_pos rfl]
theorem isF_no {M : MS} {x : Int32} (h : x < 0 ∨ rA M 221 0 ≤ x) : F_X5_isFighter M x = some 0 := by
  rw [F_X5_isFighter]
  by_cases c : x < 0
  · rw [if_pos c]
  · rw [if_neg c, gd0, tn0, if_pos (h.resolve_left c)]
theorem isF_yes {M : MS} {g : Nat} (hz : Z0 (rA M 221)) (hg : g < zn (rA M 221)) : F_X5_isFighter M (nI g) = some 1 := by
  have hb := hz.2.1
  rw [F_X5_isFighter, if_neg (nI_pos (by omega)), gd0, tn0, if_neg (fun q => by have := (z0_le hz (by omega)).mp q; omega)]
