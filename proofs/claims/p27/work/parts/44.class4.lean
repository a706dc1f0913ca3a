/-! what is set off, in the class -/
theorem z_ext {z y : Nat → Int32} (h1 : ∀ i, i < 16 → z i = y i) (h2 : ∀ f w, w < 17 → zo z f w = zo y f w) : z = y := by
  funext i
  by_cases h : i < 16
  · exact h1 i h
  · have := h2 ((i - 16) / 17) ((i - 16) % 17) (Nat.mod_lt _ (by decide))
    unfold zo at this
    have e : 16 + 17 * ((i - 16) / 17) + (i - 16) % 17 = i := by have := Nat.div_add_mod (i - 16) 17; omega
    rwa [e] at this
/-- a readied act is lost before or behind: the same -/
theorem lose_zl {z : Nat → Int32} {f g w : Nat} {x : Int32} (hw : w < 17) (h : ¬ (7 ≤ w ∧ w ≤ 10)) : zlose (zl z g w x) f = zl (zlose z f) g w x := by
  refine z_ext (fun i hi => by rw [zlose_lo hi, zl_lo hi, zl_lo hi, zlose_lo hi]) (fun f' w' hw' => ?_)
  rw [zlose_o hw', zo_zl hw hw', zo_zl hw hw', zlose_o hw']
  by_cases c : f' = f ∧ 7 ≤ w' ∧ w' ≤ 10
  · rw [if_pos c, if_neg (by omega), if_pos c]
  · rw [if_neg c, if_neg c]
theorem lose_up {z : Nat → Int32} {f i : Nat} {x : Int32} (hi : i < 16) : zlose (upd z i x) f = upd (zlose z f) i x := by
  refine z_ext (fun j hj => ?_) (fun f' w' hw' => by rw [zlose_o hw', zo_lo hi, zo_lo hi, zlose_o hw'])
  rw [zlose_lo hj]
  by_cases e : j = i
  · rw [e, upd_s, upd_s]
  · rw [upd_n e, upd_n e, zlose_lo hj]
theorem lose_on {z : Nat → Int32} {f g w : Nat} (hw : w < 17) (h : ¬ (7 ≤ w ∧ w ≤ 10)) : zo (zlose z f) g w = zo z g w := by rw [zlose_o hw, if_neg (fun q => h q.2)]
theorem lose_cnt {z : Nat → Int32} {f g : Nat} : zlose (zcnt z g) f = zcnt (zlose z f) g := by
  unfold zcnt
  rw [lose_zl (by decide) (by decide), lose_up (by decide), zlose_lo (by decide), zo_lo (by decide), zo_lo (by decide), lose_on (by decide) (by decide)]
theorem lose_lost {z : Nat → Int32} {f a b : Nat} : zlost (zlose z f) a b = zlost z a b := by
  unfold zlost zfor
  rw [lose_on (by decide) (by decide), lose_on (by decide) (by decide), lose_on (by decide) (by decide), lose_on (by decide) (by decide)]
theorem lose_hl {z : Nat → Int32} {f a : Nat} : zhl (zlose z f) a = zhl z a := by
  unfold zhl
  rw [lose_on (by decide) (by decide), lose_on (by decide) (by decide)]
theorem lose_do {z : Nat → Int32} {f a c : Nat} {kd x r : Int32} (hc : c < 4) : zlose (zdo z a kd x c r) f = zdo (zlose z f) a kd x c r := by
  unfold zdo
  by_cases h0 : kd = 0
  · rw [if_pos h0, if_pos h0]
    unfold zstr
    rw [lose_zl (by decide) (by decide), lose_zl (by decide) (by decide), lose_cnt, ← lose_cnt, lose_lost, lose_on (by decide) (by decide), ← lose_zl (by decide) (by decide), lose_on (by decide) (by decide)]
  rw [if_neg h0, if_neg h0]
  by_cases h2 : kd = 2
  · rw [if_pos h2, if_pos h2]
    unfold zhlp
    rw [lose_zl (by decide) (by decide), lose_zl (by decide) (by decide), ← lose_cnt, lose_hl]
  rw [if_neg h2, if_neg h2]
  by_cases h1 : kd = 1
  · rw [if_pos h1, if_pos h1, lose_zl (by decide) (by decide), lose_cnt]
  · rw [if_neg h1, if_neg h1, lose_zl (by omega) (by omega), lose_cnt]
    have e : zdoR z a kd x c r = zdoR (zlose z f) a kd x c r := by
      unfold zdoR
      rw [if_neg h0, if_neg h2, if_neg h1, if_neg h0, if_neg h2, if_neg h1, ← lose_cnt, lose_on (by omega) (by omega)]
    rw [e]
theorem lose_pos {z : Nat → Int32} {f a : Nat} {kd x : Int32} : zpos (zlose z f) a kd x = zpos z a kd x := by
  unfold zpos
  rw [lose_on (w := 12) (by decide) (by decide), lose_on (w := 5) (by decide) (by decide), lose_on (w := 2) (by decide) (by decide), lose_on (w := 5) (by decide) (by decide), lose_on (w := 0) (by decide) (by decide), lose_on (w := 0) (by decide) (by decide)]
/-- a number written before or behind a move in the row: the same -/
theorem mv_zl {z : Nat → Int32} {f p t g w : Nat} {x y : Int32} (hz : Z0 z) (hp : p < zn z) (ht : t < zn z) : zmv (zl z g w x) y p t = zl (zmv z y p t) g w x := by
  have hb := hz.2.1
  have hn : zn (zl z g w x) = zn z := zn_zl hz
  funext i
  by_cases c : i < 6 ∨ 6 + zn z ≤ i
  · rw [zmv_else (by rw [hn]; exact hp) (by rw [hn]; exact ht) (by rw [hn]; exact c)]
    by_cases e : i = 16 + 17 * g + w
    · rw [e]; unfold zl; rw [upd_s, upd_s]
    · unfold zl; rw [upd_n e, upd_n e, zmv_else hp ht c]
  · obtain ⟨j, rfl⟩ : ∃ j, i = 6 + j := ⟨i - 6, by omega⟩
    rw [show zl (zmv z y p t) g w x (6 + j) = zmv z y p t (6 + j) from zl_lo (by omega), zmv_row (by rw [hn]; omega) (by rw [hn]; exact hp) (by rw [hn]; exact ht), zmv_row (by omega) hp ht]
    by_cases c1 : j = t
    · rw [if_pos c1, if_pos c1]
    rw [if_neg c1, if_neg c1]
    by_cases c2 : j < t
    · rw [if_pos c2, if_pos c2]
      by_cases c3 : j < p
      · rw [if_pos c3, if_pos c3, zl_lo (by omega)]
      · rw [if_neg c3, if_neg c3, zl_lo (by omega)]
    · rw [if_neg c2, if_neg c2]
      by_cases c3 : j - 1 < p
      · rw [if_pos c3, if_pos c3, zl_lo (by omega)]
      · rw [if_neg c3, if_neg c3, zl_lo (by omega)]
theorem zpl_zl {z : Nat → Int32} {g w : Nat} {x y : Int32} : ∀ m, m ≤ 10 → zpl (zl z g w x) y m = zpl z y m
  | 0, _ => rfl
  | m + 1, h => by rw [zpl, zpl, zl_lo (by omega), zpl_zl m (by omega)]
theorem zpn_zl {z : Nat → Int32} {f g w : Nat} {x : Int32} (hz : Z0 z) : zpn (zl z g w x) f = zpn z f := by
  unfold zpn
  rw [zn_zl hz, zpl_zl _ hz.2.1]
/-- the class's order of it: the number first, then the row -/
theorem ahead_c {z : Nat → Int32} {f c : Nat} (hz : Z0 z) (hf : f < zn z) (hc : c < zn z) : zmv (zl z f 1 (zo z c 1)) (nI f) (zpn (zl z f 1 (zo z c 1)) f) (zta (zl z f 1 (zo z c 1)) f c) = zahead z f c := by
  have e : zta (zl z f 1 (zo z c 1)) f c = zta z f c := by unfold zta; rw [zpn_zl hz, zpn_zl hz]
  rw [e, zpn_zl hz, mv_zl (f := f) hz (zpn_lt hz hf).1 (zta_lt hz hf hc)]
  rfl
theorem ciso_l {M : MS} {v f c : Nat} {z : Nat → Int32} {kd : Int32} (h : CZ M v z) (hz : ZW z) (hf : f < zn z) (hc : c < zn z) (ht : z 2 = nI c) : F_X3_isSetOff M v (v + 1 + 4 + f) kd = some (if zset z f c kd = true then 1 else 0) := by
  have hb := hz.1.2.1
  rw [F_X3_isSetOff, fal_l h hf (hz.2.1 f hf), bd_s, F_X0_hasReadied, f_rk h hf, f_rc h hf, f_rw h hf, h.1.2.2.1, ht, f_side h hf]
  unfold zset
  by_cases c2 : zo z f 2 = 0
  · rw [if_pos c2, if_pos (by decide)]; simp [c2]
  rw [if_neg c2, if_neg (fun q => q rfl)]
  by_cases c7 : zo z f 7 = -1
  · rw [if_pos c7, bd_s, if_pos rfl]; simp [c7]
  rw [if_neg c7, bd_s, if_neg (by decide)]
  by_cases c10 : zo z f 10 = kd
  · rw [if_pos c10]
    have hne : ¬ (-1 : Int32) = nI c := fun q => ne1 c (by omega) q.symm
    by_cases c9 : zo z f 9 = -1
    · rw [if_neg (fun q => q c9), at_l hz.1 h hc, bd_s, f_side h hc]
      by_cases s : zo z f 0 = zo z c 0
      · rw [if_pos s]; simp [c9, s, hne]
      · rw [if_neg s]; simp [c2, c7, c10, c9, s, hne]
    · rw [if_pos c9]
      by_cases e : zo z f 9 = nI c
      · rw [if_neg (fun q => q e)]; simp [c2, c7, c10, e]
      · rw [if_pos e]; simp [c9, e]
  · rw [if_neg c10]; simp [c10]
theorem do_2 {z : Nat → Int32} {f c : Nat} {kd x r : Int32} : zdo z f kd x c r 2 = z 2 := by
  have hcn : zcnt z f 2 = z 2 := by unfold zcnt; rw [zl_lo (by decide), upd_n (by decide)]
  unfold zdo
  split
  · unfold zstr; rw [zl_lo (by decide), zl_lo (by decide), hcn]
  split
  · unfold zhlp; rw [zl_lo (by decide), zl_lo (by decide), hcn]
  split
  · rw [zl_lo (by decide), hcn]
  · rw [zl_lo (by decide), hcn]
theorem zone_2 {z : Nat → Int32} {c f : Nat} (hz : ZW z) (hf : f < zn z) (hc : c < zn z) (hk : ¬ zo z f 7 = -1) : zone z c f 2 = z 2 := by
  have h1 := ZW_lose hz hf
  have n1 := (Z0_lose (f := f) hz.1).2.1
  have hx := xok_of n1 (rd_xok (hz.2.1 f hf) hk)
  have hah : ∀ zz : Nat → Int32, ZW zz → zn zz = zn z → zahead zz f c 2 = zz 2 := fun zz hzz hnn => by
    unfold zahead
    rw [zl_lo (by decide), zmv_else (zpn_lt hzz.1 (by rw [hnn]; exact hf)).1 (zta_lt hzz.1 (by rw [hnn]; exact hf) (by rw [hnn]; exact hc)) (Or.inl (by decide))]
  unfold zone
  split
  · obtain ⟨c1, c2⟩ := ZW_do (c := 0) (r := 0) (ri := 0) h1 (by rw [n1]; exact hf) hx (by decide) (by decide) rfl
    rw [hah _ c1 (c2.trans n1), do_2, zlose_lo (by decide)]
  · rw [hah _ (ZW_up h1 (by decide) (by decide)) (by rw [zn_up h1.1 (by decide) (by decide), n1]), upd_n (by decide), zlose_lo (by decide)]
theorem CR_rdy {M0 M : MS} {v i : Nat} {R z : Nat → Int32} {x : Int32} (h : CR M0 v R M z) : CR M0 v (upd R i x) (wA M (v + 4) i x) z := by
  obtain ⟨hz, ⟨a, ⟨b1, b2⟩, c1, d1, d2⟩, ⟨e1, e2, e3⟩, r⟩ := h
  have hb := hz.2.1
  refine ⟨hz, ⟨a, ⟨b1, fun i hi => ?_⟩, fun g hg w' hw' => ?_, d1, d2⟩, ⟨e1, fun u h => ?_, e3⟩, ?_⟩
  · rw [rA_wAn (by omega)]; exact b2 i hi
  · rw [← c1 g hg w' hw']
    rcases w_cases w' with h | h | h | h | h
    · rw [cfo_1 h, cfo_1 h, rF_wA]
    · rw [cfo_2 h, cfo_2 h, rF_wA]
    · rw [cfo_3 h, cfo_3 h, rF_wA]
    · rw [cfo_4 h, cfo_4 h, rA_wAn (by omega)]
    · rw [cfo_5 h, cfo_5 h, rF_wA]
  · rw [rA_wAn (by omega)]; exact e2 u h
  · rw [rA_wA, r]
def hasR (R : Nat → Int32) (i : Nat) (l : List Nat) : Prop := ∀ j a, l[j]? = some a → R (i + j) = nI a
theorem coff_l {M0 : MS} {v c : Nat} {z : Nat → Int32} {kd : Int32} (hz : ZW z) (hc : c < zn z) (ht : z 2 = nI c) : ∀ d i k (M : MS) (R : Nat → Int32), i + d = zn z → d < k → CR M0 v R M z → hasR R 0 (zsl z c kd i) → ∃ M' R', F_X3_setOff_l4 v kd k (nI (zsl z c kd i).length) (nI i) M = F_X3_setOff_l67 v (nI (zsl z c kd (zn z)).length) FU 0 M' ∧ CR M0 v R' M' z ∧ hasR R' 0 (zsl z c kd (zn z)) := by
  have hb := hz.1.2.1
  intro d
  induction d with
  | zero =>
    intro i k M R h hk hM hr
    obtain ⟨k, rfl⟩ : ∃ q, k = q + 1 := ⟨k - 1, by omega⟩
    have e : i = zn z := by omega
    subst e
    rw [F_X3_setOff_l4, hM.2.1.2.1.1, if_pos ((z0_le hz.1 (by omega)).mpr (by omega))]
    exact ⟨M, R, rfl, hM, hr⟩
  | succ d ih =>
    intro i k M R h hk hM hr
    obtain ⟨k, rfl⟩ : ∃ q, k = q + 1 := ⟨k - 1, by omega⟩
    have hl := zsl_len (z := z) (c := c) (kd := kd) i
    obtain ⟨r1, r2⟩ := hz.1.2.2.1 i (by omega)
    rw [F_X3_setOff_l4, hM.2.1.2.1.1, if_neg (fun q => by have := (z0_le hz.1 (by omega)).mp q; omega), nat_l hz.1 hM.2.1 (by omega), bd_s, r1, at_l hz.1 hM.2.1 r2, bd_s, ciso_l hM.2.1 hz r2 hc ht, bd_s]
    by_cases hs : zset z (zrow z i) c kd = true
    · have e1 : zsl z c kd (i + 1) = zsl z c kd i ++ [zrow z i] := by rw [zsl, if_pos hs]
      have e2 : (zsl z c kd (i + 1)).length = (zsl z c kd i).length + 1 := by rw [e1, List.length_append, List.length_singleton]
      rw [if_pos hs, if_neg (by decide), if_neg (show ¬ (10 : Int32) ≤ nI (zsl z c kd i).length from nI_ge (b := 10) (by omega) (by decide)), gdb_t (inb_nI (by omega) (by omega)), nI_clamp (by omega), nm_k, nm_k, nm_k, nI_1, nI_1, ← e2]
      refine ih (i + 1) k _ (upd R (zsl z c kd i).length (nI (zrow z i))) (by omega) (by omega) (CR_rdy hM) ?_
      intro j a hj
      rw [Nat.zero_add]
      rw [e1] at hj
      by_cases q : j < (zsl z c kd i).length
      · rw [List.getElem?_append_left q] at hj
        rw [upd_n (by omega)]
        have := hr j a hj
        rwa [Nat.zero_add] at this
      · rw [List.getElem?_append_right (by omega)] at hj
        obtain ⟨m, hm⟩ : ∃ m, j - (zsl z c kd i).length = m := ⟨_, rfl⟩
        rw [hm] at hj
        cases m with
        | zero =>
          have hj' : j = (zsl z c kd i).length := by omega
          simp at hj
          rw [hj', upd_s, hj]
        | succ m => simp at hj
    · have e1 : zsl z c kd (i + 1) = zsl z c kd i := by rw [zsl, if_neg hs]
      rw [if_neg hs, if_pos rfl, nm_k, nI_1]
      obtain ⟨M', R', g1, g2, g3⟩ := ih (i + 1) k M R (by omega) (by omega) hM (by rw [e1]; exact hr)
      rw [e1] at g1
      exact ⟨M', R', g1, g2, g3⟩
theorem cone_l {M0 M : MS} {v c f i : Nat} {R z : Nat → Int32} {K : MS → Option MS} (h : CR M0 v R M z) (hz : ZW z) (hf : f < zn z) (hc : c < zn z) (ht : z 2 = nI c) (hk : ¬ zo z f 7 = -1) (hfc : f ≠ c) (hi : i < 10) (hri : R i = nI f) : ∃ M', (nm (fun (M14 : MS) => (bd (F_X0_forgetReadied M14 (v + 1 + 4 + f)) fun M17 => (bd (F_X3_at M17 v (rF M17 54 v)) fun r19 => (nm (wF M17 1 (v + 1 + 4 + f) (rF M17 1 r19)) fun M20 => (gdb (inb (nI i) 10) (bd (F_X2_moveAheadOf M20 (v + 2) (rA M20 (v + 4) i) (rF M20 54 v)) K)))))) fun j138_14 => (if zo z f 11 ≤ 0 then (gdb (inb (nI i) 10) (bd2 (F_X3_attempt M v (nI f) (rF M 8 (v + 1 + 4 + f)) (rF M 9 (v + 1 + 4 + f)) (-1 : Int32) (0 : Int32)) fun r29 M28 => (j138_14 M28))) else (nm (wF M 57 v ((rF M 57 v) + (1 : Int32))) fun M30 => (j138_14 M30)))) = K M' ∧ CR M0 v R M' (zone z c f) := by
  have hb := hz.1.2.1
  have hx := rd_xok (hz.2.1 f hf) hk
  have hrk := (rd_ok (hz.2.1 f hf) hk).1
  have hk4 : k4 (zo z f 7) := by unfold k4; rcases hrk with e | e <;> rw [e] <;> decide
  have h1 := ZW_lose hz hf
  have n1 := (Z0_lose (f := f) hz.1).2.1
  have key : ∀ (y : Nat → Int32) (M14 : MS), CR M0 v R M14 y → ZW y → zn y = zn z → y 2 = nI c → zahead (zlose y f) f c = zone z c f → ∃ M', (bd (F_X0_forgetReadied M14 (v + 1 + 4 + f)) fun M17 => (bd (F_X3_at M17 v (rF M17 54 v)) fun r19 => (nm (wF M17 1 (v + 1 + 4 + f) (rF M17 1 r19)) fun M20 => (gdb (inb (nI i) 10) (bd (F_X2_moveAheadOf M20 (v + 2) (rA M20 (v + 4) i) (rF M20 54 v)) K))))) = K M' ∧ CR M0 v R M' (zone z c f) := by
    intro y M14 hy hyw hyn hy2 he
    have hyf : f < zn y := by rw [hyn]; exact hf
    obtain ⟨M17, g1, g2⟩ := forget_l hy hyf
    have n2 : zn (zlose y f) = zn z := (Z0_lose (f := f) hyw.1).2.1.trans hyn
    have hf2 : f < zn (zlose y f) := by rw [n2]; exact hf
    have hc2 : c < zn (zlose y f) := by rw [n2]; exact hc
    rw [g1, bd_s, g2.2.1.1.2.2.1, zlose_lo (by decide), hy2, at_l g2.1 g2.2.1 hc2, bd_s, f_init g2.2.1 hc2, nm_k]
    have g3 := CR_set (f := f) (w := 1) (x := zo (zlose y f) c 1) g2 hf2 (by decide)
    have e1 : cw M17 v f 1 (zo (zlose y f) c 1) = wF M17 1 (v + 1 + 4 + f) (zo (zlose y f) c 1) := rfl
    rw [e1] at g3
    have n3 : zn (zl (zlose y f) f 1 (zo (zlose y f) c 1)) = zn z := (CR_n g2).trans n2
    rw [g3.2.1.1.2.2.1, g3.2.2.2, hri, zl_lo (by decide), zlose_lo (by decide), hy2, gdb_t (inb_nI hi (by decide))]
    obtain ⟨⟨M', k1, k2⟩, _⟩ := cmv_l g3 (f := f) (c := c) (by rw [n3]; exact hf) (by rw [n3]; exact hc) hfc
    rw [ahead_c g2.1 hf2 hc2, he] at k2
    rw [k1, bd_s]
    exact ⟨M', rfl, k2⟩
  have eup : zlose (upd z 4 (z 4 + 1)) f = upd (zlose z f) 4 (zlose z f 4 + 1) := by rw [lose_up (by decide), zlose_lo (by decide)]
  have nup : zn (upd z 4 (z 4 + 1)) = zn z := zn_up hz.1 (by decide) (by decide)
  have t2up : upd z 4 (z 4 + 1) 2 = nI c := by rw [upd_n (by decide), ht]
  rw [nm_k]
  by_cases c11 : 0 < zo z f 11
  · rw [if_neg (Int32.not_le.mpr c11), nm_k, h.2.1.1.2.2.2.2.1]
    have g1 := CR_glob (x := z 4 + 1) h (show gpair 57 4 by unfold gpair; omega)
    exact key _ _ g1 (ZW_up hz (by decide) (by decide)) nup t2up (by rw [eup]; unfold zone; rw [if_neg (fun q => q.2.1 c11)])
  · rw [if_pos (Int32.not_lt.mp c11), gdb_t (inb_nI hi (by decide)), f_rk h.2.1 hf, f_rg h.2.1 hf]
    obtain ⟨M28, g1, g2⟩ := catt_l (c := 0) (r := 0) (a3 := -1) (a4 := 0) h hz hf hx hk4 (by decide) (fun q => by rcases hrk with e | e <;> rw [e] at q <;> exact absurd q (by decide))
    rw [g1, bd2_s]
    unfold zat at g2
    by_cases c2 : zo z f 2 = 0
    · rw [if_pos c2] at g2
      exact key _ _ g2 (ZW_up hz (by decide) (by decide)) nup t2up (by rw [eup]; unfold zone; rw [if_neg (fun q => q.1 c2)])
    rw [if_neg c2] at g2
    by_cases c3 : zpos z f (zo z f 7) (zo z f 8) = true
    · rw [if_pos c3] at g2
      obtain ⟨d1, d2⟩ := ZW_do (c := 0) (r := 0) (ri := 0) hz hf hx (by decide) (by decide) rfl
      refine key _ _ g2 d1 d2 (do_2.trans ht) ?_
      rw [lose_do (by decide)]
      unfold zone
      rw [if_pos ⟨c2, c11, by rw [lose_pos]; exact c3⟩]
    · rw [if_neg c3] at g2
      exact key _ _ g2 (ZW_up hz (by decide) (by decide)) nup t2up (by rw [eup]; unfold zone; rw [if_neg (fun q => c3 (by have := q.2.2; rw [lose_pos] at this; exact this))])
theorem coff_m {M0 : MS} {v c L : Nat} {R : Nat → Int32} : ∀ (l : List Nat) (i k : Nat) (M : MS) (z : Nat → Int32), CR M0 v R M z → ZW z → c < zn z → z 2 = nI c → hasR R i l → (∀ a, a ∈ l → a < zn z ∧ ¬ zo z a 7 = -1 ∧ a ≠ c) → l.Nodup → i + l.length = L → L ≤ 10 → l.length < k → ∃ M', F_X3_setOff_l67 v (nI L) k (nI i) M = some M' ∧ CR M0 v R M' (zso c l z) ∧ zso c l z 2 = nI c := by
  intro l
  induction l with
  | nil =>
    intro i k M z hM hz hc ht hr hm hd hl hL hk
    obtain ⟨k, rfl⟩ : ∃ q, k = q + 1 := ⟨k - 1, by omega⟩
    simp at hl
    rw [F_X3_setOff_l67, if_pos (nI_le (by omega) (by omega))]
    exact ⟨M, rfl, hM, ht⟩
  | cons f l ih =>
    intro i k M z hM hz hc ht hr hm hd hl hL hk
    obtain ⟨k, rfl⟩ : ∃ q, k = q + 1 := ⟨k - 1, by omega⟩
    rw [List.length_cons] at hl hk
    have hb := hz.1.2.1
    obtain ⟨hf, hkd, hfc⟩ := hm f (List.mem_cons_self ..)
    have hrf : R i = nI f := hr 0 f rfl
    have hnd := List.nodup_cons.mp hd
    obtain ⟨w1, w2⟩ := ZW_one hz hf hc hkd
    obtain ⟨M1, g1, g2⟩ := cone_l (i := i) (K := fun M23 => nm (nI i + (1 : Int32)) fun x24 => F_X3_setOff_l67 v (nI L) k x24 M23) hM hz hf hc ht hkd hfc (by omega) hrf
    obtain ⟨M2, k1, k2, k3⟩ := ih (i + 1) k M1 (zone z c f) g2 w1 (by rw [w2]; exact hc) (by rw [zone_2 hz hf hc hkd]; exact ht) (fun j a hj => by
      rw [show i + 1 + j = i + (j + 1) by omega]
      exact hr (j + 1) a hj) (fun a ha => by
      obtain ⟨q1, q2, q3⟩ := hm a (List.mem_cons_of_mem _ ha)
      refine ⟨by rw [w2]; exact q1, ?_, q3⟩
      rw [zone_rd hz hf hc hkd (fun e => hnd.1 (by rw [← e]; exact ha))]
      exact q2) hnd.2 (by omega) hL (by omega)
    have hri : rA M (v + 4) i = nI f := by rw [hM.2.2.2]; exact hrf
    refine ⟨M2, ?_, k2, k3⟩
    rw [F_X3_setOff_l67, if_neg (nI_ge (by omega) (by omega)), if_neg (show ¬ (10 : Int32) ≤ nI i from nI_ge (b := 10) (by omega) (by decide)), gdb_t (inb_nI (by omega) (by omega)), nI_clamp (by omega), hri, at_l hz.1 hM.2.1 hf, bd_s, rnd_l hM.2.1 hf (by decide), bd_s]
    refine Eq.trans g1 ?_
    rw [nm_k, nI_1]
    exact k1
theorem coff_eq {M0 M : MS} {v c : Nat} {R z : Nat → Int32} {kd : Int32} (h : CR M0 v R M z) (hz : ZW z) (hc : c < zn z) (ht : z 2 = nI c) (h7 : zo z c 7 = -1) : ∃ M' R', F_X3_setOff M v kd = some M' ∧ CR M0 v R' M' (zoff z c kd) ∧ zoff z c kd 2 = nI c := by
  have hb := hz.1.2.1
  have hl := zsl_len (z := z) (c := c) (kd := kd) (zn z)
  obtain ⟨M1, R1, g1, g2, g3⟩ := coff_l (kd := kd) hz hc ht (zn z) 0 FU M R (by omega) (by rw [FU_s]; omega) h (fun j a h => by simp [zsl] at h)
  obtain ⟨M2, k1, k2, k3⟩ := coff_m (zsl z c kd (zn z)) 0 FU M1 z g2 hz hc ht g3 (fun a ha => by
    obtain ⟨q1, i, q2, q3⟩ := zsl_mem _ ha
    refine ⟨by rw [q3]; exact (hz.1.2.2.1 i q2).2, zset_kd q1, fun e => ?_⟩
    rw [e] at q1
    exact zset_kd q1 h7) (zsl_nodup hz.1 _ (Nat.le_refl _)) (by rw [Nat.zero_add]) (by omega) (by rw [FU_s]; omega)
  exact ⟨M2, R1, by rw [F_X3_setOff]; exact g1.trans k1, k2, k3⟩
/-- the class's act -/
theorem cact_eq {M0 M : MS} {v f c r : Nat} {R z : Nat → Int32} {kd x a3 a4 ri : Int32} (h : CR M0 v R M z) (hz : ZW z) (hf : f < zn z) (ht : z 2 = nI f) (h7 : zo z f 7 = -1) (hx : xok z kd x) (hk : k4 kd) (hc : c < 4) (hr : r ≤ 5) (hri : ri = nI r) (h3 : kd = 3 → a3 = nI c ∧ a4 = ri) (hoff : ZW (zoff z f kd) ∧ zn (zoff z f kd) = zn z) : ∃ M' R', F_X3_act M v kd x a3 a4 = some (zactR z f kd x c ri, M') ∧ CR M0 v R' M' (zact z f kd x c ri) := by
  obtain ⟨hw, hn⟩ := hoff
  obtain ⟨M2, R', g1, g2, g3⟩ := coff_eq (kd := kd) h hz hf ht h7
  obtain ⟨M4, k1, k2⟩ := catt_l (c := c) (r := ri) (a3 := a3) (a4 := a4) g2 hw (by rw [hn]; exact hf) (xok_of hn hx) hk hc h3
  obtain ⟨a1, a2⟩ := act1_ok hw hn hf hx hc hr hri
  have h2 : zat (zoff z f kd) f kd x c ri 2 = nI f := by
    unfold zat
    split
    · rw [upd_n (by decide), g3]
    · split
      · rw [do_2, g3]
      · rw [upd_n (by decide), g3]
  obtain ⟨M7, q1, q2⟩ := cend_eq k2 (show ZW (zat (zoff z f kd) f kd x c ri) from a1) (f := f) (by rw [show zn (zat (zoff z f kd) f kd x c ri) = zn z from a2]; exact hf) h2
  rw [F_X3_act, g1, bd_s, g2.2.1.1.2.2.1, g3, k1, bd2_s, q1, bd_s]
  exact ⟨M7, R', rfl, q2⟩

