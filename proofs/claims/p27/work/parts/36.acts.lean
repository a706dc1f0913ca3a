/-! acts keep it; moves in the row -/
theorem zfor_val {z : Nat → Int32} {f : Nat} (hf : fw z f) : ∃ y, y ≤ 23 ∧ zfor z f = nI y := by
  obtain ⟨x, hx, e⟩ := hf.2.2.2.1
  have h2 : ∀ a, a ≤ 23 → (nI a / 2 : Int32) = nI (a / 2) := fun a ha => by rw [nI_lit 2]; exact pk_div (by omega) (by decide) (by decide)
  unfold zfor
  rw [e]
  have e3 : nI x + (3 : Int32) = nI (x + 3) := by rw [nI_lit 3, nI_add]
  have e0 : nI x + (0 : Int32) = nI x := nI_add x 0
  by_cases h13 : 0 < zo z f 13
  · rw [if_pos h13, e3]
    by_cases h12 : 0 < zo z f 12
    · rw [if_pos h12, h2 _ (by omega)]; exact ⟨_, by omega, rfl⟩
    · rw [if_neg h12]; exact ⟨_, by omega, rfl⟩
  · rw [if_neg h13, e0]
    by_cases h12 : 0 < zo z f 12
    · rw [if_pos h12, h2 _ (by omega)]; exact ⟨_, by omega, rfl⟩
    · rw [if_neg h12]; exact ⟨_, by omega, rfl⟩
theorem zlost_val {z : Nat → Int32} {f g : Nat} (hf : fw z f) (hg : fw z g) : ∃ l y, l ≤ 99 ∧ y ≤ l ∧ zo z g 2 = nI l ∧ zlost z f g = nI y ∧ zo z g 2 - zlost z f g = nI (l - y) := by
  obtain ⟨x, hx, e⟩ := zfor_val hf
  obtain ⟨l, hl, e2⟩ := hg.2.1
  have h : ∃ y, y ≤ l ∧ zlost z f g = nI y := by
    unfold zlost
    rw [e, e2]
    by_cases c : l ≤ x
    · rw [if_pos (nI_le c (by omega))]; exact ⟨l, Nat.le_refl _, rfl⟩
    · rw [if_neg (nI_ge (by omega) (by omega))]; exact ⟨x, by omega, rfl⟩
  obtain ⟨y, h1, h2⟩ := h
  exact ⟨l, y, hl, h1, e2, h2, by rw [e2, h2, pk_sub h1]⟩
theorem zhl_val {z : Nat → Int32} {g : Nat} (hg : fw z g) : ∃ y, y ≤ 99 ∧ zhl z g = nI y := by
  obtain ⟨l, hl, e⟩ := hg.2.1
  obtain ⟨m, hm, e2⟩ := hg.2.2.1
  unfold zhl
  have e3 : nI l + (4 : Int32) = nI (l + 4) := by rw [nI_lit 4, nI_add]
  rw [e, e2, e3]
  by_cases c : m ≤ l + 4
  · rw [if_pos (nI_le c (by omega))]; exact ⟨m, hm, rfl⟩
  · rw [if_neg (nI_ge (by omega) (by omega))]; exact ⟨l + 4, by omega, rfl⟩
theorem zcnt_n {z : Nat → Int32} {f : Nat} (hz : Z0 z) : Z0 (zcnt z f) ∧ zn (zcnt z f) = zn z ∧ ∀ i, i < zn z → zrow (zcnt z f) i = zrow z i := Z0_of hz (fun i hi _ _ h3 _ _ => by unfold zcnt; rw [zl_lo hi, upd_n h3])
theorem ZW_cnt {z : Nat → Int32} {f : Nat} (hz : ZW z) (hf : f < zn z) : ZW (zcnt z f) := by
  unfold zcnt
  exact ZW_zl (ZW_up hz (by decide) (by decide)) (by rw [(Z0_up hz.1 (by decide) (by decide)).2.1]; exact hf) (by decide) (vok_any (by decide))
def xok (z : Nat → Int32) (kd x : Int32) : Prop := (kd = 1 ∧ ∃ q, q ≤ 9 ∧ x = nI q) ∨ (¬ kd = 1 ∧ ∃ g, g < zn z ∧ x = nI g)
theorem xok_10 {z : Nat → Int32} {kd x : Int32} (hz : Z0 z) (h : xok z kd x) : kd = 1 ∨ ∃ g, g < 10 ∧ x = nI g := by
  have hb := hz.2.1
  rcases h with ⟨h, _⟩ | ⟨_, g, hg, e⟩
  · exact Or.inl h
  · exact Or.inr ⟨g, by omega, e⟩
theorem xok_of {z z' : Nat → Int32} {kd x : Int32} (hn : zn z' = zn z) (h : xok z kd x) : xok z' kd x := by unfold xok; rw [hn]; exact h
theorem zn_zl {z : Nat → Int32} {f w : Nat} {x : Int32} (hz : Z0 z) : zn (zl z f w x) = zn z := (Z0_zl hz).2.1
theorem zn_up {z : Nat → Int32} {g : Nat} {x : Int32} (hz : Z0 z) (h1 : 1 ≤ g) (h2 : g ≤ 5) : zn (upd z g x) = zn z := (Z0_up hz h1 h2).2.1
theorem ZW_do {z : Nat → Int32} {f c r : Nat} {kd x ri : Int32} (hz : ZW z) (hf : f < zn z) (hx : xok z kd x) (hc : c < 4) (hr : r ≤ 5) (hri : ri = nI r) : ZW (zdo z f kd x c ri) ∧ zn (zdo z f kd x c ri) = zn z := by
  have hb := hz.1.2.1
  have h1 := ZW_cnt hz hf
  have hn := (zcnt_n (f := f) hz.1).2.1
  have hf1 : f < zn (zcnt z f) := by rw [hn]; exact hf
  unfold zdo
  by_cases h0 : kd = 0
  · rw [if_pos h0]
    obtain ⟨g, hg, e⟩ := hx.resolve_left (fun q => by rw [h0] at q; exact absurd q.1 (by decide)) |>.2
    have hg1 : g < zn (zcnt z f) := by rw [hn]; exact hg
    rw [e, nI_clamp (by omega)]
    obtain ⟨l, y, hl, hy, e1, e2, e3⟩ := zlost_val (h1.2.1 f hf1) (h1.2.1 g hg1)
    unfold zstr
    have h2 := ZW_zl h1 hg1 (w := 2) (by decide) (vok_life (show l - y ≤ 99 by omega) e3)
    have n2 := zn_zl (f := g) (w := 2) (x := zo (zcnt z f) g 2 - zlost (zcnt z f) f g) h1.1
    exact ⟨ZW_zl h2 (by rw [n2]; exact hf1) (by decide) (vok_any (by decide)), by rw [zn_zl h2.1, n2, hn]⟩
  rw [if_neg h0]
  by_cases h2 : kd = 2
  · rw [if_pos h2]
    obtain ⟨g, hg, e⟩ := hx.resolve_left (fun q => by rw [h2] at q; exact absurd q.1 (by decide)) |>.2
    have hg1 : g < zn (zcnt z f) := by rw [hn]; exact hg
    rw [e, nI_clamp (by omega)]
    obtain ⟨y, hy, e1⟩ := zhl_val (h1.2.1 g hg1)
    unfold zhlp
    have h3 := ZW_zl h1 hg1 (w := 2) (by decide) (vok_life hy e1)
    have n3 := zn_zl (f := g) (w := 2) (x := zhl (zcnt z f) g) h1.1
    exact ⟨ZW_zl h3 (by rw [n3]; exact hg1) (by decide) (vok_cond (c := 3) (l := 0) (by decide) (by decide) rfl), by rw [zn_zl h3.1, n3, hn]⟩
  rw [if_neg h2]
  by_cases h3 : kd = 1
  · rw [if_pos h3]
    obtain ⟨q, hq, e⟩ := hx.resolve_right (fun q => q.1 h3) |>.2
    exact ⟨ZW_zl h1 hf1 (by decide) (vok_place hq e), by rw [zn_zl h1.1, hn]⟩
  · rw [if_neg h3]
    obtain ⟨g, hg, e⟩ := hx.resolve_left (fun q => h3 q.1) |>.2
    have hg1 : g < zn (zcnt z f) := by rw [hn]; exact hg
    rw [e, nI_clamp (by omega)]
    have hv : ∃ l, l ≤ 5 ∧ zdoR z f kd (nI g) c ri = nI l := by
      unfold zdoR
      rw [if_neg h0, if_neg h2, if_neg h3, nI_clamp (by omega)]
      split
      · exact ⟨r, hr, hri⟩
      · exact (h1.2.1 g hg1).2.2.2.2.2.2.2 c hc
    obtain ⟨l, hl, e2⟩ := hv
    exact ⟨ZW_zl h1 hg1 (by omega) (vok_cond hc hl e2), by rw [zn_zl h1.1, hn]⟩
/-- what is readied stays, whatever act is done -/
theorem zcnt_rd {z : Nat → Int32} {f g w : Nat} (hw : 7 ≤ w ∧ w ≤ 10) : zo (zcnt z f) g w = zo z g w := by
  unfold zcnt
  rw [zo_zl (by decide) (by omega), if_neg (by omega), zo_lo (by decide)]
theorem zdo_rd {z : Nat → Int32} {f c g w : Nat} {kd x r : Int32} (hc : c < 4) (hw : 7 ≤ w ∧ w ≤ 10) : zo (zdo z f kd x c r) g w = zo z g w := by
  unfold zdo
  split
  · unfold zstr; rw [zo_zl (by decide) (by omega), if_neg (by omega), zo_zl (by decide) (by omega), if_neg (by omega), zcnt_rd hw]
  split
  · unfold zhlp; rw [zo_zl (by decide) (by omega), if_neg (by omega), zo_zl (by decide) (by omega), if_neg (by omega), zcnt_rd hw]
  split
  · rw [zo_zl (by decide) (by omega), if_neg (by omega), zcnt_rd hw]
  · rw [zo_zl (by omega) (by omega), if_neg (by omega), zcnt_rd hw]
/-- from where in the row one comes who stands there behind a move -/
def zsrc (p t i : Nat) : Nat := if i = t then p else if i < t then (if i < p then i else i + 1) else (if i - 1 < p then i - 1 else i)
theorem zmv_src {z : Nat → Int32} {p t i : Nat} (hz : Z0 z) (hi : i < zn z) (hp : p < zn z) (ht : t < zn z) : zmv z (nI (zrow z p)) p t (6 + i) = z (6 + zsrc p t i) := by
  rw [zmv_row hi hp ht]
  unfold zsrc
  by_cases c1 : i = t
  · rw [if_pos c1, if_pos c1, (hz.2.2.1 p hp).1]
  · rw [if_neg c1, if_neg c1]
    by_cases c2 : i < t
    · rw [if_pos c2, if_pos c2]
      by_cases c3 : i < p
      · rw [if_pos c3, if_pos c3]
      · rw [if_neg c3, if_neg c3]
    · rw [if_neg c2, if_neg c2]
      by_cases c3 : i - 1 < p
      · rw [if_pos c3, if_pos c3]
      · rw [if_neg c3, if_neg c3]
theorem zsrc_lt {n p t i : Nat} (hi : i < n) (hp : p < n) (ht : t < n) : zsrc p t i < n := by
  unfold zsrc
  split
  · exact hp
  · split
    · split <;> omega
    · split <;> omega
theorem zsrc_inj {p t i j : Nat} (h : zsrc p t i = zsrc p t j) : i = j := by
  unfold zsrc at h
  by_cases a1 : i = t <;> by_cases b1 : j = t <;> by_cases a2 : i < t <;> by_cases b2 : j < t <;> by_cases a3 : i < p <;> by_cases b3 : j < p <;> by_cases a4 : i - 1 < p <;> by_cases b4 : j - 1 < p <;> simp only [a1, b1, a2, b2, a3, b3, a4, b4, if_true, if_false] at h <;> omega
theorem Z0_mv {z : Nat → Int32} {p t : Nat} (hz : Z0 z) (hp : p < zn z) (ht : t < zn z) : Z0 (zmv z (nI (zrow z p)) p t) ∧ zn (zmv z (nI (zrow z p)) p t) = zn z ∧ ∀ i, i < zn z → zrow (zmv z (nI (zrow z p)) p t) i = zrow z (zsrc p t i) := by
  have h0 : zmv z (nI (zrow z p)) p t 0 = z 0 := zmv_else hp ht (Or.inl (by decide))
  have hn : zn (zmv z (nI (zrow z p)) p t) = zn z := by unfold zn at *; rw [h0]
  have hr : ∀ i, i < zn z → zrow (zmv z (nI (zrow z p)) p t) i = zrow z (zsrc p t i) := fun i hi => by unfold zrow; rw [← zmv_src hz hi hp ht]; rfl
  refine ⟨⟨by rw [h0, hn]; exact hz.1, by rw [hn]; exact hz.2.1, fun i hi => ?_, fun i j hi hj e => ?_⟩, hn, hr⟩
  · rw [hn] at hi
    rw [hr i hi, zmv_src hz hi hp ht, hn]
    exact hz.2.2.1 _ (zsrc_lt hi hp ht)
  · rw [hn] at hi hj
    rw [hr i hi, hr j hj] at e
    exact zsrc_inj (hz.2.2.2 _ _ (zsrc_lt hi hp ht) (zsrc_lt hj hp ht) e)
theorem mv_o {z : Nat → Int32} {f : Int32} {p t g w : Nat} (hb : zn z ≤ 10) (hp : p < zn z) (ht : t < zn z) : zo (zmv z f p t) g w = zo z g w := zmv_else hp ht (Or.inr (by omega))
theorem ZW_mv {z : Nat → Int32} {p t : Nat} (hz : ZW z) (hp : p < zn z) (ht : t < zn z) : ZW (zmv z (nI (zrow z p)) p t) := by
  have hb := hz.1.2.1
  obtain ⟨a, b, c⟩ := Z0_mv hz.1 hp ht
  refine ⟨a, fun f hf => fw_of b (fun w _ _ _ _ => mv_o hb hp ht) (hz.2.1 f (by rw [b] at hf; exact hf)), fun j hj => ?_⟩
  rw [zmv_else hp ht (Or.inr (by omega))]
  exact hz.2.2 j hj
/-- ahead of one, behind one -/
def zta (z : Nat → Int32) (f c : Nat) : Nat := if zpn z f < zpn z c then zpn z c - 1 else zpn z c
def ztb (z : Nat → Int32) (f c : Nat) : Nat := if zpn z f < zpn z c + 1 then zpn z c else zpn z c + 1
def zahead (z : Nat → Int32) (f c : Nat) : Nat → Int32 := zl (zmv z (nI f) (zpn z f) (zta z f c)) f 1 (zo z c 1)
def zbehind (z : Nat → Int32) (f c : Nat) : Nat → Int32 := zl (zmv z (nI f) (zpn z f) (ztb z f c)) f 1 (zo z c 1)
theorem zta_lt {z : Nat → Int32} {f c : Nat} (hz : Z0 z) (hf : f < zn z) (hc : c < zn z) : zta z f c < zn z := by
  have h1 := (zpn_lt hz hf).1
  have h2 := (zpn_lt hz hc).1
  unfold zta
  split <;> omega
theorem ztb_lt {z : Nat → Int32} {f c : Nat} (hz : Z0 z) (hf : f < zn z) (hc : c < zn z) : ztb z f c < zn z := by
  have h1 := (zpn_lt hz hf).1
  have h2 := (zpn_lt hz hc).1
  unfold ztb
  split <;> omega
theorem ZW_ahead {z : Nat → Int32} {f c : Nat} (hz : ZW z) (hf : f < zn z) (hc : c < zn z) : ZW (zahead z f c) ∧ zn (zahead z f c) = zn z := by
  obtain ⟨a1, a2, a3⟩ := zpn_lt hz.1 hf
  have htl := zta_lt hz.1 hf hc
  have h := ZW_mv hz a1 htl
  have hn := (Z0_mv hz.1 a1 htl).2.1
  rw [a3] at h hn
  exact ⟨ZW_zl h (by rw [hn]; exact hf) (by decide) (vok_any (by decide)), by unfold zahead; rw [zn_zl h.1, hn]⟩
theorem ZW_behind {z : Nat → Int32} {f c : Nat} (hz : ZW z) (hf : f < zn z) (hc : c < zn z) : ZW (zbehind z f c) ∧ zn (zbehind z f c) = zn z := by
  obtain ⟨a1, a2, a3⟩ := zpn_lt hz.1 hf
  have htl := ztb_lt hz.1 hf hc
  have h := ZW_mv hz a1 htl
  have hn := (Z0_mv hz.1 a1 htl).2.1
  rw [a3] at h hn
  exact ⟨ZW_zl h (by rw [hn]; exact hf) (by decide) (vok_any (by decide)), by unfold zbehind; rw [zn_zl h.1, hn]⟩
theorem ahead_o {z : Nat → Int32} {f c g w : Nat} (hz : Z0 z) (hf : f < zn z) (hc : c < zn z) (hw : w < 17) : zo (zahead z f c) g w = if g = f ∧ w = 1 then zo z c 1 else zo z g w := by
  unfold zahead
  rw [zo_zl (by decide) hw, mv_o hz.2.1 (zpn_lt hz hf).1 (zta_lt hz hf hc)]
theorem behind_o {z : Nat → Int32} {f c g w : Nat} (hz : Z0 z) (hf : f < zn z) (hc : c < zn z) (hw : w < 17) : zo (zbehind z f c) g w = if g = f ∧ w = 1 then zo z c 1 else zo z g w := by
  unfold zbehind
  rw [zo_zl (by decide) hw, mv_o hz.2.1 (zpn_lt hz hf).1 (ztb_lt hz hf hc)]

