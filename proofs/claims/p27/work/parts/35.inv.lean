/-! what every change of the row of numbers keeps -/
theorem fw_of {z z' : Nat → Int32} {f : Nat} (hn : zn z' = zn z) (h : ∀ w, w < 17 → w ≠ 1 → w ≠ 15 → w ≠ 16 → zo z' f w = zo z f w) (hf : fw z f) : fw z' f := by
  obtain ⟨a, b, c, d, e, g, k, q⟩ := hf
  have h' : ∀ w, w < 15 → w ≠ 1 → zo z' f w = zo z f w := fun w h1 h2 => h w (by omega) h2 (by omega) (by omega)
  refine ⟨?_, ?_, ?_, ?_, ?_, ?_, ?_, fun x hx => ?_⟩
  · rw [h' 0 (by decide) (by decide)]; exact a
  · rw [h' 2 (by decide) (by decide)]; exact b
  · rw [h' 3 (by decide) (by decide)]; exact c
  · rw [h' 4 (by decide) (by decide)]; exact d
  · rw [h' 5 (by decide) (by decide)]; exact e
  · rw [h' 6 (by decide) (by decide)]; exact g
  · rw [h' 7 (by decide) (by decide), h' 8 (by decide) (by decide), h' 9 (by decide) (by decide), h' 10 (by decide) (by decide), hn]; exact k
  · rw [h' (11 + x) (by omega) (by omega)]; exact q x hx
def vok (w : Nat) (x : Int32) : Prop := (w = 0 → x = 0 ∨ x = 1) ∧ (w = 2 → ∃ l, l ≤ 99 ∧ x = nI l) ∧ (w = 3 → ∃ l, l ≤ 99 ∧ x = nI l) ∧ (w = 4 → ∃ l, l ≤ 20 ∧ x = nI l) ∧ (w = 5 → ∃ l, l ≤ 9 ∧ x = nI l) ∧ (w = 6 → x = 0 ∨ x = 1) ∧ ¬ (7 ≤ w ∧ w ≤ 10) ∧ (11 ≤ w → w < 15 → ∃ l, l ≤ 5 ∧ x = nI l)
theorem fw_zl {z : Nat → Int32} {f g w : Nat} {x : Int32} (hz : Z0 z) (hw : w < 17) (hv : vok w x) (hf : fw z g) : fw (zl z f w x) g := by
  obtain ⟨a, b, c, d, e, q, k, r⟩ := hf
  obtain ⟨va, vb, vc, vd, ve, vq, vk, vr⟩ := hv
  have hn : zn (zl z f w x) = zn z := (Z0_zl hz).2.1
  have o : ∀ w', w' < 17 → zo (zl z f w x) g w' = if g = f ∧ w' = w then x else zo z g w' := fun w' h => zo_zl hw h
  have o2 : ∀ w', w' < 17 → 7 ≤ w' → w' ≤ 10 → zo (zl z f w x) g w' = zo z g w' := fun w' h h1 h2 => by rw [o w' h, if_neg (fun q => vk ⟨by omega, by omega⟩)]
  refine ⟨?_, ?_, ?_, ?_, ?_, ?_, ?_, fun y hy => ?_⟩
  · rw [o 0 (by decide)]; split
    · rename_i h; exact va h.2.symm
    · exact a
  · rw [o 2 (by decide)]; split
    · rename_i h; exact vb h.2.symm
    · exact b
  · rw [o 3 (by decide)]; split
    · rename_i h; exact vc h.2.symm
    · exact c
  · rw [o 4 (by decide)]; split
    · rename_i h; exact vd h.2.symm
    · exact d
  · rw [o 5 (by decide)]; split
    · rename_i h; exact ve h.2.symm
    · exact e
  · rw [o 6 (by decide)]; split
    · rename_i h; exact vq h.2.symm
    · exact q
  · rw [o2 7 (by decide) (by decide) (by decide), o2 8 (by decide) (by decide) (by decide), o2 9 (by decide) (by decide) (by decide), o2 10 (by decide) (by decide) (by decide), hn]; exact k
  · rw [o (11 + y) (by omega)]; split
    · rename_i h; exact vr (by omega) (by omega)
    · exact r y hy
theorem ZW_zl {z : Nat → Int32} {f w : Nat} {x : Int32} (hz : ZW z) (hf : f < zn z) (hw : w < 17) (hv : vok w x) : ZW (zl z f w x) := by
  have hb := hz.1.2.1
  obtain ⟨a, b, c⟩ := Z0_zl (f := f) (w := w) (x := x) hz.1
  refine ⟨a, fun g hg => fw_zl hz.1 hw hv (hz.2.1 g (by rw [b] at hg; exact hg)), fun j hj => ?_⟩
  unfold zl
  rw [upd_n (by omega)]
  exact hz.2.2 j hj
theorem ZW_up {z : Nat → Int32} {g : Nat} {x : Int32} (hz : ZW z) (h1 : 1 ≤ g) (h2 : g ≤ 5) : ZW (upd z g x) := by
  obtain ⟨a, b, c⟩ := Z0_up (g := g) (x := x) hz.1 h1 h2
  refine ⟨a, fun f hf => fw_of b (fun w _ _ _ _ => zo_lo (by omega)) (hz.2.1 f (by rw [b] at hf; exact hf)), fun j hj => ?_⟩
  rw [upd_n (by omega)]
  exact hz.2.2 j hj
theorem hi_zl {z : Nat → Int32} {f w j : Nat} {x : Int32} (hf : f < 10) (hw : w < 17) (hj : 186 ≤ j) : zl z f w x j = z j := by
  unfold zl
  exact upd_n (by omega)
theorem Z0_lose {z : Nat → Int32} {f : Nat} (hz : Z0 z) : Z0 (zlose z f) ∧ zn (zlose z f) = zn z ∧ ∀ i, i < zn z → zrow (zlose z f) i = zrow z i := Z0_of hz (fun i hi _ _ _ _ _ => zlose_lo hi)
theorem ZW_lose {z : Nat → Int32} {f : Nat} (hz : ZW z) (hf : f < zn z) : ZW (zlose z f) := by
  have hb := hz.1.2.1
  obtain ⟨a, b, c⟩ := Z0_lose (f := f) hz.1
  refine ⟨a, fun g hg => ?_, fun j hj => ?_⟩
  · rw [b] at hg
    have h := hz.2.1 g hg
    by_cases e : g = f
    · obtain ⟨h0, h2, h3, h4, h5, h6, h7, h8⟩ := h
      have o : ∀ w, w < 17 → ¬ (7 ≤ w ∧ w ≤ 10) → zo (zlose z f) g w = zo z g w := fun w hw h => by rw [zlose_o hw, if_neg (fun q => h q.2)]
      have o2 : ∀ w, w < 17 → (7 ≤ w ∧ w ≤ 10) → zo (zlose z f) g w = -1 := fun w hw h => by rw [zlose_o hw, if_pos ⟨e, h⟩]
      refine ⟨by rw [o 0 (by decide) (by decide)]; exact h0, by rw [o 2 (by decide) (by decide)]; exact h2, by rw [o 3 (by decide) (by decide)]; exact h3, by rw [o 4 (by decide) (by decide)]; exact h4, by rw [o 5 (by decide) (by decide)]; exact h5, by rw [o 6 (by decide) (by decide)]; exact h6, Or.inl ⟨o2 7 (by decide) (by decide), o2 8 (by decide) (by decide), o2 9 (by decide) (by decide), o2 10 (by decide) (by decide)⟩, fun c hc => ?_⟩
      rw [o (11 + c) (by omega) (by omega)]
      exact h8 c hc
    · exact fw_of b (fun w hw _ _ _ => by rw [zlose_o hw, if_neg (fun q => e q.1)]) h
  · unfold zlose
    rw [hi_zl (by omega) (by decide) hj, hi_zl (by omega) (by decide) hj, hi_zl (by omega) (by decide) hj, hi_zl (by omega) (by decide) hj]
    exact hz.2.2 j hj
theorem ZW_del {z : Nat → Int32} (hz : ZW z) : ∀ m, m ≤ zn z → ZW (zdel z m)
  | 0, _ => hz
  | m + 1, h => by
    rw [zdel]
    exact ZW_zl (ZW_del hz m (by omega)) (by rw [(Z0_del hz.1).2.1]; omega) (by decide) ⟨by decide, by decide, by decide, by decide, by decide, fun _ => Or.inl rfl, by decide, by decide⟩
theorem vok_cond {c l : Nat} {x : Int32} (hc : c < 4) (hl : l ≤ 5) (hx : x = nI l) : vok (11 + c) x := ⟨fun h => by omega, fun h => by omega, fun h => by omega, fun h => by omega, fun h => by omega, fun h => by omega, fun h => by omega, fun _ _ => ⟨l, hl, hx⟩⟩
theorem vok_life {l : Nat} {x : Int32} (hl : l ≤ 99) (hx : x = nI l) : vok 2 x := ⟨fun h => by omega, fun _ => ⟨l, hl, hx⟩, fun h => by omega, fun h => by omega, fun h => by omega, fun h => by omega, by omega, fun h => by omega⟩
theorem vok_place {l : Nat} {x : Int32} (hl : l ≤ 9) (hx : x = nI l) : vok 5 x := ⟨fun h => by omega, fun h => by omega, fun h => by omega, fun h => by omega, fun _ => ⟨l, hl, hx⟩, fun h => by omega, by omega, fun h => by omega⟩
theorem vok_del {x : Int32} (hx : x = 0 ∨ x = 1) : vok 6 x := ⟨fun h => by omega, fun h => by omega, fun h => by omega, fun h => by omega, fun h => by omega, fun _ => hx, by omega, fun h => by omega⟩
theorem vok_any {w : Nat} {x : Int32} (hw : w = 1 ∨ w = 15 ∨ w = 16) : vok w x := ⟨fun h => by omega, fun h => by omega, fun h => by omega, fun h => by omega, fun h => by omega, fun h => by omega, fun h => by omega, fun _ _ => by omega⟩
theorem cond_less {x : Int32} {l : Nat} (hl : l ≤ 5) (hx : x = nI l) : (if 0 < x then x - 1 else 0) = nI (l - 1) := by
  subst hx
  cases l with
  | zero => rw [if_neg (by decide)]; rfl
  | succ l => rw [if_pos (show (0 : Int32) < nI (l + 1) from nI_lt (a := 0) (by omega) (by omega)), nI_pred]; rfl
theorem ZW_pass {z : Nat → Int32} {f : Nat} (hz : ZW z) (hf : f < zn z) : ∀ c, c ≤ 4 → ZW (zpass z f c)
  | 0, _ => hz
  | c + 1, h => by
    rw [zpass]
    obtain ⟨l, hl, hx⟩ := (hz.2.1 f hf).2.2.2.2.2.2.2 c (by omega)
    exact ZW_zl (ZW_pass hz hf c (by omega)) (by rw [(Z0_pass hz.1).2.1]; exact hf) (by omega) (vok_cond (by omega) (show l - 1 ≤ 5 by omega) (cond_less hl hx))
theorem life_less {x : Int32} {l : Nat} (hl : l ≤ 99) (hx : x = nI l) : (if 2 ≤ x then x - 2 else 0) = nI (l - 2) := by
  subst hx
  by_cases h : 2 ≤ l
  · rw [if_pos (show (2 : Int32) ≤ nI l from nI_le (a := 2) h (by omega)), nI_lit 2, pk_sub h]
  · rw [if_neg (show ¬ (2 : Int32) ≤ nI l from nI_ge (b := 2) (by omega) (by decide)), show l - 2 = 0 by omega]; rfl
theorem ZW_beg {z : Nat → Int32} {f : Nat} (hz : ZW z) (hf : f < zn z) : ZW (zbeg z f) := by
  have h1 : ZW (upd (upd z 2 (nI f)) 5 (z 5 + 1)) := ZW_up (ZW_up hz (by decide) (by decide)) (by decide) (by decide)
  have hn : zn (upd (upd z 2 (nI f)) 5 (z 5 + 1)) = zn z := by unfold zn; rw [upd_n (by decide), upd_n (by decide)]
  have h2 : ZW (zlose (upd (upd z 2 (nI f)) 5 (z 5 + 1)) f) := ZW_lose h1 (by rw [hn]; exact hf)
  unfold zbeg
  split
  · obtain ⟨l, hl, hx⟩ := (hz.2.1 f hf).2.1
    exact ZW_zl h2 (by rw [(Z0_lose h1.1).2.1, hn]; exact hf) (by decide) (vok_life (show l - 2 ≤ 99 by omega) (life_less hl hx))
  · exact h2
/-- the one whose turn it is -/
def TH (z : Nat → Int32) : Prop := z 2 = -1 ∨ ∃ f, f < zn z ∧ z 2 = nI f ∧ ¬ zo z f 2 = 0 ∧ zo z f 6 = 0 ∧ zo z f 7 = -1
theorem ZW_next {z : Nat → Int32} {p : Nat} (hz : ZW z) : ZW (znext z p).1 := by
  unfold znext
  split
  · refine ZW_del (ZW_up hz (by decide) (by decide)) _ ?_
    rw [(Z0_up hz.1 (by decide) (by decide)).2.1]; exact Nat.le_refl _
  · exact hz
theorem zgo_ok : ∀ m (z : Nat → Int32) (p : Nat), ZW z → p ≤ zn z → zmu z (zn z) < m → ZW (zgo m z p) ∧ TH (zgo m z p) ∧ zn (zgo m z p) = zn z := by
  intro m
  induction m with
  | zero => intro z p _ _ h; omega
  | succ m ih =>
    intro z p hz hp hmu
    rw [zgo]
    by_cases ha : zall z (zn z) = true
    · rw [if_pos ha]
      exact ⟨ZW_up hz (by decide) (by decide), Or.inl (by rw [upd_s]), (Z0_up hz.1 (by decide) (by decide)).2.1⟩
    rw [if_neg ha]
    obtain ⟨f, hf, hn, hz1, hn1, h1, h6, ho, hr⟩ := znext_ok hz.1 hp ha
    have hb := hz.1.2.1
    have hcl : (znext z p).2.toNatClampNeg = f := by rw [hn, nI_clamp (by omega)]
    rw [hcl]
    have hw1 : ZW (znext z p).1 := ZW_next hz
    have hw2 : ZW (zbeg (znext z p).1 f) := ZW_beg hw1 (by rw [hn1]; exact hf)
    have hn2 : zn (zbeg (znext z p).1 f) = zn z := (Z0_beg hz1).2.1.trans hn1
    by_cases hc : zo (zbeg (znext z p).1 f) f 2 = 0 ∨ 0 < zo (zbeg (znext z p).1 f) f 11
    · rw [if_pos hc]
      have hw3 : ZW (zpass (zbeg (znext z p).1 f) f 4) := ZW_pass hw2 (by rw [hn2]; exact hf) 4 (by decide)
      have hn3 : zn (zpass (zbeg (znext z p).1 f) f 4) = zn z := (Z0_pass hw2.1).2.1.trans hn2
      obtain ⟨c1, c2, c3⟩ := zpn_lt hw3.1 (f := f) (by rw [hn3]; exact hf)
      obtain ⟨g1, g2, g3⟩ := ih _ (zpn (zpass (zbeg (znext z p).1 f) f 4) f + 1) hw3 (by omega) (by rw [hn3]; have := zgo_step hz.1 hp ha hf hn h1 hz1 ho hc; omega)
      exact ⟨g1, g2, g3.trans hn3⟩
    · rw [if_neg hc]
      refine ⟨hw2, Or.inr ⟨f, by rw [hn2]; exact hf, ?_, fun q => hc (Or.inl q), ?_, ?_⟩, hn2⟩
      · rw [zbeg_lo (by decide)]; rfl
      · rw [zbeg_o (by decide), if_neg (by omega), if_neg (by omega)]; exact h6
      · rw [zbeg_o (by decide), if_pos ⟨rfl, by decide, by decide⟩]
/-- the turns that can end at once are few -/
theorem zmu_60 {z : Nat → Int32} (hz : ZW z) : zmu z (zn z) ≤ 60 := by
  have hb := hz.1.2.1
  have h := zmu_le (z := z) (b := 6) (zn z) (fun g hg => by
    unfold zt
    split
    · omega
    · obtain ⟨l, hl, hx⟩ := (hz.2.1 g hg).2.2.2.2.2.2.2 0 (by decide)
      rw [show (11 : Nat) = 11 + 0 from rfl, hx, nI_clamp (by omega)]
      omega)
  omega
theorem zend_ok {z : Nat → Int32} {f : Nat} (hz : ZW z) (hf : f < zn z) : ZW (zend z f) ∧ TH (zend z f) ∧ zn (zend z f) = zn z := by
  have h1 : ZW (zpass z f 4) := ZW_pass hz hf 4 (by decide)
  have hn : zn (zpass z f 4) = zn z := (Z0_pass hz.1).2.1
  obtain ⟨c1, c2, c3⟩ := zpn_lt h1.1 (f := f) (by rw [hn]; exact hf)
  have := zmu_60 h1
  obtain ⟨a, b, c⟩ := zgo_ok 100 (zpass z f 4) (zpn (zpass z f 4) f + 1) h1 (by omega) (by omega)
  exact ⟨a, b, c.trans hn⟩
