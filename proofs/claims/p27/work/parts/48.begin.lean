/-! the model's come; begin, both sides -/
/-- the row as begin lays it -/
def insN (r : Nat → Nat) (n t x : Nat) : Nat → Nat := fun i => if i = t then x else if t < i ∧ i ≤ n then r (i - 1) else r i
def br (I : Nat → Int32) : Nat → (Nat → Nat)
  | 0 => fun _ => 0
  | m + 1 => insN (br I m) m (fin (fun p => I (br I m p)) (I m) m 0) m
theorem br_ok {I : Nat → Int32} : ∀ m, (∀ i, i < m → br I m i < m) ∧ (∀ i j, i < m → j < m → br I m i = br I m j → i = j) ∧ (∀ i j, i < j → j < m → I (br I m j) ≤ I (br I m i))
  | 0 => ⟨fun i h => by omega, fun i j h => by omega, fun i j _ h => by omega⟩
  | m + 1 => by
    obtain ⟨h1, h2, h3⟩ := br_ok (I := I) m
    obtain ⟨_, f2, f3, f4⟩ := fin_ok (a := fun p => I (br I m p)) (x := I m) m 0
    obtain ⟨t, ht⟩ : ∃ t, fin (fun p => I (br I m p)) (I m) m 0 = t := ⟨_, rfl⟩
    rw [ht] at f2 f3 f4
    have e : ∀ i, br I (m + 1) i = if i = t then m else if t < i ∧ i ≤ m then br I m (i - 1) else br I m i := fun i => by rw [br, ht]; rfl
    have low : ∀ j, t ≤ j → j < m → I (br I m j) < I m := fun j g1 g2 => by
      have q4 := f4 (by omega)
      by_cases q : j = t
      · rw [q]; exact q4
      · have q5 := h3 t j (by omega) g2
        have q4' : I (br I m t) < I m := q4
        rw [Int32.le_iff_toInt_le] at q5
        rw [Int32.lt_iff_toInt_lt] at q4' ⊢
        omega
    have up : ∀ j, j < t → I m ≤ I (br I m j) := fun j g1 => Int32.not_lt.mp (f3 j (by omega) g1)
    refine ⟨fun i hi => ?_, fun i j hi hj q => ?_, fun i j hij hj => ?_⟩
    · rw [e i]
      by_cases c : i = t
      · rw [if_pos c]; omega
      · rw [if_neg c]
        by_cases c2 : t < i ∧ i ≤ m
        · rw [if_pos c2]; have := h1 (i - 1) (by omega); omega
        · rw [if_neg c2]; have := h1 i (by omega); omega
    · rw [e i, e j] at q
      by_cases c : i = t
      · rw [if_pos c] at q
        by_cases d : j = t
        · omega
        · rw [if_neg d] at q
          by_cases d2 : t < j ∧ j ≤ m
          · rw [if_pos d2] at q; have := h1 (j - 1) (by omega); omega
          · rw [if_neg d2] at q; have := h1 j (by omega); omega
      · rw [if_neg c] at q
        by_cases d : j = t
        · rw [if_pos d] at q
          by_cases c2 : t < i ∧ i ≤ m
          · rw [if_pos c2] at q; have := h1 (i - 1) (by omega); omega
          · rw [if_neg c2] at q; have := h1 i (by omega); omega
        · rw [if_neg d] at q
          by_cases c2 : t < i ∧ i ≤ m
          · rw [if_pos c2] at q
            by_cases d2 : t < j ∧ j ≤ m
            · rw [if_pos d2] at q; have := h2 (i - 1) (j - 1) (by omega) (by omega) q; omega
            · rw [if_neg d2] at q; have := h2 (i - 1) j (by omega) (by omega) q; omega
          · rw [if_neg c2] at q
            by_cases d2 : t < j ∧ j ≤ m
            · rw [if_pos d2] at q; have := h2 i (j - 1) (by omega) (by omega) q; omega
            · rw [if_neg d2] at q; exact h2 i j (by omega) (by omega) q
    · rw [e i, e j]
      by_cases c : i = t
      · rw [if_pos c, if_neg (show ¬ j = t by omega), if_pos (show t < j ∧ j ≤ m by omega)]
        exact Int32.le_of_lt (low (j - 1) (by omega) (by omega))
      · rw [if_neg c]
        by_cases d : j = t
        · rw [if_pos d, if_neg (show ¬ (t < i ∧ i ≤ m) by omega)]
          exact up i (by omega)
        · rw [if_neg d]
          by_cases c2 : t < i ∧ i ≤ m
          · rw [if_pos c2, if_pos (show t < j ∧ j ≤ m by omega)]
            exact h3 (i - 1) (j - 1) (by omega) (by omega)
          · rw [if_neg c2]
            by_cases d2 : t < j ∧ j ≤ m
            · rw [if_pos d2]
              by_cases g : i = j - 1
              · omega
              · exact h3 i (j - 1) (by omega) (by omega)
            · rw [if_neg d2]; exact h3 i j hij (by omega)
def zI (z : Nat → Int32) : Nat → Int32 := fun f => zo z f 1
def zbr (z : Nat → Int32) (m : Nat) : Nat → Int32 := fun j => if 6 ≤ j ∧ j < 6 + m then nI (br (zI z) m (j - 6)) else z j
theorem zbr_row {z : Nat → Int32} {m i : Nat} (hi : i < m) : zbr z m (6 + i) = nI (br (zI z) m i) := by
  unfold zbr
  rw [if_pos (by omega), show 6 + i - 6 = i by omega]
theorem zbr_else {z : Nat → Int32} {m j : Nat} (h : j < 6 ∨ 6 + m ≤ j) : zbr z m j = z j := by
  unfold zbr
  rw [if_neg (by omega)]
theorem zbr_o {z : Nat → Int32} {m g w : Nat} (hm : m ≤ 10) : zo (zbr z m) g w = zo z g w := by
  unfold zo
  exact zbr_else (by omega)
def zloses (z : Nat → Int32) : Nat → (Nat → Int32)
  | 0 => z
  | m + 1 => zlose (zloses z m) m
theorem zloses_lo {z : Nat → Int32} {i : Nat} (hi : i < 16) : ∀ m, zloses z m i = z i
  | 0 => rfl
  | m + 1 => by rw [zloses, zlose_lo hi, zloses_lo hi m]
theorem zloses_o {z : Nat → Int32} {g w : Nat} (hw : w < 17) : ∀ m, zo (zloses z m) g w = if g < m ∧ 7 ≤ w ∧ w ≤ 10 then -1 else zo z g w
  | 0 => by rw [zloses, if_neg (by omega)]
  | m + 1 => by
    rw [zloses, zlose_o hw, zloses_o hw m]
    by_cases e : g = m ∧ 7 ≤ w ∧ w ≤ 10
    · rw [if_pos e, if_pos (by omega)]
    · rw [if_neg e]
      by_cases e2 : g < m ∧ 7 ≤ w ∧ w ≤ 10
      · rw [if_pos e2, if_pos (by omega)]
      · rw [if_neg e2, if_neg (by omega)]
theorem ZW_loses {z : Nat → Int32} (hz : ZW z) : ∀ m, m ≤ zn z → ZW (zloses z m) ∧ zn (zloses z m) = zn z
  | 0, _ => ⟨hz, rfl⟩
  | m + 1, h => by
    obtain ⟨a, b⟩ := ZW_loses hz m (by omega)
    exact ⟨ZW_lose a (by rw [b]; omega), by rw [zloses, (Z0_lose a.1).2.1, b]⟩
def zb0 (z : Nat → Int32) : Nat → Int32 := zloses (zbr z (zn z)) (zn z)
def zb1' (z : Nat → Int32) : Nat → Int32 := upd (zdel (zb0 z) (zn z)) 1 1
def zbegin (z : Nat → Int32) : Nat → Int32 := zgo 100 (zb1' z) 0
theorem Z0_br {z : Nat → Int32} (hz : Z0 z) : Z0 (zbr z (zn z)) ∧ zn (zbr z (zn z)) = zn z := by
  have hb := hz.2.1
  obtain ⟨h1, h2, h3⟩ := br_ok (I := zI z) (zn z)
  have e0 : zbr z (zn z) 0 = z 0 := zbr_else (by omega)
  have hn : zn (zbr z (zn z)) = zn z := by show (zbr z (zn z) 0).toNatClampNeg = zn z; rw [e0]; rfl
  have hr : ∀ i, i < zn z → zrow (zbr z (zn z)) i = br (zI z) (zn z) i := fun i hi => by
    unfold zrow
    rw [zbr_row hi, nI_clamp (by have := h1 i hi; omega)]
  refine ⟨⟨by rw [e0, hn]; exact hz.1, by rw [hn]; exact hb, fun i hi => ?_, fun i j hi hj e => ?_⟩, hn⟩
  · rw [hn] at hi
    rw [hr i hi, hn, zbr_row hi]
    exact ⟨rfl, h1 i hi⟩
  · rw [hn] at hi hj
    rw [hr i hi, hr j hj] at e
    exact h2 i j hi hj e
theorem ZW_b0 {z : Nat → Int32} (hz : ZW z) : ZW (zb0 z) ∧ zn (zb0 z) = zn z := by
  have hb := hz.1.2.1
  obtain ⟨a, b⟩ := Z0_br hz.1
  have hw : ZW (zbr z (zn z)) := ⟨a, fun f hf => fw_of b (fun w _ _ _ _ => zbr_o hb) (hz.2.1 f (by rw [b] at hf; exact hf)), fun j hj => by rw [zbr_else (by omega)]; exact hz.2.2 j hj⟩
  obtain ⟨c, d⟩ := ZW_loses hw (zn z) (by rw [b]; exact Nat.le_refl _)
  exact ⟨c, d.trans b⟩
theorem ZW_b1 {z : Nat → Int32} (hz : ZW z) : ZW (zb1' z) ∧ zn (zb1' z) = zn z := by
  obtain ⟨a, b⟩ := ZW_b0 hz
  have c : ZW (zdel (zb0 z) (zn z)) := ZW_del a _ (by rw [b]; exact Nat.le_refl _)
  have d : zn (zdel (zb0 z) (zn z)) = zn z := by rw [(Z0_del a.1).2.1, b]
  exact ⟨ZW_up c (by decide) (by decide), (zn_up c.1 (by decide) (by decide)).trans d⟩
theorem zbegin_ok {z : Nat → Int32} (hz : ZW z) : ZW (zbegin z) ∧ TH (zbegin z) ∧ zn (zbegin z) = zn z := by
  obtain ⟨a, b⟩ := ZW_b1 hz
  have := zmu_60 a
  obtain ⟨c, d, e⟩ := zgo_ok 100 (zb1' z) 0 a (Nat.zero_le _) (by omega)
  exact ⟨c, d, e.trans b⟩
