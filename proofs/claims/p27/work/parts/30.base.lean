/-! PURE PART. Pieces, numbers -/
theorem bd_s {α β : Type} {a : α} {k : α → Option β} : bd (some a) k = k a := rfl
theorem bd2_s {α γ β : Type} {a : α} {c : γ} {k : α → γ → Option β} : bd2 (some (a, c)) k = k a c := rfl
theorem nm_k {α : Sort _} {β : Type} {a : α} {k : α → Option β} : nm a k = k a := rfl
theorem gdb_t {α : Type} {b : Bool} {k : Option α} (h : b = true) : gdb b k = k := by rw [h]; rfl
theorem FU_s : FU = 5999 + 1 := rfl
theorem inb_nI {i n : Nat} (h : i < n) (hn : n < 2 ^ 31) : inb (nI i) n = true := by
  have h1 : ¬ nI i < 0 := nI_pos (by omega)
  have h2 : (nI i).toNatClampNeg = i := nI_clamp (by omega)
  simp only [inb, h2, Bool.and_eq_true, Bool.not_eq_true', decide_eq_false_iff_not, decide_eq_true_eq]
  exact ⟨h1, h⟩
theorem nI_lit (n : Nat) : (OfNat.ofNat n : Int32) = nI n := rfl
theorem ix_z {f w : Nat} : (16 : Int32) + 17 * nI f + nI w = nI (16 + 17 * f + w) := by
  rw [nI_lit 16, nI_lit 17, pk_mul, nI_add, nI_add]
theorem ix_r {i : Nat} : (6 : Int32) + nI i = nI (6 + i) := by rw [nI_lit 6, nI_add]
/-- fields of the row of numbers -/
def zo (z : Nat → Int32) (f w : Nat) : Int32 := z (16 + 17 * f + w)
def zl (z : Nat → Int32) (f w : Nat) (x : Int32) : Nat → Int32 := upd z (16 + 17 * f + w) x
theorem upd_s {z : Nat → Int32} {i : Nat} {x : Int32} : upd z i x i = x := by simp [upd]
theorem upd_n {z : Nat → Int32} {i j : Nat} {x : Int32} (h : j ≠ i) : upd z i x j = z j := by simp [upd, h]
theorem zo_zl {z : Nat → Int32} {f w f' w' : Nat} {x : Int32} (hw : w < 17) (hw' : w' < 17) : zo (zl z f w x) f' w' = if f' = f ∧ w' = w then x else zo z f' w' := by
  unfold zo zl upd
  by_cases h : f' = f ∧ w' = w
  · rw [if_pos h, if_pos (by rw [h.1, h.2])]
  · rw [if_neg h, if_neg (by omega)]
theorem zl_lo {z : Nat → Int32} {f w i : Nat} {x : Int32} (h : i < 16) : zl z f w x i = z i := by unfold zl; exact upd_n (by omega)
theorem zo_lo {z : Nat → Int32} {f w i : Nat} {x : Int32} (h : i < 16) : zo (upd z i x) f w = zo z f w := by unfold zo; exact upd_n (by omega)
/-- the number of fighters -/
def zn (z : Nat → Int32) : Nat := (z 0).toNatClampNeg
theorem Int32_zero_le_iff {x : Int32} : 0 ≤ x ↔ 0 ≤ x.toInt := by rw [Int32.le_iff_toInt_le]; rfl
/-- what holds of a skirmish at every moment: rows and numbers in range -/
def zrow (z : Nat → Int32) (i : Nat) : Nat := (z (6 + i)).toNatClampNeg
def Z0 (z : Nat → Int32) : Prop := z 0 = nI (zn z) ∧ zn z ≤ 10 ∧ (∀ i, i < zn z → z (6 + i) = nI (zrow z i) ∧ zrow z i < zn z) ∧ (∀ i j, i < zn z → j < zn z → zrow z i = zrow z j → i = j)
theorem row_eq {M : MS} {i : Nat} (hi : i < 10) : gdb (inb ((6 : Int32) + nI i) 186) (some (rA M 221 (Int32.toNatClampNeg ((6 : Int32) + nI i)))) = some (rA M 221 (6 + i)) := by
  rw [ix_r, gdb_t (inb_nI (by omega) (by omega)), nI_clamp (by omega)]
theorem fb_holes : ∀ (m n : Nat) (f : Nat → Nat), (∀ i, i < n → f i < m) → (∀ i j, i < j → j < n → f i ≠ f j) → n ≤ m := by
  intro m
  induction m with
  | zero =>
    intro n f h1 _
    rcases Nat.eq_zero_or_pos n with h | h
    · omega
    · exact absurd (h1 0 h) (Nat.not_lt_zero _)
  | succ m ih =>
    intro n f h1 h2
    by_cases hx : ∃ i, i < n ∧ f i = m
    · obtain ⟨a, ha, hfa⟩ := hx
      have hg := ih (n - 1) (fun i => if i < a then f i else f (i + 1)) (by
        intro i hi
        by_cases q : i < a
        · simp only [if_pos q]
          have b1 := h1 i (by omega)
          have b2 := h2 i a q ha
          omega
        · simp only [if_neg q]
          have b1 := h1 (i + 1) (by omega)
          have b2 := h2 a (i + 1) (by omega) (by omega)
          omega) (by
        intro i j hij hj
        by_cases q : i < a
        · by_cases r : j < a
          · simp only [if_pos q, if_pos r]
            exact h2 i j hij (by omega)
          · simp only [if_pos q, if_neg r]
            exact h2 i (j + 1) (by omega) (by omega)
        · have r : ¬ j < a := by omega
          simp only [if_neg q, if_neg r]
          exact h2 (i + 1) (j + 1) (by omega) (by omega))
      omega
    · have hg := ih n f (fun i hi => by
        have b1 := h1 i hi
        have b2 : f i ≠ m := fun e => hx ⟨i, hi, e⟩
        omega) h2
      omega
/-- two of them in one place -/
theorem fb_twice {m n : Nat} {f : Nat → Nat} (h : ∀ i, i < n → f i < m) (hm : m < n) : ∃ i j, i < j ∧ j < n ∧ f i = f j := by
  refine Classical.byContradiction fun hx => ?_
  have := fb_holes m n f h (fun i j hij hj e => hx ⟨i, j, hij, hj, e⟩)
  omega
/-- as many as places, none twice: each place is taken -/
theorem fb_onto {n : Nat} {f : Nat → Nat} (h : ∀ i, i < n → f i < n) (h2 : ∀ i j, i < j → j < n → f i ≠ f j) {y : Nat} (hy : y < n) : ∃ i, i < n ∧ f i = y := by
  refine Classical.byContradiction fun hx => ?_
  have hne : ∀ i, i < n → f i ≠ y := fun i hi e => hx ⟨i, hi, e⟩
  have := fb_holes (n - 1) n (fun i => if f i < y then f i else f i - 1) (by
    intro i hi
    have b1 := h i hi
    have b2 := hne i hi
    by_cases q : f i < y
    · simp only [if_pos q]; omega
    · simp only [if_neg q]; omega) (by
    intro i j hij hj
    have b1 := hne i (by omega)
    have b2 := hne j hj
    have b3 := h2 i j hij hj
    by_cases q : f i < y
    · by_cases r : f j < y
      · simp only [if_pos q, if_pos r]; exact b3
      · simp only [if_pos q, if_neg r]; omega
    · by_cases r : f j < y
      · simp only [if_neg q, if_pos r]; omega
      · simp only [if_neg q, if_neg r]; omega)
  omega
/-! ===== how many places have a property ===== -/
theorem fb_onto0 {n : Nat} {f : Nat → Nat} (h : ∀ i, i < n → f i < n) (h2 : ∀ i j, i < n → j < n → f i = f j → i = j) {y : Nat} (hy : y < n) : ∃ i, i < n ∧ f i = y := fb_onto h (fun i j hij hj e => by have := h2 i j (by omega) hj e; omega) hy

