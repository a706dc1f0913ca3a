/-! the model saves, undoes, puts aside -/
theorem ix_s {m i : Nat} : nI m * (186 : Int32) + nI i = nI (m * 186 + i) := by rw [nI_lit 186, pk_mul, nI_add]
def cpw (w z : Nat → Int32) (m i : Nat) : Nat → Int32 := fun j => if 186 * m ≤ j ∧ j < 186 * m + i then z (j - 186 * m) else w j
theorem cpw_up {w z : Nat → Int32} {m i : Nat} : upd (cpw w z m i) (m * 186 + i) (z i) = cpw w z m (i + 1) := by
  funext j
  unfold upd cpw
  by_cases e : j = m * 186 + i
  · rw [if_pos e, if_pos (by omega), show j - 186 * m = i by omega]
  · rw [if_neg e]
    by_cases q : 186 * m ≤ j ∧ j < 186 * m + i
    · rw [if_pos q, if_pos (by omega)]
    · rw [if_neg q, if_neg (by omega)]
def shw (w : Nat → Int32) (i : Nat) : Nat → Int32 := fun j => if j < i then w (j + 186) else w j
theorem shw_up {w : Nat → Int32} {i : Nat} : upd (shw w i) i (shw w i (i + 186)) = shw w (i + 1) := by
  funext j
  unfold upd shw
  rw [if_neg (show ¬ i + 186 < i by omega)]
  by_cases e : j = i
  · rw [if_pos e, if_pos (by omega), e]
  · rw [if_neg e]
    by_cases q : j < i
    · rw [if_pos q, if_pos (by omega)]
    · rw [if_neg q, if_neg (by omega)]
/-- a row of 186 copied -/
def cpz (y z : Nat → Int32) (i : Nat) : Nat → Int32 := fun j => if j < i then z j else y j
theorem cpz_up {y z : Nat → Int32} {i : Nat} : upd (cpz y z i) i (z i) = cpz y z (i + 1) := by
  funext j
  unfold upd cpz
  by_cases e : j = i
  · rw [if_pos e, if_pos (by omega), e]
  · rw [if_neg e]
    by_cases q : j < i
    · rw [if_pos q, if_pos (by omega)]
    · rw [if_neg q, if_neg (by omega)]
theorem cpz_all {y s : Nat → Int32} (hy : ∀ j, 186 ≤ j → y j = 0) (hs : ∀ j, 186 ≤ j → s j = 0) : cpz y s 186 = s := by
  funext j
  unfold cpz
  by_cases q : j < 186
  · rw [if_pos q]
  · rw [if_neg q, hy j (by omega), hs j (by omega)]
