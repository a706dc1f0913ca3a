/-! ready; the calls that throw nothing -/
def rk (k c : Int32) : Bool := decide (k = 0 ∨ k = 2) && wi c 0 3
def rs (x g w : Int32) : Bool := decide (¬ x = -1) && (decide (¬ g = x) && decide (¬ w = x))
theorem rdy_w {M : MS} {z : Nat → Int32} {w : Int32} {J : MS → Option (Nat × Int32 × MS)} (h : CZ M 0 z) (hw : w = -1 ∨ isf z w = true) : nm J (fun j15_4 => (if w = (-1 : Int32) then (j15_4 M) else (bx (F_X4_requireFighter M w) (fun M31 => (j15_4 M31)) (0 : Int32)))) = J M := by
  rw [nm_k]
  by_cases e : w = -1
  · rw [if_pos e]
  · rw [if_neg e, rqF1 h (hw.resolve_left e)]
theorem rdy_w0 {M : MS} {z : Nat → Int32} {w : Int32} {J : MS → Option (Nat × Int32 × MS)} (h : CZ M 0 z) (hw : ¬ (w = -1 ∨ isf z w = true)) : nm J (fun j15_4 => (if w = (-1 : Int32) then (j15_4 M) else (bx (F_X4_requireFighter M w) (fun M31 => (j15_4 M31)) (0 : Int32)))) = some (3, 0, M) := by
  rw [nm_k, if_neg (fun q => hw (Or.inl q)), rqF0 h (fun q => hw (Or.inr q))]
theorem rdy_k {M : MS} {k c : Int32} {J : Int32 → Option (Nat × Int32 × MS)} : nm J (fun j39_6 => (nm (bd (F_X4_isWithin M c (0 : Int32) (3 : Int32)) fun r25 => (if r25 = 0 then (j39_6 (0 : Int32)) else (j39_6 (1 : Int32)))) fun j24_22 => (if k = 0 then j24_22 else (if ¬ k = (2 : Int32) then (j39_6 (0 : Int32)) else j24_22)))) = J (if rk k c = true then 1 else 0) := by
  have key : (bd (F_X4_isWithin M c (0 : Int32) (3 : Int32)) fun r25 => (if r25 = 0 then (J (0 : Int32)) else (J (1 : Int32)))) = J (if wi c 0 3 = true then 1 else 0) := by
    by_cases h : wi c 0 3 = true
    · rw [isW_t h, bd_s, if_neg (by decide), if_pos h]
    · rw [isW_f h, bd_s, if_pos rfl, if_neg h]
  rw [nm_k, nm_k, key]
  unfold rk
  by_cases e : k = 0
  · rw [if_pos e]; simp [e]
  · rw [if_neg e]
    by_cases e2 : k = 2
    · rw [if_neg (fun q => q e2)]; simp [e2]
    · rw [if_pos e2]; simp [e, e2]
theorem rdy_s {x g w : Int32} {J : Int32 → Option (Nat × Int32 × MS)} : nm J (fun j80_11 => (if x = (-1 : Int32) then (j80_11 (0 : Int32)) else (if g = x then (j80_11 (0 : Int32)) else (if w = x then (j80_11 (0 : Int32)) else (j80_11 (1 : Int32)))))) = J (if rs x g w = true then 1 else 0) := by
  rw [nm_k]
  unfold rs
  by_cases e : x = -1
  · rw [if_pos e]; simp [e]
  · rw [if_neg e]
    by_cases e1 : g = x
    · rw [if_pos e1]; simp [e1]
    · rw [if_neg e1]
      by_cases e2 : w = x
      · rw [if_pos e2]; simp [e2]
      · rw [if_neg e2]; simp [e, e1, e2]
/-! without exceptions -/
