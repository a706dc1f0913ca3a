/-- one who stands in the row comes to another place of it -/
def zs1 (z : Nat → Int32) (p k : Nat) : Nat → Int32 := fun i => if 6 + p ≤ i ∧ i < 6 + k then z (i + 1) else z i
def zs2 (w : Nat → Int32) (n k : Nat) : Nat → Int32 := fun i => if 6 + k < i ∧ i < 6 + n then w (i - 1) else w i
def zmv (z : Nat → Int32) (f : Int32) (p t : Nat) : Nat → Int32 := upd (zs2 (zs1 z p (zn z - 1)) (zn z) t) (6 + t) f
theorem zs1_up {z : Nat → Int32} {p k : Nat} (h : p ≤ k) : upd (zs1 z p k) (6 + k) (zs1 z p k (6 + k + 1)) = zs1 z p (k + 1) := by
  funext i
  unfold upd zs1
  by_cases e : i = 6 + k
  · subst e
    rw [if_pos rfl, if_neg (by omega), if_pos (by omega)]
  · rw [if_neg e]
    by_cases c : 6 + p ≤ i ∧ i < 6 + k
    · rw [if_pos c, if_pos (by omega)]
    · rw [if_neg c, if_neg (by omega)]
theorem zs2_up {w : Nat → Int32} {n k : Nat} (h : k + 1 < n) : upd (zs2 w n (k + 1)) (6 + (k + 1)) (zs2 w n (k + 1) (6 + k)) = zs2 w n k := by
  funext i
  unfold upd zs2
  by_cases e : i = 6 + (k + 1)
  · subst e
    rw [if_pos rfl, if_neg (by omega), if_pos (by omega)]
    congr 1
  · rw [if_neg e]
    by_cases c : 6 + (k + 1) < i ∧ i < 6 + n
    · rw [if_pos c, if_pos (by omega)]
    · rw [if_neg c, if_neg (by omega)]
/-- the row behind a move: who stands where -/
theorem zmv_row {z : Nat → Int32} {f : Int32} {p t i : Nat} (hi : i < zn z) (hp : p < zn z) (ht : t < zn z) : zmv z f p t (6 + i) = if i = t then f else if i < t then (if i < p then z (6 + i) else z (6 + (i + 1))) else (if i - 1 < p then z (6 + (i - 1)) else z (6 + i)) := by
  unfold zmv upd zs2 zs1
  by_cases c1 : i = t
  · subst c1; rw [if_pos rfl, if_pos rfl]
  · rw [if_neg (by omega), if_neg c1]
    by_cases c2 : i < t
    · rw [if_neg (by omega), if_pos c2]
      by_cases c3 : i < p
      · rw [if_pos c3, if_neg (by omega)]
      · rw [if_neg c3, if_pos (by omega)]; rfl
    · rw [if_pos (by omega), if_neg c2, show 6 + i - 1 = 6 + (i - 1) by omega]
      by_cases c3 : i - 1 < p
      · rw [if_pos c3, if_neg (by omega)]
      · rw [if_neg c3, if_pos (by omega)]
        congr 1
        omega
theorem zmv_else {z : Nat → Int32} {f : Int32} {p t j : Nat} (hp : p < zn z) (ht : t < zn z) (hj : j < 6 ∨ 6 + zn z ≤ j) : zmv z f p t j = z j := by
  unfold zmv upd zs2 zs1
  rw [if_neg (by omega), if_neg (by omega), if_neg (by omega)]
/-- a turn begins -/
def zbeg (z : Nat → Int32) (f : Nat) : Nat → Int32 :=
  if 0 < zo z f 14 then zl (zlose (upd (upd z 2 (nI f)) 5 (z 5 + 1)) f) f 2 (if 2 ≤ zo z f 2 then zo z f 2 - 2 else 0) else zlose (upd (upd z 2 (nI f)) 5 (z 5 + 1)) f
def zok (z : Nat → Int32) (f : Nat) : Prop := ¬ zo z f 2 = 0 ∧ ¬ 0 < zo z f 11
theorem zb1 {z : Nat → Int32} {f f' w : Nat} (hw : w < 17) : zo (zlose (upd (upd z 2 (nI f)) 5 (z 5 + 1)) f) f' w = if f' = f ∧ 7 ≤ w ∧ w ≤ 10 then -1 else zo z f' w := by
  rw [zlose_o hw, zo_lo (by omega), zo_lo (by omega)]
theorem zb1n {z : Nat → Int32} {f f' w : Nat} (hw : w < 17) (h : ¬ (7 ≤ w ∧ w ≤ 10)) : zo (zlose (upd (upd z 2 (nI f)) 5 (z 5 + 1)) f) f' w = zo z f' w := by
  rw [zb1 hw, if_neg (fun q => h q.2)]
theorem zbeg_o {z : Nat → Int32} {f f' w : Nat} (hw : w < 17) : zo (zbeg z f) f' w = if f' = f ∧ 7 ≤ w ∧ w ≤ 10 then -1 else if f' = f ∧ w = 2 ∧ 0 < zo z f 14 then (if 2 ≤ zo z f 2 then zo z f 2 - 2 else 0) else zo z f' w := by
  unfold zbeg
  by_cases h3 : 0 < zo z f 14
  · rw [if_pos h3, zo_zl (by decide) hw, zb1 hw]
    by_cases h : f' = f ∧ w = 2
    · rw [if_pos h, if_neg (show ¬ (f' = f ∧ 7 ≤ w ∧ w ≤ 10) by omega), if_pos (show f' = f ∧ w = 2 ∧ 0 < zo z f 14 from ⟨h.1, h.2, h3⟩)]
    · rw [if_neg h, if_neg (show ¬ (f' = f ∧ w = 2 ∧ 0 < zo z f 14) from fun q => h ⟨q.1, q.2.1⟩)]
  · rw [if_neg h3, zb1 hw, if_neg (show ¬ (f' = f ∧ w = 2 ∧ 0 < zo z f 14) from fun q => h3 q.2.2)]
theorem zbeg_lo {z : Nat → Int32} {f i : Nat} (h : i < 16) : zbeg z f i = if i = 5 then z 5 + 1 else if i = 2 then nI f else z i := by
  have e : zlose (upd (upd z 2 (nI f)) 5 (z 5 + 1)) f i = if i = 5 then z 5 + 1 else if i = 2 then nI f else z i := by
    rw [zlose_lo h]
    rfl
  unfold zbeg
  split
  · rw [zl_lo h, e]
  · exact e
theorem Z0_beg {z : Nat → Int32} {f : Nat} (hz : Z0 z) : Z0 (zbeg z f) ∧ zn (zbeg z f) = zn z ∧ ∀ i, i < zn z → zrow (zbeg z f) i = zrow z i := Z0_of hz (fun i hi h1 h2 h3 h4 h5 => by rw [zbeg_lo hi, if_neg h5, if_neg h2])
theorem Z0_pass {z : Nat → Int32} {f c : Nat} (hz : Z0 z) : Z0 (zpass z f c) ∧ zn (zpass z f c) = zn z ∧ ∀ i, i < zn z → zrow (zpass z f c) i = zrow z i := Z0_of hz (fun i hi _ _ _ _ _ => zpass_lo hi c)
theorem Z0_del {z : Nat → Int32} {m : Nat} (hz : Z0 z) : Z0 (zdel z m) ∧ zn (zdel z m) = zn z ∧ ∀ i, i < zn z → zrow (zdel z m) i = zrow z i := Z0_of hz (fun i hi _ _ _ _ _ => zdel_lo hi m)

