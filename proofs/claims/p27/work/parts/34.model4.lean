/-- what holds of each fighter -/
def fw (z : Nat → Int32) (f : Nat) : Prop :=
  (zo z f 0 = 0 ∨ zo z f 0 = 1) ∧ (∃ l, l ≤ 99 ∧ zo z f 2 = nI l) ∧ (∃ l, l ≤ 99 ∧ zo z f 3 = nI l) ∧ (∃ x, x ≤ 20 ∧ zo z f 4 = nI x) ∧ (∃ x, x ≤ 9 ∧ zo z f 5 = nI x) ∧ (zo z f 6 = 0 ∨ zo z f 6 = 1) ∧
  ((zo z f 7 = -1 ∧ zo z f 8 = -1 ∧ zo z f 9 = -1 ∧ zo z f 10 = -1) ∨ ((zo z f 7 = 0 ∨ zo z f 7 = 2) ∧ (∃ g, g < zn z ∧ zo z f 8 = nI g) ∧ (zo z f 9 = -1 ∨ ∃ g, g < zn z ∧ zo z f 9 = nI g) ∧ ∃ c, c ≤ 3 ∧ zo z f 10 = nI c)) ∧
  ∀ c, c < 4 → ∃ x, x ≤ 5 ∧ zo z f (11 + c) = nI x
def ZW (z : Nat → Int32) : Prop := Z0 z ∧ (∀ f, f < zn z → fw z f) ∧ ∀ j, 186 ≤ j → z j = 0
def zap (a b : Int32) : Int32 := if b ≤ a then a - b else b - a
def zpos (z : Nat → Int32) (f : Nat) (kd : Int32) (x : Int32) : Bool :=
  if kd = 1 then decide (¬ (if 0 < zo z f 12 then (1 : Int32) else 3) < zap (zo z f 5) x)
  else if x = nI f then false else if zo z x.toNatClampNeg 2 = 0 then false
  else if kd = 0 then decide (¬ 2 < zap (zo z f 5) (zo z x.toNatClampNeg 5))
  else if kd = 2 then decide (zo z f 0 = zo z x.toNatClampNeg 0) && decide (¬ 2 < zap (zo z f 5) (zo z x.toNatClampNeg 5))
  else decide (¬ zo z f 0 = zo z x.toNatClampNeg 0)
theorem bit01 {c : Bool} : ((if c = true then (1 : Int32) else 0) == 0 || (if c = true then (1 : Int32) else 0) == 1) = true := by cases c <;> rfl
/-- the acts -/
def zfor (z : Nat → Int32) (f : Nat) : Int32 := if 0 < zo z f 12 then (zo z f 4 + (if 0 < zo z f 13 then 3 else 0)) / 2 else zo z f 4 + (if 0 < zo z f 13 then 3 else 0)
def zlost (z : Nat → Int32) (f g : Nat) : Int32 := if zo z g 2 ≤ zfor z f then zo z g 2 else zfor z f
def zstr (z : Nat → Int32) (f g : Nat) : Nat → Int32 := zl (zl z g 2 (zo z g 2 - zlost z f g)) f 16 (zo (zl z g 2 (zo z g 2 - zlost z f g)) f 16 + zlost z f g)
def zhl (z : Nat → Int32) (g : Nat) : Int32 := if zo z g 3 ≤ zo z g 2 + 4 then zo z g 3 else zo z g 2 + 4
def zhlp (z : Nat → Int32) (g : Nat) : Nat → Int32 := zl (zl z g 2 (zhl z g)) g 14 0
def zcnt (z : Nat → Int32) (f : Nat) : Nat → Int32 := zl (upd z 3 (z 3 + 1)) f 15 (zo (upd z 3 (z 3 + 1)) f 15 + 1)
def zdoR (z : Nat → Int32) (f : Nat) (kd x : Int32) (c : Nat) (r : Int32) : Int32 :=
  if kd = 0 then zlost (zcnt z f) f x.toNatClampNeg else if kd = 2 then zhl (zcnt z f) x.toNatClampNeg else if kd = 1 then zap (zo (zcnt z f) f 5) x
  else if zo (zcnt z f) x.toNatClampNeg (11 + c) ≤ r then r else zo (zcnt z f) x.toNatClampNeg (11 + c)
def zdo (z : Nat → Int32) (f : Nat) (kd x : Int32) (c : Nat) (r : Int32) : Nat → Int32 :=
  if kd = 0 then zstr (zcnt z f) f x.toNatClampNeg else if kd = 2 then zhlp (zcnt z f) x.toNatClampNeg else if kd = 1 then zl (zcnt z f) f 5 x
  else zl (zcnt z f) x.toNatClampNeg (11 + c) (zdoR z f kd x c r)
/-- is a readied act set off -/
def zset (z : Nat → Int32) (f c : Nat) (kd : Int32) : Bool := decide (¬ zo z f 7 = -1) && decide (¬ zo z f 2 = 0) && decide (zo z f 10 = kd) && (decide (zo z f 9 = nI c) || (decide (zo z f 9 = -1) && decide (¬ zo z f 0 = zo z c 0)))
