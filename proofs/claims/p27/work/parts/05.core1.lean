/-! THE STATE of the system as numbers: fields by class*16+slot and object, int arrays by object, which skirmish stands at a place of 'saved', the model's hash, the law's cell -/
abbrev MS : Type := (Nat → Nat → Int32) × (Nat → Nat → Int32) × (Nat → Nat) × Int64 × Int64
def rF (M : MS) (c v : Nat) : Int32 := M.1 c v
def rA (M : MS) (v : Nat) : Nat → Int32 := M.2.1 v
def rS (M : MS) (i : Nat) : Nat := M.2.2.1 i
def rH (M : MS) : Int64 := M.2.2.2.1
def rO (M : MS) : Int64 := M.2.2.2.2
def wF (M : MS) (c v : Nat) (x : Int32) : MS := (fun c' v' => if c' = c ∧ v' = v then x else M.1 c' v', M.2)
def wA (M : MS) (v i : Nat) (x : Int32) : MS := (M.1, fun v' => if v' = v then upd (M.2.1 v) i x else M.2.1 v', M.2.2)
def wC (M : MS) (v w sp dp n : Nat) : MS := (M.1, fun v' => if v' = w then va_cpy (M.2.1 v) (M.2.1 w) sp dp n else M.2.1 v', M.2.2)
def wS (M : MS) (i k : Nat) : MS := (M.1, M.2.1, va_up M.2.2.1 i k, M.2.2.2)
def wH (M : MS) (x : Int64) : MS := (M.1, M.2.1, M.2.2.1, x, M.2.2.2.2)
def wO (M : MS) (x : Int64) : MS := (M.1, M.2.1, M.2.2.1, M.2.2.2.1, x)
/-- a row of zeros -/
def wZ (M : MS) (v : Nat) : MS := (M.1, fun v' => if v' = v then (fun _ => 0) else M.2.1 v', M.2.2)
/-- which kind of thing a number names: 0 Fighter, 1 OrderText, 2 Row, 3 Skirmish, 4 TurnTracker, 6 int row, 7 fighters' row, 8 skirmishes' row; 220..223 the law's rows a, c, r, t; 224..226 the rows that its methods make -/
def kd (v : Nat) : Nat := if v < 216 then (if v % 27 = 0 then 3 else if v % 27 = 1 then 7 else if v % 27 = 2 then 2 else if v % 27 < 5 then 6 else if v % 27 < 16 then 0 else 6)
  else if v = 216 then 4 else if v = 217 then 8 else if v = 218 then 1 else 6
def ln (v : Nat) : Nat := if v < 216 then (if v % 27 < 5 then 10 else 4) else if v = 219 then 60 else if v = 220 then 48 else if v = 221 then 24 else if v = 223 then 7 else if v = 226 then 4 else 6
def ok (ci v : Nat) : Prop := v < 224 ∧ kd v = ci
abbrev GG : Type := va_G × (ClassId × ClassId × ClassId) × (Nat → Nat) × List (Nat × Nat)
def gad (G : GG) (v : Nat) : Nat := G.2.2.1 v
/-- the rows that are made under way: number and place -/
def tr (G : GG) : List (Nat × Nat) := G.2.2.2
def GE (G : GG) (v q : Nat) : GG := (G.1, G.2.1, G.2.2.1, G.2.2.2 ++ [(v, q)])
def fr (G : GG) (v : Nat) : Prop := ∀ x ∈ tr G, x.1 ≠ v
theorem fr_GE {G : GG} {v q w : Nat} (h : fr G w) (hne : v ≠ w) : fr (GE G v q) w := by
  intro x hx
  rcases List.mem_append.mp (show x ∈ G.2.2.2 ++ [(v, q)] from hx) with h1 | h1
  · exact h x h1
  · rw [List.mem_singleton.mp h1]; exact hne
def el0 (G : GG) (M : MS) (v : Nat) : List Value := [.int (rF M 0 v), .int (rF M 1 v), .int (rF M 2 v), .int (rF M 3 v), .int (rF M 4 v), .int (rF M 5 v), .ref (gad G (v + 11)), .int (rF M 7 v), .int (rF M 8 v), .int (rF M 9 v), .int (rF M 10 v), .int (rF M 11 v), .int (rF M 12 v), .int (rF M 13 v)]
def el1 (G : GG) (M : MS) (v : Nat) : List Value := [.ref (gad G 219), .int (rF M 17 v)]
def el2 (G : GG) (M : MS) (v : Nat) : List Value := [.ref (gad G (v + 1)), .int (rF M 33 v)]
def el3 (G : GG) (M : MS) (v : Nat) : List Value := [.ref (gad G (v + 1)), .ref (gad G (v + 15)), .ref (gad G (v + 2)), .ref (gad G (v + 4)), .int (rF M 52 v), .int (rF M 53 v), .int (rF M 54 v), .int (rF M 55 v), .int (rF M 56 v), .int (rF M 57 v)]
def el4 (G : GG) (M : MS) (v : Nat) : List Value := [.ref (gad G 0), .ref (gad G 27), .ref (gad G 217), .int (rF M 67 v), .ref (gad G 218)]
def ent (G : GG) (M : MS) (v : Nat) : va_E :=
  if kd v = 0 then .inr (0, el0 G M v) else if kd v = 1 then .inr (1, el1 G M v) else if kd v = 2 then .inr (2, el2 G M v) else if kd v = 3 then .inr (3, el3 G M v) else if kd v = 4 then .inr (4, el4 G M v)
  else if kd v = 6 then .inl (G.2.1.1, ln v, .inl (rA M v)) else if kd v = 7 then .inl (G.2.1.2.1, 10, .inr (.inr (.inr (.inr (fun i => some (gad G (v + 4 + i)))))))
  else if kd v = 8 then .inl (G.2.1.2.2, 6, .inr (.inr (.inr (.inr (fun i => some (gad G (27 * rS M i))))))) else .inl (G.2.1.1, 0, .inl (fun _ => 0))
theorem ent0 {G : GG} {M : MS} {v : Nat} (h : ok 0 v) : ent G M v = .inr (0, el0 G M v) := by simp [ent, h.2]
theorem ent1 {G : GG} {M : MS} {v : Nat} (h : ok 1 v) : ent G M v = .inr (1, el1 G M v) := by simp [ent, h.2]
theorem ent2 {G : GG} {M : MS} {v : Nat} (h : ok 2 v) : ent G M v = .inr (2, el2 G M v) := by simp [ent, h.2]
theorem ent3 {G : GG} {M : MS} {v : Nat} (h : ok 3 v) : ent G M v = .inr (3, el3 G M v) := by simp [ent, h.2]
theorem ent4 {G : GG} {M : MS} {v : Nat} (h : ok 4 v) : ent G M v = .inr (4, el4 G M v) := by simp [ent, h.2]
theorem ent6 {G : GG} {M : MS} {v : Nat} (h : ok 6 v) : ent G M v = .inl (G.2.1.1, ln v, .inl (rA M v)) := by simp [ent, h.2]
theorem ent7 {G : GG} {M : MS} {v : Nat} (h : ok 7 v) : ent G M v = .inl (G.2.1.2.1, 10, .inr (.inr (.inr (.inr (fun i => some (gad G (v + 4 + i))))))) := by simp [ent, h.2]
theorem ent8 {G : GG} {M : MS} {v : Nat} (h : ok 8 v) : ent G M v = .inl (G.2.1.2.2, 6, .inr (.inr (.inr (.inr (fun i => some (gad G (27 * rS M i))))))) := by simp [ent, h.2]
def okb (ci v : Nat) : Bool := decide (v < 224) && kd v == ci
theorem ok_of {ci v : Nat} (h : okb ci v = true) : ok ci v := by simpa [okb, ok] using h
def okall (ci cj d : Nat) : Bool := (List.range 224).all (fun v => !(kd v == ci) || okb cj (v + d))
theorem ok_by {ci cj d v : Nat} (ha : okall ci cj d = true) (h : ok ci v) : ok cj (v + d) := by
  have h1 := List.all_eq_true.mp ha v (List.mem_range.mpr h.1)
  simp only [h.2, beq_self_eq_true, Bool.not_true, Bool.false_or] at h1
  exact ok_of h1
theorem ok_cond {v : Nat} (h : ok 0 v) : ok 6 (v + 11) := ok_by (by decide +kernel) h
theorem ok_codes {v : Nat} (h : ok 1 v) : ok 6 (v + 1) := ok_by (by decide +kernel) h
theorem ok_numbers {v : Nat} (h : ok 2 v) : ok 6 (v + 1) := ok_by (by decide +kernel) h
theorem ok_fighters {v : Nat} (h : ok 3 v) : ok 7 (v + 1) := ok_by (by decide +kernel) h
theorem ok_nobody {v : Nat} (h : ok 3 v) : ok 0 (v + 15) := ok_by (by decide +kernel) h
theorem ok_row {v : Nat} (h : ok 3 v) : ok 2 (v + 2) := ok_by (by decide +kernel) h
theorem ok_readiers {v : Nat} (h : ok 3 v) : ok 6 (v + 4) := ok_by (by decide +kernel) h
theorem ok_elem {v i : Nat} (h : ok 7 v) (hi : i < 10) : ok 0 (v + 4 + i) := by
  have e : ∀ i, i < 10 → okall 7 0 (4 + i) = true := by decide +kernel
  rw [Nat.add_assoc]
  exact ok_by (e i hi) h
theorem ok_sk {k : Nat} (h : k < 8) : ok 3 (27 * k) := ok_of ((by decide +kernel : ∀ k, k < 8 → okb 3 (27 * k) = true) k h)
theorem ok_c {ci v : Nat} (h : okb ci v = true) : ok ci v := ok_of h
theorem ln_cond {v : Nat} (h : ok 0 v) : ln (v + 11) = 4 := by
  have e : (List.range 224).all (fun v => !(kd v == 0) || ln (v + 11) == 4) = true := by decide +kernel
  have h1 := List.all_eq_true.mp e v (List.mem_range.mpr h.1)
  simpa [h.2] using h1
theorem ln_numbers {v : Nat} (h : ok 2 v) : ln (v + 1) = 10 := by
  have e : (List.range 224).all (fun v => !(kd v == 2) || ln (v + 1) == 10) = true := by decide +kernel
  have h1 := List.all_eq_true.mp e v (List.mem_range.mpr h.1)
  simpa [h.2] using h1
theorem ln_readiers {v : Nat} (h : ok 3 v) : ln (v + 4) = 10 := by
  have e : (List.range 224).all (fun v => !(kd v == 3) || ln (v + 4) == 10) = true := by decide +kernel
  have h1 := List.all_eq_true.mp e v (List.mem_range.mpr h.1)
  simpa [h.2] using h1
theorem ok1_is {v : Nat} (h : ok 1 v) : v = 218 := by
  have e : (List.range 224).all (fun v => !(kd v == 1) || v == 218) = true := by decide +kernel
  have h1 := List.all_eq_true.mp e v (List.mem_range.mpr h.1)
  simpa [h.2] using h1
theorem ln_codes {v : Nat} (h : ok 1 v) : ln (v + 1) = 60 := by rw [ok1_is h]; rfl
/-- the pieces that the walk peels off a function of the state -/
def gdb {α : Type} (b : Bool) (k : Option α) : Option α := if b = true then k else none
def bd {α β : Type} (o : Option α) (k : α → Option β) : Option β := match o with | none => none | some a => k a
def bd2 {α γ β : Type} (o : Option (α × γ)) (k : α → γ → Option β) : Option β := match o with | none => none | some a => k a.1 a.2
def nm {α : Sort _} {β : Type} (a : α) (k : α → Option β) : Option β := k a
theorem gdb_some {α : Type} {b : Bool} {k : Option α} {x : α} (h : gdb b k = some x) : b = true ∧ k = some x := by
  cases b with
  | true => exact ⟨rfl, h⟩
  | false => cases h
theorem bd_some {α β : Type} {o : Option α} {k : α → Option β} {x : β} (h : bd o k = some x) : ∃ a, o = some a ∧ k a = some x := by
  cases o with
  | none => cases h
  | some a => exact ⟨a, rfl, h⟩
theorem bd2_some {α γ β : Type} {o : Option (α × γ)} {k : α → γ → Option β} {x : β} (h : bd2 o k = some x) : ∃ a b, o = some (a, b) ∧ k a b = some x := by
  cases o with
  | none => cases h
  | some a => exact ⟨a.1, a.2, rfl, h⟩
theorem nm_some {α : Sort _} {β : Type} {a : α} {k : α → Option β} {x : β} (h : nm a k = some x) : ∃ y, y = a ∧ k y = some x := ⟨a, rfl, h⟩
theorem if_t {c : Prop} {d : Decidable c} {α : Type} {a b : Option α} {x : α} (hc : c) (h : @ite _ c d a b = some x) : a = some x := by rwa [if_pos hc] at h
theorem if_f {c : Prop} {d : Decidable c} {α : Type} {a b : Option α} {x : α} (hc : ¬ c) (h : @ite _ c d a b = some x) : b = some x := by rwa [if_neg hc] at h
/-- 'ne' tests: the target first, and the case 'equal' falls through -/
def inb (i : Int32) (n : Nat) : Bool := !(decide (i < 0)) && decide (i.toNatClampNeg < n)
theorem inb_in {i : Int32} {n : Nat} (h : inb i n = true) : vp_in i n := by
  simp only [inb, Bool.and_eq_true, Bool.not_eq_true', decide_eq_false_iff_not, decide_eq_true_eq] at h
  rintro (h1 | h1)
  · exact h.1 h1
  · omega
theorem inb_lt {i : Int32} {n : Nat} (h : inb i n = true) : i.toNatClampNeg < n := by
  simp only [inb, Bool.and_eq_true, decide_eq_true_eq] at h
  exact h.2
def FU : Nat := 6000
