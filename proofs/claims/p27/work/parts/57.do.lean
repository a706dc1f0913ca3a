/-! what can be done, and doing it: both sides -/
theorem zact_ok {z : Nat → Int32} {f c r : Nat} {kd x ri : Int32} (hz : ZW z) (hf : f < zn z) (hx : xok z kd x) (hc : c < 4) (hr : r ≤ 5) (hri : ri = nI r) : ZW (zact z f kd x c ri) ∧ TH (zact z f kd x c ri) ∧ zn (zact z f kd x c ri) = zn z := by
  obtain ⟨a, b⟩ := off_ok (kd := kd) hz hf
  obtain ⟨c1, c2⟩ := act1_ok (c := c) a b hf hx hc hr hri
  unfold zact
  obtain ⟨d1, d2, d3⟩ := zend_ok (f := f) c1 (by rw [c2]; exact hf)
  exact ⟨d1, d2, d3.trans c2⟩
def ztn (z : Nat → Int32) : Nat := (z 2).toNatClampNeg
theorem TH_t {z : Nat → Int32} (hz : ZW z) (ht : TH z) (h : ¬ z 2 = -1) : ztn z < zn z ∧ z 2 = nI (ztn z) ∧ ¬ zo z (ztn z) 2 = 0 ∧ zo z (ztn z) 6 = 0 ∧ zo z (ztn z) 7 = -1 := by
  have hb := hz.1.2.1
  obtain ⟨f, hf, h2, h3⟩ := ht.resolve_left h
  have e : ztn z = f := by unfold ztn; rw [h2, nI_clamp (by omega)]
  rw [e]
  exact ⟨hf, h2, h3⟩
/-- an act of the one whose turn it is -/
def zcx (z : Nat → Int32) (kd x : Int32) : Bool := decide (¬ z 2 = -1) && zpos z (ztn z) kd x
theorem zcx_t {z : Nat → Int32} {kd x : Int32} (h : zcx z kd x = true) : ¬ z 2 = -1 ∧ zpos z (ztn z) kd x = true := by
  unfold zcx at h
  rw [Bool.and_eq_true, decide_eq_true_eq] at h
  exact h
noncomputable def zdR (z : Nat → Int32) (kd x : Int32) (c r : Nat) : Int32 := zactR z (ztn z) kd x c (nI r)
noncomputable def zdA (z : Nat → Int32) (kd x : Int32) (c r : Nat) : Nat → Int32 := zact z (ztn z) kd x c (nI r)
theorem zdA_ok {z : Nat → Int32} {kd x : Int32} {c r : Nat} (hz : ZW z) (ht : TH z) (hx : xok z kd x) (hc : c < 4) (hr : r ≤ 5) (h : zcx z kd x = true) : ZW (zdA z kd x c r) ∧ TH (zdA z kd x c r) ∧ zn (zdA z kd x c r) = zn z := zact_ok hz (TH_t hz ht (zcx_t h).1).1 hx hc hr rfl
theorem ccx_l {M : MS} {z : Nat → Int32} {kd x : Int32} (h : CZ M 0 z) (hz : ZW z) (ht : TH z) (hx : xok z kd x) (hk : k4 kd) : F_X3_isPossible M 0 (rF M 54 0) kd x = some (if zcx z kd x = true then 1 else 0) := by
  rw [h.1.2.2.1]
  unfold zcx
  by_cases h2 : z 2 = -1
  · rw [h2, cpos_no1 h]; simp
  · obtain ⟨a, b, c, d, e⟩ := TH_t hz ht h2
    have e1 := cpos_l h hz a hx hk
    rw [← b, if_neg c] at e1
    rw [e1]
    simp [h2]
theorem ccx_no {M : MS} {z : Nat → Int32} {kd x : Int32} (h : CZ M 0 z) (hz : ZW z) (ht : TH z) (hk : ¬ kd = 1) (hx : x < 0 ∨ z 0 ≤ x) : F_X3_isPossible M 0 (rF M 54 0) kd x = some 0 := by
  rw [h.1.2.2.1]
  by_cases h2 : z 2 = -1
  · rw [h2, cpos_no1 h]
  · obtain ⟨a, b, c, d, e⟩ := TH_t hz ht h2
    rw [b]
    exact cpos_no2 h hz a hk hx
theorem cdx_l {M0 M : MS} {R z : Nat → Int32} {kd x a3 a4 : Int32} {c r : Nat} (h : CR M0 0 R M z) (hz : ZW z) (ht : TH z) (hx : xok z kd x) (hk : k4 kd) (hc : c < 4) (hr : r ≤ 5) (h3 : kd = 3 → a3 = nI c ∧ a4 = nI r) (hp : zcx z kd x = true) : ∃ M' R', F_X3_act M 0 kd x a3 a4 = some (zdR z kd x c r, M') ∧ CR M0 0 R' M' (zdA z kd x c r) := by
  obtain ⟨a, b, c1, d, e⟩ := TH_t hz ht (zcx_t hp).1
  exact cact_eq h hz a b e hx hk hc hr rfl h3 (off_ok hz a)
theorem cdx_s {M0 M : MS} {R z : Nat → Int32} {kd x a3 a4 : Int32} {c r : Nat} (h : CR M0 27 R M z) (hz : ZW z) (ht : TH z) (hx : xok z kd x) (hk : k4 kd) (hc : c < 4) (hr : r ≤ 5) (h3 : kd = 3 → a3 = nI c ∧ a4 = nI r) (hp : zcx z kd x = true) : ∃ M' R', F_X3_act M 27 kd x a3 a4 = some (zdR z kd x c r, M') ∧ CR M0 27 R' M' (zdA z kd x c r) := by
  obtain ⟨a, b, c1, d, e⟩ := TH_t hz ht (zcx_t hp).1
  exact cact_eq h hz a b e hx hk hc hr rfl h3 (off_ok hz a)
/-- who comes in -/
def zci (z : Nat → Int32) (g : Nat) : Bool := decide (¬ z 2 = -1) && (decide (zo z g 6 = 1) && decide (¬ zo z g 2 = 0))
def zli (z : Nat → Int32) (g : Nat) : Nat → Int32 := zletin z g (ztn z)
theorem zci_v {z : Nat → Int32} {g : Nat} : (if z 2 = -1 then (0 : Int32) else if zo z g 6 = 1 then (if zo z g 2 = 0 then 0 else 1) else 0) = if zci z g = true then 1 else 0 := by
  unfold zci
  by_cases h1 : z 2 = -1
  · simp [h1]
  · by_cases h2 : zo z g 6 = 1
    · by_cases h3 : zo z g 2 = 0
      · simp [h3]
      · simp [h1, h2, h3]
    · simp [h2]
theorem zci_t {z : Nat → Int32} {g : Nat} (h : zci z g = true) : ¬ z 2 = -1 ∧ zo z g 6 = 1 ∧ ¬ zo z g 2 = 0 := by
  unfold zci at h
  rw [Bool.and_eq_true, Bool.and_eq_true, decide_eq_true_eq, decide_eq_true_eq, decide_eq_true_eq] at h
  exact h
theorem cci_l {M : MS} {z : Nat → Int32} {g : Nat} (h : CZ M 0 z) (hz : ZW z) (hg : g < zn z) : F_X3_canBeLetIn M 0 (nI g) = some (if zci z g = true then 1 else 0) := by rw [ccan_l h hz hg, zci_v]
theorem zci_ne {z : Nat → Int32} {g : Nat} (hz : ZW z) (ht : TH z) (h : zci z g = true) : g ≠ ztn z := by
  obtain ⟨a, b, c⟩ := zci_t h
  obtain ⟨d1, d2, d3, d4, d5⟩ := TH_t hz ht a
  intro e
  rw [e, d4] at b
  exact absurd b (by decide)
theorem zli_ok {z : Nat → Int32} {g : Nat} (hz : ZW z) (ht : TH z) (hg : g < zn z) (h : zci z g = true) : ZW (zli z g) ∧ TH (zli z g) ∧ zn (zli z g) = zn z := by
  obtain ⟨d1, d2, d3, d4, d5⟩ := TH_t hz ht (zci_t h).1
  obtain ⟨a, b, c, d⟩ := letin_ok hz hg d1 (zci_ne hz ht h) d2 d3 d4 d5
  exact ⟨a, b, c⟩
theorem cli_l {M0 M : MS} {R z : Nat → Int32} {g : Nat} (h : CR M0 0 R M z) (hz : ZW z) (ht : TH z) (hg : g < zn z) (hp : zci z g = true) : ∃ M', F_X3_letIn M 0 (nI g) = some (zo (zli z g) g 1, M') ∧ CR M0 0 R M' (zli z g) := by
  obtain ⟨d1, d2, d3, d4, d5⟩ := TH_t hz ht (zci_t hp).1
  exact cletin_l h hz hg d1 (zci_ne hz ht hp) d2
/-- the turn ends, or is delayed -/
def zen (z : Nat → Int32) : Nat → Int32 := zend z (ztn z)
def zde (z : Nat → Int32) : Nat → Int32 := zdelay z (ztn z)
theorem zen_ok {z : Nat → Int32} (hz : ZW z) (ht : TH z) (h : ¬ z 2 = -1) : ZW (zen z) ∧ TH (zen z) ∧ zn (zen z) = zn z := zend_ok hz (TH_t hz ht h).1
theorem zde_ok {z : Nat → Int32} (hz : ZW z) (ht : TH z) (h : ¬ z 2 = -1) : ZW (zde z) ∧ TH (zde z) ∧ zn (zde z) = zn z := delay_ok hz (TH_t hz ht h).1
theorem cen_l {M0 M : MS} {R z : Nat → Int32} (h : CR M0 0 R M z) (hz : ZW z) (ht : TH z) (h2 : ¬ z 2 = -1) : ∃ M', F_X3_endTurn M 0 = some M' ∧ CR M0 0 R M' (zen z) := by
  obtain ⟨d1, d2, _⟩ := TH_t hz ht h2
  exact cend_eq h hz d1 d2
theorem cde_l {M0 M : MS} {R z : Nat → Int32} (h : CR M0 0 R M z) (hz : ZW z) (ht : TH z) (h2 : ¬ z 2 = -1) : ∃ M', F_X3_delayTurn M 0 = some M' ∧ CR M0 0 R M' (zde z) := by
  obtain ⟨d1, d2, _⟩ := TH_t hz ht h2
  exact cdelay_l h hz d1 d2
/-! one order: both sides -/
/-- a fighter's number in an order -/
def zcf (z : Nat → Int32) (kd : Int32) (g : Nat) : Bool := decide (kd = 1 ∨ g < zn z) && zcx z kd (nI g)
def zkd (c : Int32) : Int32 := if c = 115 then 0 else if c = 109 then 1 else if c = 104 then 2 else 3
def zoC (z : Nat → Int32) (c : Int32) (g : Nat) : Bool := if c = 105 then decide (g < zn z) && zci z g else if c = 119 ∨ c = 101 then decide (¬ z 2 = -1) else zcf z (zkd c) g
noncomputable def zoD (z : Nat → Int32) (c : Int32) (g q r : Nat) : Nat → Int32 := if c = 105 then zli z g else if c = 119 then zde z else if c = 101 then zen z else if c = 99 then zdA z 3 (nI g) q r else zdA z (zkd c) (nI g) 0 0
theorem zcf_x {z : Nat → Int32} {kd : Int32} {g : Nat} (hg : g ≤ 9) (h : zcf z kd g = true) : xok z kd (nI g) ∧ zcx z kd (nI g) = true := by
  unfold zcf at h
  rw [Bool.and_eq_true, decide_eq_true_eq] at h
  refine ⟨?_, h.2⟩
  by_cases e : kd = 1
  · exact Or.inl ⟨e, g, hg, rfl⟩
  · exact Or.inr ⟨e, g, h.1.resolve_left e, rfl⟩
theorem ccf_l {M : MS} {z : Nat → Int32} {kd : Int32} {g : Nat} (h : CZ M 0 z) (hz : ZW z) (ht : TH z) (hk : k4 kd) (hg : g ≤ 9) : F_X3_isPossible M 0 (rF M 54 0) kd (nI g) = some (if zcf z kd g = true then 1 else 0) := by
  unfold zcf
  by_cases e : kd = 1
  · rw [ccx_l h hz ht (Or.inl ⟨e, g, hg, rfl⟩) hk]
    simp [e]
  · by_cases e2 : g < zn z
    · rw [ccx_l h hz ht (Or.inr ⟨e, g, e2, rfl⟩) hk]
      simp [e2]
    · rw [ccx_no h hz ht e (Or.inr (by rw [hz.1.1]; exact nI_le (by omega) (by omega)))]
      simp [e, e2]
theorem zoD_ok {z : Nat → Int32} {c : Int32} {g q r : Nat} (hz : ZW z) (ht : TH z) (hg : ¬ c = 105 → ¬ c = 119 → ¬ c = 101 → g ≤ 9) (hq : c = 99 → q ≤ 3 ∧ r ≤ 5) (h : zoC z c g = true) : ZW (zoD z c g q r) ∧ TH (zoD z c g q r) := by
  unfold zoC at h
  unfold zoD
  by_cases h1 : c = 105
  · rw [if_pos h1] at h ⊢
    rw [Bool.and_eq_true, decide_eq_true_eq] at h
    obtain ⟨a, b, _⟩ := zli_ok hz ht h.1 h.2
    exact ⟨a, b⟩
  rw [if_neg h1] at h ⊢
  by_cases h2 : c = 119
  · rw [if_pos (Or.inl h2), decide_eq_true_eq] at h
    rw [if_pos h2]
    obtain ⟨a, b, _⟩ := zde_ok hz ht h
    exact ⟨a, b⟩
  rw [if_neg h2]
  by_cases h3 : c = 101
  · rw [if_pos (Or.inr h3), decide_eq_true_eq] at h
    rw [if_pos h3]
    obtain ⟨a, b, _⟩ := zen_ok hz ht h
    exact ⟨a, b⟩
  rw [if_neg h3]
  rw [if_neg (fun q => q.elim h2 h3)] at h
  obtain ⟨x1, x2⟩ := zcf_x (hg h1 h2 h3) h
  by_cases h4 : c = 99
  · rw [if_pos h4]
    have e : zkd c = 3 := by rw [h4]; decide
    rw [e] at x1 x2
    obtain ⟨a, b, _⟩ := zdA_ok hz ht x1 (show q < 4 by have := hq h4; omega) (hq h4).2 x2
    exact ⟨a, b⟩
  · rw [if_neg h4]
    obtain ⟨a, b, _⟩ := zdA_ok hz ht x1 (show 0 < 4 by decide) (show 0 ≤ 5 by decide) x2
    exact ⟨a, b⟩
theorem zkd_4 {c : Int32} : k4 (zkd c) := by
  unfold zkd k4
  split
  · exact Or.inl rfl
  split
  · exact Or.inr (Or.inl rfl)
  split
  · exact Or.inr (Or.inr (Or.inl rfl))
  · exact Or.inr (Or.inr (Or.inr rfl))
theorem b01 {c : Bool} {α : Type} {k : Option α} : gdb ((if c = true then (1 : Int32) else 0) == 0 || (if c = true then (1 : Int32) else 0) == 1) k = k := by cases c <;> rfl
