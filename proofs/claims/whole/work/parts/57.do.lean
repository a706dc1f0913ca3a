/-! what can be done, and doing it: both sides -/
theorem zact_ok {z : Nat → Int32} {f c r : Nat} {kd x ri : Int32} (hz : ZW z) (hf : f < zn z) (hx : xok z kd x) (hc : c < 4) (hr : r ≤ 5) (hri : ri = nI r) : ZW (zact z f kd x c ri) ∧ TH (zact z f kd x c ri) ∧ zn (zact z f kd x c ri) = zn z := by
  obtain ⟨a, b⟩ := off_ok (kd := kd) hz hf
  obtain ⟨c1, c2⟩ := act1_ok (c := c) a b hf hx hc hr hri
  unfold zact
  obtain ⟨d1, d2, d3⟩ := zend_ok (f := f) c1 (by rw [c2]; exact hf)
  exact ⟨d1, d2, d3.trans c2⟩
def ztn (z : Nat → Int32) : Nat := (z 2).toNatClampNeg
theorem TH_t {z : Nat → Int32} (hz : ZW z) (ht : TH z) (h : ¬ z 2 = -1) : ztn z < zn z ∧ z 2 = nI (ztn z) ∧ ¬ zo z (ztn z) 2 = 0 ∧ zo z (ztn z) 6 = 0 ∧ zo z (ztn z) 7 = -1 := by
  have hb := hz.1.2.1
  obtain ⟨f, hf, h2, h3⟩ := ht.resolve_left h
  have e : ztn z = f := by unfold ztn; rw [h2, nI_clamp (by omega)]
  rw [e]
  exact ⟨hf, h2, h3⟩
/-- an act of the one whose turn it is -/
def zcx (z : Nat → Int32) (kd x : Int32) : Bool := decide (¬ z 2 = -1) && zpos z (ztn z) kd x
theorem zcx_t {z : Nat → Int32} {kd x : Int32} (h : zcx z kd x = true) : ¬ z 2 = -1 ∧ zpos z (ztn z) kd x = true := by
  unfold zcx at h
  rw [Bool.and_eq_true, decide_eq_true_eq] at h
  exact h
noncomputable def zdR (z : Nat → Int32) (kd x : Int32) (c r : Nat) : Int32 := zactR z (ztn z) kd x c (nI r)
noncomputable def zdA (z : Nat → Int32) (kd x : Int32) (c r : Nat) : Nat → Int32 := zact z (ztn z) kd x c (nI r)
theorem zdA_ok {z : Nat → Int32} {kd x : Int32} {c r : Nat} (hz : ZW z) (ht : TH z) (hx : xok z kd x) (hc : c < 4) (hr : r ≤ 5) (h : zcx z kd x = true) : ZW (zdA z kd x c r) ∧ TH (zdA z kd x c r) ∧ zn (zdA z kd x c r) = zn z := zact_ok hz (TH_t hz ht (zcx_t h).1).1 hx hc hr rfl
theorem ccx_l {M : MS} {z : Nat → Int32} {kd x : Int32} (h : CZ M 0 z) (hz : ZW z) (ht : TH z) (hx : xok z kd x) (hk : k4 kd) : F_X3_isPossible M 0 (rF M 54 0) kd x = some (if zcx z kd x = true then 1 else 0) := by
  rw [h.1.2.2.1]
  unfold zcx
  by_cases h2 : z 2 = -1
  · rw [h2, cpos_no1 h]; simp
  · obtain ⟨a, b, c, d, e⟩ := TH_t hz ht h2
    have e1 := cpos_l h hz a hx hk
    rw [← b, if_neg c] at e1
    rw [e1]
    simp [h2]
theorem ccx_no {M : MS} {z : Nat → Int32} {kd x : Int32} (h : CZ M 0 z) (hz : ZW z) (ht : TH z) (hk : ¬ kd = 1) (hx : x < 0 ∨ z 0 ≤ x) : F_X3_isPossible M 0 (rF M 54 0) kd x = some 0 := by
  rw [h.1.2.2.1]
  by_cases h2 : z 2 = -1
  · rw [h2, cpos_no1 h]
  · obtain ⟨a, b, c, d, e⟩ := TH_t hz ht h2
    rw [b]
    exact cpos_no2 h hz a hk hx
theorem mcx_eq {M : MS} {z : Nat → Int32} {kd x : Int32} (hm : rA M 221 = z) (hz : ZW z) (ht : TH z) (hx : xok z kd x) : F_X5_canAct M kd x = some (if zcx z kd x = true then 1 else 0) := by
  subst hm
  unfold zcx
  by_cases h2 : rA M 221 2 = -1
  · rw [can_no h2]; simp [h2]
  · obtain ⟨a, b, c, d, e⟩ := TH_t hz ht h2
    rw [can_eq hz.1 a b hx]
    simp [h2]
theorem cdx_l {M0 M : MS} {R z : Nat → Int32} {kd x a3 a4 : Int32} {c r : Nat} (h : CR M0 0 R M z) (hz : ZW z) (ht : TH z) (hx : xok z kd x) (hk : k4 kd) (hc : c < 4) (hr : r ≤ 5) (h3 : kd = 3 → a3 = nI c ∧ a4 = nI r) (hp : zcx z kd x = true) : ∃ M' R', F_X3_act M 0 kd x a3 a4 = some (zdR z kd x c r, M') ∧ CR M0 0 R' M' (zdA z kd x c r) := by
  obtain ⟨a, b, c1, d, e⟩ := TH_t hz ht (zcx_t hp).1
  exact cact_eq h hz a b e hx hk hc hr rfl h3 (off_ok hz a)
theorem cdx_s {M0 M : MS} {R z : Nat → Int32} {kd x a3 a4 : Int32} {c r : Nat} (h : CR M0 27 R M z) (hz : ZW z) (ht : TH z) (hx : xok z kd x) (hk : k4 kd) (hc : c < 4) (hr : r ≤ 5) (h3 : kd = 3 → a3 = nI c ∧ a4 = nI r) (hp : zcx z kd x = true) : ∃ M' R', F_X3_act M 27 kd x a3 a4 = some (zdR z kd x c r, M') ∧ CR M0 27 R' M' (zdA z kd x c r) := by
  obtain ⟨a, b, c1, d, e⟩ := TH_t hz ht (zcx_t hp).1
  exact cact_eq h hz a b e hx hk hc hr rfl h3 (off_ok hz a)
theorem mdx_eq {M : MS} {z : Nat → Int32} {kd x a3 a4 : Int32} {c r : Nat} (hm : rA M 221 = z) (hz : ZW z) (ht : TH z) (hx : xok z kd x) (hc : c < 4) (hr : r ≤ 5) (h3 : a3 = nI c) (h4 : a4 = nI r) (hp : zcx z kd x = true) : ∃ M', F_X5_act M kd x a3 a4 = some (zdR z kd x c r, M') ∧ FQ M M' ∧ rA M' 221 = zdA z kd x c r := by
  subst hm
  obtain ⟨a, b, c1, d, e⟩ := TH_t hz ht (zcx_t hp).1
  subst h4
  obtain ⟨M', g1, g2, g3, g4⟩ := act_eq (c := c) (r := r) (ci := a3) (ri := nI r) hz a b hx hc h3 hr rfl
  exact ⟨M', g1, g2, g3⟩
/-- who comes in -/
def zci (z : Nat → Int32) (g : Nat) : Bool := decide (¬ z 2 = -1) && (decide (zo z g 6 = 1) && decide (¬ zo z g 2 = 0))
def zli (z : Nat → Int32) (g : Nat) : Nat → Int32 := zletin z g (ztn z)
theorem zci_v {z : Nat → Int32} {g : Nat} : (if z 2 = -1 then (0 : Int32) else if zo z g 6 = 1 then (if zo z g 2 = 0 then 0 else 1) else 0) = if zci z g = true then 1 else 0 := by
  unfold zci
  by_cases h1 : z 2 = -1
  · simp [h1]
  · by_cases h2 : zo z g 6 = 1
    · by_cases h3 : zo z g 2 = 0
      · simp [h3]
      · simp [h1, h2, h3]
    · simp [h2]
theorem zci_t {z : Nat → Int32} {g : Nat} (h : zci z g = true) : ¬ z 2 = -1 ∧ zo z g 6 = 1 ∧ ¬ zo z g 2 = 0 := by
  unfold zci at h
  rw [Bool.and_eq_true, Bool.and_eq_true, decide_eq_true_eq, decide_eq_true_eq, decide_eq_true_eq] at h
  exact h
theorem cci_l {M : MS} {z : Nat → Int32} {g : Nat} (h : CZ M 0 z) (hz : ZW z) (hg : g < zn z) : F_X3_canBeLetIn M 0 (nI g) = some (if zci z g = true then 1 else 0) := by rw [ccan_l h hz hg, zci_v]
theorem mci_eq {M : MS} {z : Nat → Int32} {g : Nat} (hm : rA M 221 = z) (hg : g < 10) : F_X5_canComeIn M (nI g) = some (if zci z g = true then 1 else 0) := by
  subst hm
  rw [mcan_eq hg, zci_v]
theorem zci_ne {z : Nat → Int32} {g : Nat} (hz : ZW z) (ht : TH z) (h : zci z g = true) : g ≠ ztn z := by
  obtain ⟨a, b, c⟩ := zci_t h
  obtain ⟨d1, d2, d3, d4, d5⟩ := TH_t hz ht a
  intro e
  rw [e, d4] at b
  exact absurd b (by decide)
theorem zli_ok {z : Nat → Int32} {g : Nat} (hz : ZW z) (ht : TH z) (hg : g < zn z) (h : zci z g = true) : ZW (zli z g) ∧ TH (zli z g) ∧ zn (zli z g) = zn z := by
  obtain ⟨d1, d2, d3, d4, d5⟩ := TH_t hz ht (zci_t h).1
  obtain ⟨a, b, c, d⟩ := letin_ok hz hg d1 (zci_ne hz ht h) d2 d3 d4 d5
  exact ⟨a, b, c⟩
theorem cli_l {M0 M : MS} {R z : Nat → Int32} {g : Nat} (h : CR M0 0 R M z) (hz : ZW z) (ht : TH z) (hg : g < zn z) (hp : zci z g = true) : ∃ M', F_X3_letIn M 0 (nI g) = some (zo (zli z g) g 1, M') ∧ CR M0 0 R M' (zli z g) := by
  obtain ⟨d1, d2, d3, d4, d5⟩ := TH_t hz ht (zci_t hp).1
  exact cletin_l h hz hg d1 (zci_ne hz ht hp) d2
theorem mli_eq {M : MS} {z : Nat → Int32} {g : Nat} (hm : rA M 221 = z) (hz : ZW z) (ht : TH z) (hg : g < zn z) (hp : zci z g = true) : F_X5_comeInIt M (nI g) = some (zo (zli z g) g 1, mz M (zli z g)) := by
  subst hm
  obtain ⟨d1, d2, d3, d4, d5⟩ := TH_t hz ht (zci_t hp).1
  exact mletin_eq hz hg d1 d2
/-- the turn ends, or is delayed -/
def zen (z : Nat → Int32) : Nat → Int32 := zend z (ztn z)
def zde (z : Nat → Int32) : Nat → Int32 := zdelay z (ztn z)
theorem zen_ok {z : Nat → Int32} (hz : ZW z) (ht : TH z) (h : ¬ z 2 = -1) : ZW (zen z) ∧ TH (zen z) ∧ zn (zen z) = zn z := zend_ok hz (TH_t hz ht h).1
theorem zde_ok {z : Nat → Int32} (hz : ZW z) (ht : TH z) (h : ¬ z 2 = -1) : ZW (zde z) ∧ TH (zde z) ∧ zn (zde z) = zn z := delay_ok hz (TH_t hz ht h).1
theorem cen_l {M0 M : MS} {R z : Nat → Int32} (h : CR M0 0 R M z) (hz : ZW z) (ht : TH z) (h2 : ¬ z 2 = -1) : ∃ M', F_X3_endTurn M 0 = some M' ∧ CR M0 0 R M' (zen z) := by
  obtain ⟨d1, d2, _⟩ := TH_t hz ht h2
  exact cend_eq h hz d1 d2
theorem men_eq {M : MS} {z : Nat → Int32} (hm : rA M 221 = z) (hz : ZW z) (ht : TH z) (h2 : ¬ z 2 = -1) : F_X5_endTurn M = some (mz M (zen z)) := by
  subst hm
  obtain ⟨d1, d2, _⟩ := TH_t hz ht h2
  exact endT hz d1 d2
theorem cde_l {M0 M : MS} {R z : Nat → Int32} (h : CR M0 0 R M z) (hz : ZW z) (ht : TH z) (h2 : ¬ z 2 = -1) : ∃ M', F_X3_delayTurn M 0 = some M' ∧ CR M0 0 R M' (zde z) := by
  obtain ⟨d1, d2, _⟩ := TH_t hz ht h2
  exact cdelay_l h hz d1 d2
theorem mde_eq {M : MS} {z : Nat → Int32} (hm : rA M 221 = z) (hz : ZW z) (ht : TH z) (h2 : ¬ z 2 = -1) : F_X5_delayIt M = some (mz M (zde z)) := by
  subst hm
  obtain ⟨d1, d2, _⟩ := TH_t hz ht h2
  exact mdelay_eq hz d1 d2
/-! one order: both sides -/
def dv (b : Nat → Int32) (i : Nat) : Nat := (b i - 48).toNatClampNeg
theorem dg_val {b : Nat → Int32} {t i l h : Nat} (hb : BV b t) (hi : i < t) (hl : l ≤ 9) (hh : h ≤ 9) (hd : dgi (b i) (nI l) (nI h) = true) : l ≤ dv b i ∧ dv b i ≤ h ∧ b i - 48 = nI (dv b i) ∧ b i = nI (48 + dv b i) := by
  obtain ⟨c, c1, c2, c3⟩ := hb i hi
  have e : ∀ k, (48 : Int32) + nI k = nI (48 + k) := fun k => by rw [nI_lit 48, nI_add]
  unfold dgi at hd
  rw [Bool.and_eq_true, decide_eq_true_eq, decide_eq_true_eq, e, e, c3] at hd
  have h1 : 48 + l ≤ c := Nat.le_of_not_lt (fun q => hd.1 (nI_lt q (by omega)))
  have h2 : c ≤ 48 + h := Nat.le_of_not_lt (fun q => hd.2 (nI_lt q (by omega)))
  have h3 : b i - 48 = nI (c - 48) := by rw [c3, nI_lit 48, pk_sub (by omega)]
  have h4 : dv b i = c - 48 := by unfold dv; rw [h3, nI_clamp (by omega)]
  rw [h4]
  exact ⟨by omega, by omega, h3, by rw [c3]; congr 1; omega⟩
theorem oe_d {b : Nat → Int32} {t p : Nat} (h : (oe b t p).1 = true) : p < t ∧ ((kl (b p) = 3 ∧ (oe b t p).2 = p + 1) ∨ (kl (b p) = 1 ∧ p + 1 < t ∧ dgi (b (p + 1)) (nI 0) (nI 9) = true ∧ (oe b t p).2 = p + 2) ∨ (kl (b p) = 2 ∧ p + 3 < t ∧ dgi (b (p + 1)) (nI 0) (nI 9) = true ∧ dgi (b (p + 2)) (nI 0) (nI 3) = true ∧ dgi (b (p + 3)) (nI 1) (nI 5) = true ∧ (oe b t p).2 = p + 4)) := by
  unfold oe at h ⊢
  by_cases q0 : t ≤ p
  · rw [if_pos q0] at h; cases h
  rw [if_neg q0] at h ⊢
  refine ⟨by omega, ?_⟩
  by_cases q3 : kl (b p) = 3
  · rw [if_pos q3]; exact Or.inl ⟨q3, rfl⟩
  rw [if_neg q3] at h ⊢
  by_cases q1 : kl (b p) = 1
  · rw [if_pos q1] at h ⊢
    by_cases g : p + 1 < t ∧ dgi (b (p + 1)) 0 9 = true
    · rw [if_pos g]; exact Or.inr (Or.inl ⟨q1, g.1, g.2, rfl⟩)
    · rw [if_neg g] at h; cases h
  rw [if_neg q1] at h ⊢
  by_cases q2 : kl (b p) = 2
  · rw [if_pos q2] at h ⊢
    by_cases g : p + 1 < t ∧ dgi (b (p + 1)) 0 9 = true
    · rw [if_pos g] at h ⊢
      by_cases g2 : p + 2 < t ∧ dgi (b (p + 2)) 0 3 = true
      · rw [if_pos g2] at h ⊢
        by_cases g3 : p + 3 < t ∧ dgi (b (p + 3)) 1 5 = true
        · rw [if_pos g3]; exact Or.inr (Or.inr ⟨q2, g3.1, g.2, g2.2, g3.2, rfl⟩)
        · rw [if_neg g3] at h; cases h
      · rw [if_neg g2] at h; cases h
    · rw [if_neg g] at h; cases h
  · rw [if_neg q2] at h; cases h
/-- a fighter's number in an order -/
def zcf (z : Nat → Int32) (kd : Int32) (g : Nat) : Bool := decide (kd = 1 ∨ g < zn z) && zcx z kd (nI g)
def zkd (c : Int32) : Int32 := if c = 115 then 0 else if c = 109 then 1 else if c = 104 then 2 else 3
def zoC (z : Nat → Int32) (c : Int32) (g : Nat) : Bool := if c = 105 then decide (g < zn z) && zci z g else if c = 119 ∨ c = 101 then decide (¬ z 2 = -1) else zcf z (zkd c) g
noncomputable def zoD (z : Nat → Int32) (c : Int32) (g q r : Nat) : Nat → Int32 := if c = 105 then zli z g else if c = 119 then zde z else if c = 101 then zen z else if c = 99 then zdA z 3 (nI g) q r else zdA z (zkd c) (nI g) 0 0
theorem zcf_x {z : Nat → Int32} {kd : Int32} {g : Nat} (hg : g ≤ 9) (h : zcf z kd g = true) : xok z kd (nI g) ∧ zcx z kd (nI g) = true := by
  unfold zcf at h
  rw [Bool.and_eq_true, decide_eq_true_eq] at h
  refine ⟨?_, h.2⟩
  by_cases e : kd = 1
  · exact Or.inl ⟨e, g, hg, rfl⟩
  · exact Or.inr ⟨e, g, h.1.resolve_left e, rfl⟩
theorem ccf_l {M : MS} {z : Nat → Int32} {kd : Int32} {g : Nat} (h : CZ M 0 z) (hz : ZW z) (ht : TH z) (hk : k4 kd) (hg : g ≤ 9) : F_X3_isPossible M 0 (rF M 54 0) kd (nI g) = some (if zcf z kd g = true then 1 else 0) := by
  unfold zcf
  by_cases e : kd = 1
  · rw [ccx_l h hz ht (Or.inl ⟨e, g, hg, rfl⟩) hk]
    simp [e]
  · by_cases e2 : g < zn z
    · rw [ccx_l h hz ht (Or.inr ⟨e, g, e2, rfl⟩) hk]
      simp [e2]
    · rw [ccx_no h hz ht e (Or.inr (by rw [hz.1.1]; exact nI_le (by omega) (by omega)))]
      simp [e, e2]
theorem zoD_ok {z : Nat → Int32} {c : Int32} {g q r : Nat} (hz : ZW z) (ht : TH z) (hg : ¬ c = 105 → ¬ c = 119 → ¬ c = 101 → g ≤ 9) (hq : c = 99 → q ≤ 3 ∧ r ≤ 5) (h : zoC z c g = true) : ZW (zoD z c g q r) ∧ TH (zoD z c g q r) := by
  unfold zoC at h
  unfold zoD
  by_cases h1 : c = 105
  · rw [if_pos h1] at h ⊢
    rw [Bool.and_eq_true, decide_eq_true_eq] at h
    obtain ⟨a, b, _⟩ := zli_ok hz ht h.1 h.2
    exact ⟨a, b⟩
  rw [if_neg h1] at h ⊢
  by_cases h2 : c = 119
  · rw [if_pos (Or.inl h2), decide_eq_true_eq] at h
    rw [if_pos h2]
    obtain ⟨a, b, _⟩ := zde_ok hz ht h
    exact ⟨a, b⟩
  rw [if_neg h2]
  by_cases h3 : c = 101
  · rw [if_pos (Or.inr h3), decide_eq_true_eq] at h
    rw [if_pos h3]
    obtain ⟨a, b, _⟩ := zen_ok hz ht h
    exact ⟨a, b⟩
  rw [if_neg h3]
  rw [if_neg (fun q => q.elim h2 h3)] at h
  obtain ⟨x1, x2⟩ := zcf_x (hg h1 h2 h3) h
  by_cases h4 : c = 99
  · rw [if_pos h4]
    have e : zkd c = 3 := by rw [h4]; decide
    rw [e] at x1 x2
    obtain ⟨a, b, _⟩ := zdA_ok hz ht x1 (show q < 4 by have := hq h4; omega) (hq h4).2 x2
    exact ⟨a, b⟩
  · rw [if_neg h4]
    obtain ⟨a, b, _⟩ := zdA_ok hz ht x1 (show 0 < 4 by decide) (show 0 ≤ 5 by decide) x2
    exact ⟨a, b⟩
/-- the class -/
theorem dig_l {M : MS} {t i l h : Nat} {b : Nat → Int32} (hc : CT M t b) (hb : BV b t) (ht : t ≤ 60) (hi : i < t) (hl : l ≤ 9) (hh : h ≤ 9) (hd : dgi (b i) (nI l) (nI h) = true) : F_X1_digitAt M (nI i) = some (nI (dv b i)) := by
  obtain ⟨a, c, d, e⟩ := dg_val hb hi hl hh hd
  have h9 : dgi (b i) 0 9 = true := by
    rw [e]
    have k : ∀ n, n ≤ 9 → dgi (nI (48 + n)) 0 9 = true := by decide
    exact k _ (by omega)
  rw [F_X1_digitAt, code_l hc ht hi, bd_s, isD_eq, bd_s, if_pos h9, if_neg (by decide), bd_s, d]
theorem dig_some {M : MS} {t i : Nat} {b : Nat → Int32} (hc : CT M t b) (ht : t ≤ 60) (hi : i < 1000) : ∃ y, F_X1_digitAt M (nI i) = some y := by
  obtain ⟨c, hcc⟩ : ∃ c, F_X1_codeAt M (nI i) = some c := by
    by_cases q : i < t
    · exact ⟨_, code_l hc ht q⟩
    · exact ⟨_, code_no hc (by omega) hi⟩
  rw [F_X1_digitAt, hcc, bd_s, isD_eq, bd_s]
  cases dgi c 0 9
  · exact ⟨_, rfl⟩
  · exact ⟨_, rfl⟩
theorem zkd_4 {c : Int32} : k4 (zkd c) := by
  unfold zkd k4
  split
  · exact Or.inl rfl
  split
  · exact Or.inr (Or.inl rfl)
  split
  · exact Or.inr (Or.inr (Or.inl rfl))
  · exact Or.inr (Or.inr (Or.inr rfl))
theorem kof_eq {M : MS} {c : Int32} (h : c = 115 ∨ c = 109 ∨ c = 104 ∨ c = 99) : F_X1_kindOf M c = some (zkd c) ∧ ¬ zkd c = -1 := by
  rcases h with h | h | h | h <;> subst h <;> exact ⟨rfl, by decide⟩
theorem b01 {c : Bool} {α : Type} {k : Option α} : gdb ((if c = true then (1 : Int32) else 0) == 0 || (if c = true then (1 : Int32) else 0) == 1) k = k := by cases c <;> rfl
/-- what letters there are -/
theorem let_kinds {c : Int32} (h : kl c = 1 ∨ kl c = 2) : c = 105 ∨ (¬ c = 105 ∧ ¬ c = 119 ∧ ¬ c = 101 ∧ (c = 115 ∨ c = 109 ∨ c = 104 ∨ c = 99)) := by
  rcases kl_of (c := c) with ⟨h, q⟩ | ⟨h, q⟩ | ⟨h2, q⟩ | ⟨h2, q⟩
  · rcases q with q | q | q | q
    · subst q; right; exact ⟨by decide, by decide, by decide, Or.inl rfl⟩
    · subst q; right; exact ⟨by decide, by decide, by decide, Or.inr (Or.inl rfl)⟩
    · subst q; right; exact ⟨by decide, by decide, by decide, Or.inr (Or.inr (Or.inl rfl))⟩
    · exact Or.inl q
  · subst q; right; exact ⟨by decide, by decide, by decide, Or.inr (Or.inr (Or.inr rfl))⟩
  · omega
  · omega
theorem cop_l {M : MS} {z b : Nat → Int32} {t p : Nat} (h : CZ M 0 z) (hz : ZW z) (ht : TH z) (hc : CT M t b) (hb : BV b t) (h60 : t ≤ 60) (ho : (oe b t p).1 = true) : F_X4_isOrderPossible M (nI p) = some (if zoC z (b p) (dv b (p + 1)) = true then 1 else 0) := by
  obtain ⟨hp, hk⟩ := oe_d ho
  rw [F_X4_isOrderPossible, code_l hc h60 hp, bd_s, nI_1]
  unfold zoC
  rcases hk with ⟨k3, _⟩ | hk
  · obtain ⟨y, hy⟩ := dig_some hc h60 (show p + 1 < 1000 by omega)
    have hl : b p = 119 ∨ b p = 101 := by
      rcases kl_of (c := b p) with ⟨h, q⟩ | ⟨h, q⟩ | ⟨h2, q⟩ | ⟨h2, q⟩
      · omega
      · omega
      · exact q
      · omega
    have e1 : ¬ b p = 105 := by rcases hl with q | q <;> rw [q] <;> decide
    have e2 : F_X1_kindOf M (b p) = some (-1) := by rcases hl with q | q <;> rw [q] <;> rfl
    rw [hy, bd_s, if_pos e1, if_neg e1, if_pos hl, e2, bd_s, if_neg (by decide), h.1.2.2.1]
    by_cases e : z 2 = -1
    · simp [e]
    · simp [e]
  · obtain ⟨hd, hk2, hpt⟩ : dgi (b (p + 1)) (nI 0) (nI 9) = true ∧ (kl (b p) = 1 ∨ kl (b p) = 2) ∧ p + 1 < t := by
      rcases hk with ⟨a, b1, c, d⟩ | ⟨a, b1, c, d⟩
      · exact ⟨c, Or.inl a, b1⟩
      · exact ⟨c, Or.inr a, by omega⟩
    obtain ⟨v1, v2, v3, v4⟩ := dg_val hb hpt (by decide) (by decide) hd
    rw [dig_l hc hb h60 hpt (by decide) (by decide) hd, bd_s]
    rcases let_kinds hk2 with e | ⟨e1, e2, e3, e4⟩
    · rw [if_neg (fun q => q e), if_pos e]
      by_cases g : dv b (p + 1) < zn z
      · rw [cci_l h hz g, bd_s, b01]
        simp [g]
      · rw [ccan_no h (Or.inr (by rw [hz.1.1]; exact nI_le (by omega) (by omega))), bd_s]
        simp [g]
        rfl
    · obtain ⟨k1, k2⟩ := kof_eq (M := M) e4
      rw [if_pos e1, if_neg e1, if_neg (show ¬ (b p = 119 ∨ b p = 101) from fun q => q.elim e2 e3), k1, bd_s, if_pos k2, ccf_l h hz ht zkd_4 v2, bd_s, b01]
theorem cod_l {M0 M : MS} {R z b : Nat → Int32} {t p : Nat} (h : CR M0 0 R M z) (hz : ZW z) (ht : TH z) (hc : CT M t b) (hb : BV b t) (h60 : t ≤ 60) (ho : (oe b t p).1 = true) (hC : zoC z (b p) (dv b (p + 1)) = true) : ∃ M' R', F_X4_doOrder M (nI p) = some M' ∧ CR M0 0 R' M' (zoD z (b p) (dv b (p + 1)) (dv b (p + 2)) (dv b (p + 3))) := by
  obtain ⟨hp, hk⟩ := oe_d ho
  have hx : ∀ k : Nat, nI p + OfNat.ofNat k = nI (p + k) := fun k => by rw [nI_lit k, nI_add]
  rw [F_X4_doOrder, code_l hc h60 hp, bd_s, nI_1]
  unfold zoC at hC
  unfold zoD
  rcases hk with ⟨k3, _⟩ | hk
  · obtain ⟨y, hy⟩ := dig_some hc h60 (show p + 1 < 1000 by omega)
    have hl : b p = 119 ∨ b p = 101 := by
      rcases kl_of (c := b p) with ⟨h, q⟩ | ⟨h, q⟩ | ⟨h2, q⟩ | ⟨h2, q⟩
      · omega
      · omega
      · exact q
      · omega
    have e1 : ¬ b p = 105 := by rcases hl with q | q <;> rw [q] <;> decide
    rw [if_neg e1, if_pos hl, decide_eq_true_eq] at hC
    rw [hy, bd_s, if_neg e1, if_neg e1]
    by_cases e : b p = 101
    · have e2 : ¬ b p = 119 := by rw [e]; decide
      obtain ⟨M', g1, g2⟩ := cen_l h hz ht hC
      rw [if_pos e, if_neg e2, if_pos e, g1, bd_s]
      exact ⟨M', R, rfl, g2⟩
    · obtain ⟨M', g1, g2⟩ := cde_l h hz ht hC
      have e2 : b p = 119 := hl.resolve_right e
      rw [if_neg e, if_pos e2, if_pos e2, g1, bd_s]
      exact ⟨M', R, rfl, g2⟩
  · obtain ⟨hd, hk2, hpt⟩ : dgi (b (p + 1)) (nI 0) (nI 9) = true ∧ (kl (b p) = 1 ∨ kl (b p) = 2) ∧ p + 1 < t := by
      rcases hk with ⟨a, b1, c, d⟩ | ⟨a, b1, c, d⟩
      · exact ⟨c, Or.inl a, b1⟩
      · exact ⟨c, Or.inr a, by omega⟩
    obtain ⟨v1, v2, v3, v4⟩ := dg_val hb hpt (by decide) (by decide) hd
    rw [dig_l hc hb h60 hpt (by decide) (by decide) hd, bd_s]
    rcases let_kinds hk2 with e | ⟨e1, e2, e3, e4⟩
    · rw [if_pos e, Bool.and_eq_true, decide_eq_true_eq] at hC
      obtain ⟨M', g1, g2⟩ := cli_l h hz ht hC.1 hC.2
      rw [if_neg (by rw [e]; decide), if_pos e, if_pos e, g1, bd2_s]
      exact ⟨M', R, rfl, g2⟩
    · obtain ⟨k1, k2⟩ := kof_eq (M := M) e4
      rw [if_neg e1, if_neg (fun q => q.elim e2 e3)] at hC
      obtain ⟨x1, x2⟩ := zcf_x v2 hC
      rw [if_neg e3, if_neg e1, if_neg e2, if_neg e1, if_neg e2, if_neg e3, k1, bd_s, show nI p + (2 : Int32) = nI (p + 2) from hx 2, show nI p + (3 : Int32) = nI (p + 3) from hx 3]
      by_cases e99 : b p = 99
      · have k2' : kl (b p) = 2 := by rw [e99]; decide
        obtain ⟨_, w1, w2, w3, w4, _⟩ : kl (b p) = 2 ∧ p + 3 < t ∧ dgi (b (p + 1)) (nI 0) (nI 9) = true ∧ dgi (b (p + 2)) (nI 0) (nI 3) = true ∧ dgi (b (p + 3)) (nI 1) (nI 5) = true ∧ (oe b t p).2 = p + 4 := by
          rcases hk with ⟨a, _⟩ | q
          · omega
          · exact q
        have z3 : zkd (b p) = 3 := by rw [e99]; decide
        rw [z3] at x1 x2 ⊢
        obtain ⟨u1, u2, u3, u4⟩ := dg_val hb (show p + 2 < t by omega) (by decide) (by decide) w3
        obtain ⟨s1, s2, s3, s4⟩ := dg_val hb w1 (by decide) (by decide) w4
        obtain ⟨M', R', g1, g2⟩ := cdx_l (c := dv b (p + 2)) (r := dv b (p + 3)) h hz ht x1 (Or.inr (Or.inr (Or.inr rfl))) (by omega) s2 (fun _ => ⟨rfl, rfl⟩) x2
        rw [if_pos e99, dig_l hc hb h60 (show p + 2 < t by omega) (by decide) (by decide) w3, bd_s, dig_l hc hb h60 w1 (by decide) (by decide) w4, bd_s, g1, bd2_s]
        exact ⟨M', R', rfl, g2⟩
      · obtain ⟨y2, hy2⟩ := dig_some hc h60 (show p + 2 < 1000 by omega)
        obtain ⟨y3, hy3⟩ := dig_some hc h60 (show p + 3 < 1000 by omega)
        have z3 : ¬ zkd (b p) = 3 := by rcases e4 with q | q | q | q <;> first | exact absurd q e99 | (rw [q]; decide)
        obtain ⟨M', R', g1, g2⟩ := cdx_l (c := 0) (r := 0) (a3 := y2) (a4 := y3) h hz ht x1 zkd_4 (by decide) (by decide) (fun q => absurd q z3) x2
        rw [if_neg e99, hy2, bd_s, hy3, bd_s, g1, bd2_s]
        exact ⟨M', R', rfl, g2⟩
