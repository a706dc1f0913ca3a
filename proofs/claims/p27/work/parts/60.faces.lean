/-! the calls: what a call leaves on both sides -/
def COK (C : MS → Option (Nat × Int32 × MS)) (z : Nat → Int32) (m : Nat) (sv : Nat → Nat → Int32) (t : Nat) (b : Nat → Int32) (kc : Nat) (r : Int32) (z' : Nat → Int32) (m' : Nat) (sv' : Nat → Nat → Int32) (t' : Nat) (b' : Nat → Int32) : Prop := ∀ M, CI M z m sv t b → ∃ M1, C M = some (kc, r, M1) ∧ CI M1 z' m' sv' t' b' ∧ MPart M M1
theorem CI_wO {M : MS} {x : Int64} {z : Nat → Int32} {m t : Nat} {sv : Nat → Nat → Int32} {b : Nat → Int32} (h : CI M z m sv t b) : CI (wO M x) z m sv t b := h
/-! conditions -/
def wi (a lo hi : Int32) : Bool := decide (¬ a < lo) && decide (¬ hi < a)
theorem isW_t {M : MS} {a lo hi : Int32} (h : wi a lo hi = true) : F_X4_isWithin M a lo hi = some 1 := by
  unfold wi at h
  rw [Bool.and_eq_true, decide_eq_true_eq, decide_eq_true_eq] at h
  rw [F_X4_isWithin, if_neg h.1, if_neg h.2]
theorem isW_f {M : MS} {a lo hi : Int32} (h : ¬ wi a lo hi = true) : F_X4_isWithin M a lo hi = some 0 := by
  unfold wi at h
  rw [Bool.and_eq_true, decide_eq_true_eq, decide_eq_true_eq] at h
  rw [F_X4_isWithin]
  by_cases q : a < lo
  · rw [if_pos q]
  · rw [if_neg q, if_pos (Classical.byContradiction (fun r => h ⟨q, r⟩))]
theorem wi_n {a : Int32} {l h : Nat} (hw : wi a (nI l) (nI h) = true) (hl : l ≤ h) (hh : h < 2 ^ 31) : ∃ n, l ≤ n ∧ n ≤ h ∧ a = nI n := by
  unfold wi at hw
  rw [Bool.and_eq_true, decide_eq_true_eq, decide_eq_true_eq] at hw
  have h0 : ¬ a < 0 := fun q => hw.1 (by
    have q2 := Int32.lt_iff_toInt_lt.mp q
    have z0 : (0 : Int32).toInt = 0 := by decide
    rw [Int32.lt_iff_toInt_lt, nI_toInt (by omega)]
    omega)
  obtain ⟨n, hn, rfl⟩ := nI_of h0
  exact ⟨n, Nat.le_of_not_lt (fun q => hw.1 (nI_lt q (by omega))), Nat.le_of_not_lt (fun q => hw.2 (nI_lt q hn)), rfl⟩
def isf (z : Nat → Int32) (a : Int32) : Bool := decide (¬ a < 0) && decide (¬ z 0 ≤ a)
theorem isf_n {z : Nat → Int32} {a : Int32} (hz : Z0 z) (h : isf z a = true) : ∃ g, g < zn z ∧ a = nI g := by
  unfold isf at h
  rw [Bool.and_eq_true, decide_eq_true_eq, decide_eq_true_eq] at h
  obtain ⟨n, hn, rfl⟩ := nI_of h.1
  refine ⟨n, Nat.lt_of_not_le (fun q => h.2 ?_), rfl⟩
  rw [hz.1]
  exact nI_le q hn
theorem isf_no {z : Nat → Int32} {a : Int32} (h : ¬ isf z a = true) : a < 0 ∨ z 0 ≤ a := by
  unfold isf at h
  rw [Bool.and_eq_true, decide_eq_true_eq, decide_eq_true_eq] at h
  by_cases q : a < 0
  · exact Or.inl q
  · exact Or.inr (Classical.byContradiction (fun r => h ⟨q, r⟩))
theorem cF_t {M : MS} {z : Nat → Int32} {a : Int32} (h : CZ M 0 z) (hf : isf z a = true) : F_X3_isFighter M 0 a = some 1 := by
  unfold isf at hf
  rw [Bool.and_eq_true, decide_eq_true_eq, decide_eq_true_eq] at hf
  rw [F_X3_isFighter, h.1.1, if_neg hf.1, if_neg hf.2]
theorem cF_f {M : MS} {z : Nat → Int32} {a : Int32} (h : CZ M 0 z) (hf : ¬ isf z a = true) : F_X3_isFighter M 0 a = some 0 := by
  rw [F_X3_isFighter, h.1.1]
  rcases isf_no hf with q | q
  · rw [if_pos q]
  · by_cases r : a < 0
    · rw [if_pos r]
    · rw [if_neg r, if_pos q]
theorem rqA1 {M : MS} {K : MS → Option (Nat × Int32 × MS)} {d : Int32} : bx (F_X4_requireArgument M 1) K d = K M := by rw [F_X4_requireArgument, if_pos (by decide)]; rfl
theorem rqA0 {M : MS} {K : MS → Option (Nat × Int32 × MS)} {d : Int32} : bx (F_X4_requireArgument M 0) K d = some (1, d, M) := by rw [F_X4_requireArgument, if_neg (by decide)]; rfl
theorem rqS1 {M : MS} {K : MS → Option (Nat × Int32 × MS)} {d : Int32} : bx (F_X4_requireState M 1) K d = K M := by rw [F_X4_requireState, if_pos (by decide)]; rfl
theorem rqS0 {M : MS} {K : MS → Option (Nat × Int32 × MS)} {d : Int32} : bx (F_X4_requireState M 0) K d = some (2, d, M) := by rw [F_X4_requireState, if_neg (by decide)]; rfl
theorem rqF1 {M : MS} {z : Nat → Int32} {a : Int32} {K : MS → Option (Nat × Int32 × MS)} {d : Int32} (h : CZ M 0 z) (hf : isf z a = true) : bx (F_X4_requireFighter M a) K d = K M := by rw [F_X4_requireFighter, cF_t h hf, bd_s, if_pos (by decide)]; rfl
theorem rqF0 {M : MS} {z : Nat → Int32} {a : Int32} {K : MS → Option (Nat × Int32 × MS)} {d : Int32} (h : CZ M 0 z) (hf : ¬ isf z a = true) : bx (F_X4_requireFighter M a) K d = some (3, d, M) := by rw [F_X4_requireFighter, cF_f h hf, bd_s, if_neg (by decide)]; rfl
/-- the model's word of what it throws -/
theorem th_1 {M : MS} {A : Option (Int32 × MS)} : (if rF (wF M 80 220 1) 80 220 ≤ 0 then A else some (0, wF M 80 220 1)) = some (0, wF M 80 220 (nI 1)) := by rw [rF_self, if_neg (by decide)]; rfl
theorem th_2 {M : MS} {A : Option (Int32 × MS)} : (if rF (wF M 80 220 2) 80 220 ≤ 0 then A else some (0, wF M 80 220 2)) = some (0, wF M 80 220 (nI 2)) := by rw [rF_self, if_neg (by decide)]; rfl
theorem th_3 {M : MS} {A : Option (Int32 × MS)} : (if rF (wF M 80 220 3) 80 220 ≤ 0 then A else some (0, wF M 80 220 3)) = some (0, wF M 80 220 (nI 3)) := by rw [rF_self, if_neg (by decide)]; rfl
theorem th_0 {M : MS} {A B : Option (Int32 × MS)} : (if rF (wF M 80 220 0) 80 220 ≤ 0 then A else B) = A := by rw [rF_self, if_pos (by decide)]
/-! saving, and a change behind it -/
theorem PI_new {z z' : Nat → Int32} {m t : Nat} {sv : Nat → Nat → Int32} (h : PI z m sv t) (h1 : ZW z') (h2 : TH z') : PI z' (svM m) (svS sv m z) t := ⟨h1, h2, (PI_save h).2.2⟩
theorem CR_of {M : MS} {z : Nat → Int32} {m t : Nat} {sv : Nat → Nat → Int32} {b : Nat → Int32} (h : CI M z m sv t b) (hp : PI z m sv t) : CR M 0 (rA M (0 + 4)) M z := ⟨hp.1.1, h.1, CFR_refl, rfl⟩
/-- the class: saved, and what then changes the skirmish -/
theorem csv {M : MS} {z z' : Nat → Int32} {m t : Nat} {sv : Nat → Nat → Int32} {b : Nat → Int32} {K : MS → Option (Nat × Int32 × MS)} {r : Int32} (h : CI M z m sv t b) (hp : PI z m sv t) (hK : ∀ (M1 : MS) (R : Nat → Int32), CR M1 0 R M1 z → ∃ M2 R', K M1 = some (0, r, M2) ∧ CR M1 0 R' M2 z') : ∃ M2, (bd (F_X4_save M) K) = some (0, r, M2) ∧ CI M2 z' (svM m) (svS sv m z) t b ∧ MPart M M2 := by
  obtain ⟨M1, g1, g2, g3, g4⟩ := csave_eq h hp
  have hp1 := PI_save hp
  obtain ⟨M2, R', k1, k2⟩ := hK M1 _ (CR_of g2 hp1)
  exact ⟨M2, by rw [g1, bd_s, k1], CI_now g2 hp1 k2, MPart_trans g3 (MPart_CFR k2.2.2.1 (by decide))⟩
