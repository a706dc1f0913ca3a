/-- what holds of each fighter -/
def fw (z : Nat → Int32) (f : Nat) : Prop :=
  (zo z f 0 = 0 ∨ zo z f 0 = 1) ∧ (∃ l, l ≤ 99 ∧ zo z f 2 = nI l) ∧ (∃ l, l ≤ 99 ∧ zo z f 3 = nI l) ∧ (∃ x, x ≤ 20 ∧ zo z f 4 = nI x) ∧ (∃ x, x ≤ 9 ∧ zo z f 5 = nI x) ∧ (zo z f 6 = 0 ∨ zo z f 6 = 1) ∧
  ((zo z f 7 = -1 ∧ zo z f 8 = -1 ∧ zo z f 9 = -1 ∧ zo z f 10 = -1) ∨ ((zo z f 7 = 0 ∨ zo z f 7 = 2) ∧ (∃ g, g < zn z ∧ zo z f 8 = nI g) ∧ (zo z f 9 = -1 ∨ ∃ g, g < zn z ∧ zo z f 9 = nI g) ∧ ∃ c, c ≤ 3 ∧ zo z f 10 = nI c)) ∧
  ∀ c, c < 4 → ∃ x, x ≤ 5 ∧ zo z f (11 + c) = nI x
def ZW (z : Nat → Int32) : Prop := Z0 z ∧ (∀ f, f < zn z → fw z f) ∧ ∀ j, 186 ≤ j → z j = 0
def zap (a b : Int32) : Int32 := if b ≤ a then a - b else b - a
theorem apart_eq {M : MS} {a b : Int32} : F_X5_apart M a b = some (zap a b) := by
  unfold F_X5_apart zap
  split <;> rfl
def zpos (z : Nat → Int32) (f : Nat) (kd : Int32) (x : Int32) : Bool :=
  if kd = 1 then decide (¬ (if 0 < zo z f 12 then (1 : Int32) else 3) < zap (zo z f 5) x)
  else if x = nI f then false else if zo z x.toNatClampNeg 2 = 0 then false
  else if kd = 0 then decide (¬ 2 < zap (zo z f 5) (zo z x.toNatClampNeg 5))
  else if kd = 2 then decide (zo z f 0 = zo z x.toNatClampNeg 0) && decide (¬ 2 < zap (zo z f 5) (zo z x.toNatClampNeg 5))
  else decide (¬ zo z f 0 = zo z x.toNatClampNeg 0)
theorem near_eq {M : MS} {f g : Nat} (hf : f < 10) (hg : g < 10) : F_X5_isNear M (nI f) (nI g) = some (if (2 : Int32) < zap (zo (rA M 221) f 5) (zo (rA M 221) g 5) then 0 else 1) := by
  rw [F_X5_isNear, of_l hf (by decide), bd_s, of_l hg (by decide), bd_s, apart_eq, bd_s]
  split <;> rfl
theorem bit01 {c : Bool} : ((if c = true then (1 : Int32) else 0) == 0 || (if c = true then (1 : Int32) else 0) == 1) = true := by cases c <;> rfl
theorem pos_eq {M : MS} {f : Nat} {kd x : Int32} (hf : f < 10) (hx : kd = 1 ∨ ∃ g, g < 10 ∧ x = nI g) : F_X5_isPossible M (nI f) kd x = some (if zpos (rA M 221) f kd x = true then 1 else 0) := by
  rw [F_X5_isPossible]
  by_cases h1 : kd = 1
  · subst h1
    rw [if_neg (by decide), of_l hf (by decide), bd_s, apart_eq, bd_s, F_X5_reach, has_l hf (by decide), bd_s]
    unfold zpos
    rw [if_pos rfl]
    by_cases h2 : 0 < zo (rA M 221) f 12
    · rw [if_pos h2, if_neg (by decide), bd_s, if_pos h2]
      by_cases h3 : (1 : Int32) < zap (zo (rA M 221) f 5) x
      · simp [h3]
      · simp [h3]
    · rw [if_neg h2, if_pos rfl, bd_s, if_neg h2]
      by_cases h3 : (3 : Int32) < zap (zo (rA M 221) f 5) x
      · simp [h3]
      · simp [h3]
  · obtain ⟨g, hg, rfl⟩ := hx.resolve_left h1
    have hcl : (nI g).toNatClampNeg = g := nI_clamp (by omega)
    rw [if_pos h1]
    unfold zpos
    rw [if_neg h1, hcl]
    by_cases h2 : nI g = nI f
    · rw [if_pos h2, if_pos h2]; rfl
    rw [if_neg h2, if_neg h2, fallen_eq hg, bd_s]
    by_cases h3 : zo (rA M 221) g 2 = 0
    · rw [if_pos h3, if_neg (by decide), if_pos h3]; rfl
    rw [if_neg h3, if_pos rfl, if_neg h3, of_l hf (by decide), bd_s, of_l hg (by decide), bd_s, nm_k]
    by_cases h4 : zo (rA M 221) f 0 = zo (rA M 221) g 0
    · rw [if_neg (fun q => q h4)]
      dsimp only
      by_cases h5 : kd = 0
      · subst h5
        rw [if_neg (by decide), near_eq hf hg, bd_s, if_pos rfl]
        by_cases h6 : (2 : Int32) < zap (zo (rA M 221) f 5) (zo (rA M 221) g 5)
        · simp [h6]; rfl
        · simp [h6]; rfl
      · rw [if_pos h5, if_neg h5]
        by_cases h7 : kd = 2
        · subst h7
          rw [if_neg (by decide), if_neg (by decide), near_eq hf hg, bd_s, if_pos rfl]
          by_cases h6 : (2 : Int32) < zap (zo (rA M 221) f 5) (zo (rA M 221) g 5)
          · simp [h6]
          · simp [h6, h4]
        · rw [if_pos h7, if_pos (by decide), if_neg h7]
          simp [h4]
    · rw [if_pos h4]
      dsimp only
      by_cases h5 : kd = 0
      · subst h5
        rw [if_neg (by decide), near_eq hf hg, bd_s, if_pos rfl]
        by_cases h6 : (2 : Int32) < zap (zo (rA M 221) f 5) (zo (rA M 221) g 5)
        · simp [h6]; rfl
        · simp [h6]; rfl
      · rw [if_pos h5, if_neg h5]
        by_cases h7 : kd = 2
        · subst h7
          rw [if_neg (by decide), if_pos rfl, if_pos rfl]
          simp [h4]
        · rw [if_pos h7, if_neg (by decide), if_neg h7]
          simp [h4]
/-- the acts -/
def zfor (z : Nat → Int32) (f : Nat) : Int32 := if 0 < zo z f 12 then (zo z f 4 + (if 0 < zo z f 13 then 3 else 0)) / 2 else zo z f 4 + (if 0 < zo z f 13 then 3 else 0)
def zlost (z : Nat → Int32) (f g : Nat) : Int32 := if zo z g 2 ≤ zfor z f then zo z g 2 else zfor z f
def zstr (z : Nat → Int32) (f g : Nat) : Nat → Int32 := zl (zl z g 2 (zo z g 2 - zlost z f g)) f 16 (zo (zl z g 2 (zo z g 2 - zlost z f g)) f 16 + zlost z f g)
theorem strike_eq {M : MS} {f g : Nat} (hf : f < 10) (hg : g < 10) : F_X5_strikeIt M (nI f) (nI g) = some (zlost (rA M 221) f g, mz M (zstr (rA M 221) f g)) := by
  have key : ∀ s10 : Int32, (bd (F_X5_of M (nI g) (2 : Int32)) fun r13 => (nm (fun (s14 : Int32) => (bd (F_X5_of M (nI g) (2 : Int32)) fun r17 => (bd (F_X5_lay M (nI g) (2 : Int32) (r17 - s14)) fun M19 => (bd (F_X5_of M19 (nI f) (16 : Int32)) fun r21 => (bd (F_X5_lay M19 (nI f) (16 : Int32) (r21 + s14)) fun M23 => (some (s14, M23))))))) fun j59_14 => (if r13 ≤ s10 then (bd (F_X5_of M (nI g) (2 : Int32)) fun r26 => (j59_14 r26)) else (j59_14 s10)))) = some ((if zo (rA M 221) g 2 ≤ s10 then zo (rA M 221) g 2 else s10), mz M (zl (zl (rA M 221) g 2 (zo (rA M 221) g 2 - (if zo (rA M 221) g 2 ≤ s10 then zo (rA M 221) g 2 else s10))) f 16 (zo (zl (rA M 221) g 2 (zo (rA M 221) g 2 - (if zo (rA M 221) g 2 ≤ s10 then zo (rA M 221) g 2 else s10))) f 16 + (if zo (rA M 221) g 2 ≤ s10 then zo (rA M 221) g 2 else s10)))) := by
    intro s10
    rw [of_l hg (by decide), bd_s, nm_k]
    by_cases h : zo (rA M 221) g 2 ≤ s10
    · rw [if_pos h, if_pos h, bd_s]
      dsimp only
      rw [bd_s, lay_l hg (by decide), bd_s, of_l hf (by decide), bd_s, lay_l hf (by decide), bd_s, mz_mz, mz_z]
    · rw [if_neg h, if_neg h]
      dsimp only
      rw [bd_s, lay_l hg (by decide), bd_s, of_l hf (by decide), bd_s, lay_l hf (by decide), bd_s, mz_mz, mz_z]
  rw [F_X5_strikeIt, of_l hf (by decide), bd_s, has_l hf (by decide), bd_s, nm_k]
  unfold zstr zlost zfor
  by_cases h1 : 0 < zo (rA M 221) f 13
  · rw [if_pos h1, if_neg (by decide), if_pos h1]
    dsimp only
    rw [nm_k, has_l hf (by decide), bd_s, nm_k]
    by_cases h2 : 0 < zo (rA M 221) f 12
    · rw [if_pos h2, if_neg (by decide), if_pos h2]
      exact key _
    · rw [if_neg h2, if_pos rfl, if_neg h2]
      exact key _
  · rw [if_neg h1, if_pos rfl, if_neg h1]
    dsimp only
    rw [nm_k, has_l hf (by decide), bd_s, nm_k]
    by_cases h2 : 0 < zo (rA M 221) f 12
    · rw [if_pos h2, if_neg (by decide), if_pos h2]
      exact key _
    · rw [if_neg h2, if_pos rfl, if_neg h2]
      exact key _
def zhl (z : Nat → Int32) (g : Nat) : Int32 := if zo z g 3 ≤ zo z g 2 + 4 then zo z g 3 else zo z g 2 + 4
def zhlp (z : Nat → Int32) (g : Nat) : Nat → Int32 := zl (zl z g 2 (zhl z g)) g 14 0
theorem help_eq {M : MS} {g : Nat} (hg : g < 10) : F_X5_helpIt M (nI g) = some (zhl (rA M 221) g, mz M (zhlp (rA M 221) g)) := by
  have key : ∀ s6 : Int32, (bd (F_X5_lay M (nI g) (2 : Int32) s6) fun M9 => (bd (F_X5_lay M9 (nI g) (14 : Int32) (0 : Int32)) fun M11 => (bd (F_X5_of M11 (nI g) (2 : Int32)) fun r13 => (some (r13, M11))))) = some (s6, mz M (zl (zl (rA M 221) g 2 s6) g 14 0)) := by
    intro s6
    rw [lay_l hg (by decide), bd_s, lay_l hg (by decide), bd_s, of_l hg (by decide), bd_s, mz_mz, mz_z, mz_z, zo_zl (by decide) (by decide), if_neg (show ¬ (g = g ∧ (2 : Nat) = 14) from fun q => absurd q.2 (by decide)), zo_zl (by decide) (by decide), if_pos ⟨rfl, rfl⟩]
  rw [F_X5_helpIt, of_l hg (by decide), bd_s, nm_k, of_l hg (by decide), bd_s, nm_k]
  unfold zhlp zhl
  by_cases h : zo (rA M 221) g 3 ≤ zo (rA M 221) g 2 + 4
  · rw [if_pos h, bd_s, if_pos h]
    exact key _
  · rw [if_neg h, if_neg h]
    exact key _
def zcnt (z : Nat → Int32) (f : Nat) : Nat → Int32 := zl (upd z 3 (z 3 + 1)) f 15 (zo (upd z 3 (z 3 + 1)) f 15 + 1)
def zdoR (z : Nat → Int32) (f : Nat) (kd x : Int32) (c : Nat) (r : Int32) : Int32 :=
  if kd = 0 then zlost (zcnt z f) f x.toNatClampNeg else if kd = 2 then zhl (zcnt z f) x.toNatClampNeg else if kd = 1 then zap (zo (zcnt z f) f 5) x
  else if zo (zcnt z f) x.toNatClampNeg (11 + c) ≤ r then r else zo (zcnt z f) x.toNatClampNeg (11 + c)
def zdo (z : Nat → Int32) (f : Nat) (kd x : Int32) (c : Nat) (r : Int32) : Nat → Int32 :=
  if kd = 0 then zstr (zcnt z f) f x.toNatClampNeg else if kd = 2 then zhlp (zcnt z f) x.toNatClampNeg else if kd = 1 then zl (zcnt z f) f 5 x
  else zl (zcnt z f) x.toNatClampNeg (11 + c) (zdoR z f kd x c r)
theorem do_eq {M : MS} {f c : Nat} {kd x ci r : Int32} (hf : f < 10) (hx : kd = 1 ∨ ∃ g, g < 10 ∧ x = nI g) (hc : c < 4) (hci : ci = nI c) : F_X5_doIt M (nI f) kd x ci r = some (zdoR (rA M 221) f kd x c r, mz M (zdo (rA M 221) f kd x c r)) := by
  have hcc : (11 : Int32) + ci = nI (11 + c) := by rw [hci, nI_lit 11, nI_add]
  rw [F_X5_doIt, gd3, gd3, nm_k, tn3, wA_z, of_l hf (by decide), bd_s, lay_l hf (by decide), bd_s, mz_z, mz_mz]
  have e : zl (upd (rA M 221) 3 (rA M 221 3 + 1)) f 15 (zo (upd (rA M 221) 3 (rA M 221 3 + 1)) f 15 + 1) = zcnt (rA M 221) f := rfl
  rw [e]
  unfold zdo zdoR
  by_cases h0 : kd = 0
  · subst h0
    obtain ⟨g, hg, rfl⟩ := hx.resolve_left (by decide)
    rw [if_neg (by decide), strike_eq hf hg, bd2_s, mz_z, mz_mz, nI_clamp (by omega), if_pos rfl, if_pos rfl]
  · rw [if_pos h0, if_neg h0, if_neg h0]
    by_cases h2 : kd = 2
    · subst h2
      obtain ⟨g, hg, rfl⟩ := hx.resolve_left (by decide)
      rw [if_neg (by decide), help_eq hg, bd2_s, mz_z, mz_mz, nI_clamp (by omega), if_pos rfl, if_pos rfl]
    · rw [if_pos h2, if_neg h2, if_neg h2]
      by_cases h1 : kd = 1
      · subst h1
        rw [if_neg (by decide), of_l hf (by decide), bd_s, apart_eq, bd_s, lay_l hf (by decide), bd_s, mz_z, mz_mz, if_pos rfl, if_pos rfl]
      · obtain ⟨g, hg, rfl⟩ := hx.resolve_left h1
        rw [if_pos h1, if_neg h1, if_neg h1, of_eq hg (w := 11 + c) (by omega) hcc, bd_s, nm_k, mz_z, nI_clamp (by omega)]
        by_cases h : zo (zcnt (rA M 221) f) g (11 + c) ≤ r
        · rw [if_pos h, if_pos h]
          dsimp only
          rw [lay_eq hg (w := 11 + c) (by omega) hcc, bd_s, of_eq hg (w := 11 + c) (by omega) hcc, bd_s, mz_z, mz_mz, mz_z, zo_zl (by omega) (by omega), if_pos ⟨rfl, rfl⟩]
        · rw [if_neg h, if_neg h]
          dsimp only
          rw [lay_eq hg (w := 11 + c) (by omega) hcc, bd_s, of_eq hg (w := 11 + c) (by omega) hcc, bd_s, mz_z, mz_mz, mz_z, zo_zl (by omega) (by omega), if_pos ⟨rfl, rfl⟩]
/-- is a readied act set off -/
def zset (z : Nat → Int32) (f c : Nat) (kd : Int32) : Bool := decide (¬ zo z f 7 = -1) && decide (¬ zo z f 2 = 0) && decide (zo z f 10 = kd) && (decide (zo z f 9 = nI c) || (decide (zo z f 9 = -1) && decide (¬ zo z f 0 = zo z c 0)))
theorem set_eq {M : MS} {f c : Nat} {kd : Int32} (hf : f < 10) (hc : c < 10) : F_X5_isSetOff M (nI f) (nI c) kd = some (if zset (rA M 221) f c kd = true then 1 else 0) := by
  have key : ∀ b : Bool, (bd (F_X5_of M (nI f) (7 : Int32)) fun r6 => (if r6 = (-1 : Int32) then (some (0 : Int32)) else (bd (F_X5_hasFallen M (nI f)) fun r9 => (if ¬ r9 = 0 then (some (0 : Int32)) else (bd (F_X5_of M (nI f) (10 : Int32)) fun r12 => (if ¬ r12 = kd then (some (0 : Int32)) else (if (if b = true then (1 : Int32) else 0) = 0 then (some (0 : Int32)) else (some (1 : Int32))))))))) = some (if (decide (¬ zo (rA M 221) f 7 = -1) && decide (¬ zo (rA M 221) f 2 = 0) && decide (zo (rA M 221) f 10 = kd) && b) = true then 1 else 0) := by
    intro b
    rw [of_l hf (by decide), bd_s]
    by_cases h1 : zo (rA M 221) f 7 = -1
    · rw [if_pos h1]; simp [h1]
    rw [if_neg h1, fallen_eq hf, bd_s]
    by_cases h2 : zo (rA M 221) f 2 = 0
    · rw [if_pos h2, if_pos (by decide)]; simp [h2]
    rw [if_neg h2, if_neg (by decide), of_l hf (by decide), bd_s]
    by_cases h3 : zo (rA M 221) f 10 = kd
    · rw [if_neg (fun q => q h3)]
      cases b
      · simp
      · simp [h1, h2, h3]
    · rw [if_pos h3]; simp [h3]
  rw [F_X5_isSetOff, of_l hf (by decide), bd_s, nm_k]
  unfold zset
  by_cases h1 : zo (rA M 221) f 9 = nI c
  · rw [if_pos h1]
    have h := key true
    simp only [if_true] at h
    dsimp only
    rw [h]
    simp [h1]
  · rw [if_neg h1, bd_s]
    by_cases h2 : zo (rA M 221) f 9 = -1
    · rw [if_neg (fun q => q h2), of_l hf (by decide), bd_s, of_l hc (by decide), bd_s]
      by_cases h3 : zo (rA M 221) f 0 = zo (rA M 221) c 0
      · rw [if_pos h3]
        refine (key false).trans ?_
        simp [h1, h3]
      · rw [if_neg h3]
        have h := key true
        simp only [if_true] at h
        dsimp only
        rw [h]
        simp [h2, h3]
    · rw [if_pos h2]
      refine (key false).trans ?_
      simp [h1, h2]
