/-! acts in the class -/
theorem i10 : ¬ (1 : Int32) = 0 := by decide
theorem i12 : ¬ (1 : Int32) = 2 := by decide
theorem i20 : ¬ (2 : Int32) = 0 := by decide
theorem i21 : ¬ (2 : Int32) = 1 := by decide
theorem i30 : ¬ (3 : Int32) = 0 := by decide
theorem i31 : ¬ (3 : Int32) = 1 := by decide
theorem i32 : ¬ (3 : Int32) = 2 := by decide
theorem i01 : ¬ (0 : Int32) = 1 := by decide
def k4 (kd : Int32) : Prop := kd = 0 ∨ kd = 1 ∨ kd = 2 ∨ kd = 3
theorem abs_ap {a b : Nat} (ha : a ≤ 9) (hb : b ≤ 9) : (if 0 ≤ nI b - nI a then nI b - nI a else 0 - (nI b - nI a)) = zap (nI a) (nI b) := by
  have e : ∀ a, a < 10 → ∀ b, b < 10 → (if 0 ≤ nI b - nI a then nI b - nI a else 0 - (nI b - nI a)) = zap (nI a) (nI b) := by decide +kernel
  exact e a (by omega) b (by omega)
theorem ab_eq {M : MS} {v f g : Nat} {z : Nat → Int32} (h : CZ M v z) (hz : ZW z) (hf : f < zn z) (hg : g < zn z) : (if 0 ≤ rF M 5 (v + 1 + 4 + g) - rF M 5 (v + 1 + 4 + f) then rF M 5 (v + 1 + 4 + g) - rF M 5 (v + 1 + 4 + f) else 0 - (rF M 5 (v + 1 + 4 + g) - rF M 5 (v + 1 + 4 + f))) = zap (zo z f 5) (zo z g 5) := by
  obtain ⟨a, ha, ea⟩ := (hz.2.1 f hf).2.2.2.2.1
  obtain ⟨b, hb, eb⟩ := (hz.2.1 g hg).2.2.2.2.1
  rw [f_place h hf, f_place h hg, ea, eb]
  exact abs_ap ha hb
theorem ab_st {M : MS} {v f q : Nat} {z : Nat → Int32} (h : CZ M v z) (hz : ZW z) (hf : f < zn z) (hq : q ≤ 9) : (if 0 ≤ nI q - rF M 5 (v + 1 + 4 + f) then nI q - rF M 5 (v + 1 + 4 + f) else 0 - (nI q - rF M 5 (v + 1 + 4 + f))) = zap (zo z f 5) (nI q) := by
  obtain ⟨a, ha, ea⟩ := (hz.2.1 f hf).2.2.2.2.1
  rw [f_place h hf, ea]
  exact abs_ap ha hq
theorem cpos_l {M : MS} {v f : Nat} {z : Nat → Int32} {kd x : Int32} (h : CZ M v z) (hz : ZW z) (hf : f < zn z) (hx : xok z kd x) (hk : k4 kd) : F_X3_isPossible M v (nI f) kd x = some (if zo z f 2 = 0 then 0 else if zpos z f kd x = true then 1 else 0) := by
  have hb := hz.1.2.1
  rw [F_X3_isPossible, at_l hz.1 h hf, bd_s, fal_l h hf (hz.2.1 f hf), bd_s]
  by_cases c0 : zo z f 2 = 0
  · rw [if_pos c0, if_neg (by decide), if_pos c0]
  rw [if_neg c0, if_pos rfl, if_neg c0]
  rcases hx with ⟨h1, q, hq, rfl⟩ | ⟨h1, g, hg, rfl⟩
  · subst h1
    rw [if_neg (by decide), rnd_l h hf (by decide), bd_s, nm_k]
    dsimp only
    have key : ∀ s : Int32, (if nI q < 0 then some (0 : Int32) else if (9 : Int32) < nI q then some 0 else nm (if 0 ≤ nI q - rF M 5 (v + 1 + 4 + f) then nI q - rF M 5 (v + 1 + 4 + f) else 0 - (nI q - rF M 5 (v + 1 + 4 + f))) fun x30 => if s < x30 then some 0 else some 1) = some (if decide (¬ s < zap (zo z f 5) (nI q)) = true then 1 else 0) := by
      intro s
      rw [nm_k, ab_st h hz hf hq, if_neg (nI_pos (by omega)), if_neg (show ¬ (9 : Int32) < nI q from nI_nlt hq (by decide))]
      by_cases d : s < zap (zo z f 5) (nI q)
      · rw [if_pos d]; simp [d]
      · rw [if_neg d]; simp [d]
    unfold zpos
    rw [if_pos rfl]
    by_cases c : 0 < zo z f (11 + 1)
    · rw [if_neg (Int32.not_le.mpr c), if_pos c]
      exact key 1
    · rw [if_pos (Int32.not_lt.mp c), if_neg c]
      exact key 3
  · have hcl : (nI g).toNatClampNeg = g := nI_clamp (by omega)
    rw [if_pos h1, at_l hz.1 h hg, bd_s, fal_l h hg (hz.2.1 g hg), bd_s]
    unfold zpos
    rw [if_neg h1, hcl]
    by_cases c1 : zo z g 2 = 0
    · rw [if_pos c1, if_pos (by decide)]
      by_cases c2 : nI g = nI f
      · rw [if_pos c2]; rfl
      · rw [if_neg c2, if_pos c1]; rfl
    rw [if_neg c1, if_neg (by decide)]
    by_cases c2 : nI g = nI f
    · rw [if_neg (fun q => q c2), if_pos c2]; rfl
    rw [if_pos c2, if_neg c2, if_neg c1, nm_k, nm_k, ab_eq h hz hf hg, f_side h hf, f_side h hg]
    dsimp only
    by_cases d : 2 < zap (zo z f 5) (zo z g 5)
    · rw [if_pos d]
      rcases hk with rfl | rfl | rfl | rfl
      · rw [if_pos rfl, if_pos rfl]; simp [d]; rfl
      · exact absurd rfl h1
      · rw [if_neg i20, if_pos rfl, if_pos rfl, if_neg i20, if_pos rfl]; simp [d]
      · rw [if_neg i30, if_neg i32, if_pos rfl, if_neg i30, if_neg i32]
        by_cases s : zo z g 0 = zo z f 0
        · rw [if_pos s]; simp [s]
        · rw [if_neg s]; simp [Ne.symm s]
    · rw [if_neg d]
      rcases hk with rfl | rfl | rfl | rfl
      · rw [if_pos rfl, if_pos rfl]; simp [d]; rfl
      · exact absurd rfl h1
      · rw [if_neg i20, if_pos rfl, if_neg (show ¬ (1 : Int32) = 0 by decide), if_neg i20, if_pos rfl]
        by_cases s : zo z g 0 = zo z f 0
        · rw [if_neg (fun q => q s)]; simp [d, s]
        · rw [if_pos s]; simp [Ne.symm s]
      · rw [if_neg i30, if_neg i32, if_pos rfl, if_neg i30, if_neg i32]
        by_cases s : zo z g 0 = zo z f 0
        · rw [if_pos s]; simp [s]
        · rw [if_neg s]; simp [Ne.symm s]
theorem nob_fal {M : MS} {v : Nat} {z : Nat → Int32} (h : CZ M v z) : F_X0_hasFallen M (v + 15) = some 1 := by
  rw [F_X0_hasFallen, h.2.2.2.1, if_neg (by decide)]
theorem cpos_no1 {M : MS} {v : Nat} {z : Nat → Int32} {kd x : Int32} (h : CZ M v z) : F_X3_isPossible M v (-1) kd x = some 0 := by
  rw [F_X3_isPossible, at_no h (Or.inl (by decide)), bd_s, nob_fal h, bd_s, if_neg (by decide)]
theorem cpos_no2 {M : MS} {v f : Nat} {z : Nat → Int32} {kd x : Int32} (h : CZ M v z) (hz : ZW z) (hf : f < zn z) (hk : ¬ kd = 1) (hx : x < 0 ∨ z 0 ≤ x) : F_X3_isPossible M v (nI f) kd x = some 0 := by
  rw [F_X3_isPossible, at_l hz.1 h hf, bd_s, fal_l h hf (hz.2.1 f hf), bd_s]
  by_cases c0 : zo z f 2 = 0
  · rw [if_pos c0, if_neg (by decide)]
  · rw [if_neg c0, if_pos rfl, if_pos hk, at_no h hx, bd_s, nob_fal h, bd_s, if_pos (by decide)]
theorem lt_le_if {a b : Int32} : (if a < b then a else b) = if a ≤ b then a else b := by
  by_cases h : a < b
  · rw [if_pos h, if_pos (Int32.le_of_lt h)]
  · rw [if_neg h]
    by_cases h2 : a ≤ b
    · rw [if_pos h2]
      exact Int32.le_antisymm (Int32.not_lt.mp h) h2
    · rw [if_neg h2]
theorem closs_l {M : MS} {v f g : Nat} {z : Nat → Int32} (h : CZ M v z) (hf : f < zn z) (hg : g < zn z) : F_X0_lossAt M (v + 1 + 4 + f) (v + 1 + 4 + g) = some (zlost z f g) := by
  have e0 : zo z f 4 + (0 : Int32) = zo z f 4 := Int32.add_zero _
  rw [F_X0_lossAt, rnd_l h hf (by decide), bd_s, nm_k, f_force h hf]
  unfold zlost zfor
  by_cases c2 : 0 < zo z f (11 + 2)
  · rw [if_neg (Int32.not_le.mpr c2), if_pos c2]
    dsimp only
    rw [rnd_l h hf (by decide), bd_s, nm_k]
    by_cases c1 : 0 < zo z f (11 + 1)
    · rw [if_neg (Int32.not_le.mpr c1), if_pos c1, nm_k]; dsimp only; rw [nm_k, f_life h hg, lt_le_if]
    · rw [if_pos (Int32.not_lt.mp c1), if_neg c1]; dsimp only; rw [nm_k, f_life h hg, lt_le_if]
  · rw [if_pos (Int32.not_lt.mp c2), if_neg c2]
    dsimp only
    rw [rnd_l h hf (by decide), bd_s, nm_k, e0]
    by_cases c1 : 0 < zo z f (11 + 1)
    · rw [if_neg (Int32.not_le.mpr c1), if_pos c1, nm_k]; dsimp only; rw [nm_k, f_life h hg, lt_le_if]
    · rw [if_pos (Int32.not_lt.mp c1), if_neg c1]; dsimp only; rw [nm_k, f_life h hg, lt_le_if]
theorem setr_l {M0 M : MS} {v f c : Nat} {R z : Nat → Int32} {x y : Int32} (h : CR M0 v R M z) (hf : f < zn z) (hc : c < 4) (hx : x = nI c) : ∃ M', F_X0_setRounds M (v + 1 + 4 + f) x y = some M' ∧ CR M0 v R M' (zl z f (11 + c) y) := by
  subst hx
  have h1 := CR_set (w := 11 + c) (x := y) h hf (by omega)
  have e2 : cw M v f (11 + c) y = wA M (v + 1 + 4 + f + 11) c y := by
    unfold cw
    rw [if_neg (by omega), if_neg (by omega), if_neg (by omega), if_pos (by omega), show 11 + c - 11 = c by omega]
  rw [e2] at h1
  rw [F_X0_setRounds, if_neg (nI_pos (by omega)), if_neg (show ¬ (4 : Int32) ≤ nI c from nI_ge (b := 4) hc (by decide)), gdb_t (inb_nI hc (by decide)), nI_clamp (by omega), nm_k]
  exact ⟨_, rfl, h1⟩
/-- what an attempt answers, and what comes of it -/
noncomputable def zatR (z : Nat → Int32) (f : Nat) (kd x : Int32) (c : Nat) (r : Int32) : Int32 := if zo z f 2 = 0 then -1 else if zpos z f kd x = true then zdoR z f kd x c r else -1
noncomputable def zat (z : Nat → Int32) (f : Nat) (kd x : Int32) (c : Nat) (r : Int32) : Nat → Int32 := if zo z f 2 = 0 then upd z 4 (z 4 + 1) else if zpos z f kd x = true then zdo z f kd x c r else upd z 4 (z 4 + 1)
theorem catt_l {M0 M : MS} {v f c : Nat} {R z : Nat → Int32} {kd x a3 a4 r : Int32} (h : CR M0 v R M z) (hz : ZW z) (hf : f < zn z) (hx : xok z kd x) (hk : k4 kd) (hc : c < 4) (h3 : kd = 3 → a3 = nI c ∧ a4 = r) : ∃ M', F_X3_attempt M v (nI f) kd x a3 a4 = some (zatR z f kd x c r, M') ∧ CR M0 v R M' (zat z f kd x c r) := by
  have hb := hz.1.2.1
  have fail : ∃ M', (nm (wF M 57 v ((rF M 57 v) + (1 : Int32))) fun M32 => (some ((-1 : Int32), M32))) = some ((-1 : Int32), M') ∧ CR M0 v R M' (upd z 4 (z 4 + 1)) := by
    have h1 := CR_glob (x := z 4 + 1) h (show gpair 57 4 by unfold gpair; omega)
    rw [nm_k, h.2.1.1.2.2.2.2.1]
    exact ⟨_, rfl, h1⟩
  rw [F_X3_attempt, cpos_l h.2.1 hz hf hx hk, bd_s]
  unfold zatR zat
  by_cases c0 : zo z f 2 = 0
  · rw [if_pos c0, if_neg (fun q => q rfl), if_pos c0, if_pos c0]
    exact fail
  rw [if_neg c0, if_neg c0, if_neg c0]
  by_cases c1' : ¬ zpos z f kd x = true
  · rw [if_neg c1', if_neg (fun q => q rfl), if_neg c1', if_neg c1']
    exact fail
  have c1 : zpos z f kd x = true := Classical.not_not.mp c1'
  rw [if_pos c1, if_pos (by decide), if_pos c1, if_pos c1, at_l hz.1 h.2.1 hf, bd_s, nm_k, nm_k, h.2.1.1.2.2.2.1]
  have g1 := CR_glob (x := z 3 + 1) h (show gpair 56 3 by unfold gpair; omega)
  have n1 : zn (upd z 3 (z 3 + 1)) = zn z := zn_up hz.1 (by decide) (by decide)
  rw [f_acts g1.2.1 (by rw [n1]; exact hf)]
  have g2 := CR_set (f := f) (w := 15) (x := zo (upd z 3 (z 3 + 1)) f 15 + 1) g1 (by rw [n1]; exact hf) (by decide)
  have e2 : zl (upd z 3 (z 3 + 1)) f 15 (zo (upd z 3 (z 3 + 1)) f 15 + 1) = zcnt z f := rfl
  rw [e2] at g2
  have e3 : cw (wF M 56 v (z 3 + 1)) v f 15 (zo (upd z 3 (z 3 + 1)) f 15 + 1) = wF (wF M 56 v (z 3 + 1)) 12 (v + 1 + 4 + f) (zo (upd z 3 (z 3 + 1)) f 15 + 1) := rfl
  rw [e3] at g2
  obtain ⟨M7, hM7⟩ : ∃ M7, wF (wF M 56 v (z 3 + 1)) 12 (v + 1 + 4 + f) (zo (upd z 3 (z 3 + 1)) f 15 + 1) = M7 := ⟨_, rfl⟩
  rw [hM7] at g2 ⊢
  have hw := ZW_cnt hz hf
  have nn := (zcnt_n (f := f) hz.1).2.1
  have hf7 : f < zn (zcnt z f) := by rw [nn]; exact hf
  unfold zdoR zdo
  rcases hx with ⟨k1, q, hq, rfl⟩ | ⟨k1, g, hg, rfl⟩
  · subst k1
    rw [if_neg i10, if_pos rfl, if_neg i10, if_neg i12, if_pos rfl, if_neg i10, if_neg i12, if_pos rfl, nm_k, nm_k, ab_st g2.2.1 hw hf7 hq]
    exact ⟨_, rfl, CR_set (w := 5) (x := nI q) g2 hf7 (by decide)⟩
  · have hcl : (nI g).toNatClampNeg = g := nI_clamp (by omega)
    have hg7 : g < zn (zcnt z f) := by rw [nn]; exact hg
    rw [hcl]
    rcases hk with rfl | rfl | rfl | rfl
    · rw [if_pos rfl, if_pos rfl, if_pos rfl, at_l g2.1 g2.2.1 hg7, bd_s, closs_l g2.2.1 hf7 hg7, bd_s, bd_s, nm_k, nm_k, f_life g2.2.1 hg7]
      have g3 := CR_set (f := g) (w := 2) (x := zo (zcnt z f) g 2 - zlost (zcnt z f) f g) g2 hg7 (by decide)
      have e4 : cw M7 v g 2 (zo (zcnt z f) g 2 - zlost (zcnt z f) f g) = wF M7 2 (v + 1 + 4 + g) (zo (zcnt z f) g 2 - zlost (zcnt z f) f g) := rfl
      rw [e4] at g3
      have n3 : zn (zl (zcnt z f) g 2 (zo (zcnt z f) g 2 - zlost (zcnt z f) f g)) = zn (zcnt z f) := CR_n g2
      rw [f_taken g3.2.1 (by rw [n3]; exact hf7)]
      exact ⟨_, rfl, CR_set (f := f) (w := 16) (x := zo (zl (zcnt z f) g 2 (zo (zcnt z f) g 2 - zlost (zcnt z f) f g)) f 16 + zlost (zcnt z f) f g) g3 (by rw [n3]; exact hf7) (by decide)⟩
    · exact absurd rfl k1
    · rw [if_neg i20, if_neg i21, if_pos rfl, if_neg i20, if_pos rfl, if_neg i20, if_pos rfl, at_l g2.1 g2.2.1 hg7, bd_s, F_X0_recover, nm_k, nm_k, f_life g2.2.1 hg7, f_full g2.2.1 hg7, lt_le_if]
      have g3 := CR_set (f := g) (w := 2) (x := zhl (zcnt z f) g) g2 hg7 (by decide)
      have n3 : zn (zl (zcnt z f) g 2 (zhl (zcnt z f) g)) = zn (zcnt z f) := CR_n g2
      obtain ⟨M8, q1, q2⟩ := setr_l (f := g) (c := 3) (x := 3) (y := 0) g3 (by rw [n3]; exact hg7) (by decide) rfl
      have e4 : cw M7 v g 2 (zhl (zcnt z f) g) = wF M7 2 (v + 1 + 4 + g) (if zo (zcnt z f) g 3 ≤ zo (zcnt z f) g 2 + 4 then zo (zcnt z f) g 3 else zo (zcnt z f) g 2 + 4) := rfl
      rw [e4] at q1
      rw [q1, bd_s, bd_s]
      have n8 : zn (zl (zl (zcnt z f) g 2 (zhl (zcnt z f) g)) g (11 + 3) 0) = zn (zcnt z f) := (CR_n g3).trans n3
      rw [at_l q2.1 q2.2.1 (by rw [n8]; exact hg7), bd_s, f_life q2.2.1 (by rw [n8]; exact hg7), zo_zl (by decide) (by decide), if_neg (fun q => absurd q.2 (by decide)), zo_zl (by decide) (by decide), if_pos ⟨rfl, rfl⟩]
      exact ⟨M8, rfl, q2⟩
    · obtain ⟨h3a, h3b⟩ := h3 rfl
      subst h3a
      subst h3b
      rw [if_neg i30, if_neg i31, if_neg i32, if_neg i30, if_neg i32, if_neg i31, if_neg i30, if_neg i32, if_neg i31, at_l g2.1 g2.2.1 hg7, bd_s, F_X0_lengthen, rnd_e g2.2.1 hg7 hc rfl, bd_s, nm_k]
      have e5 : (if zo (zcnt z f) g (11 + c) < a4 then a4 else zo (zcnt z f) g (11 + c)) = if zo (zcnt z f) g (11 + c) ≤ a4 then a4 else zo (zcnt z f) g (11 + c) := by
        by_cases d : zo (zcnt z f) g (11 + c) < a4
        · rw [if_pos d, if_pos (Int32.le_of_lt d)]
        · rw [if_neg d]
          by_cases d2 : zo (zcnt z f) g (11 + c) ≤ a4
          · rw [if_pos d2]; exact Int32.le_antisymm d2 (Int32.not_lt.mp d)
          · rw [if_neg d2]
      rw [e5]
      obtain ⟨M8, q1, q2⟩ := setr_l (f := g) (c := c) (x := nI c) (y := if zo (zcnt z f) g (11 + c) ≤ a4 then a4 else zo (zcnt z f) g (11 + c)) g2 hg7 hc rfl
      rw [q1, bd_s]
      have n8 : zn (zl (zcnt z f) g (11 + c) (if zo (zcnt z f) g (11 + c) ≤ a4 then a4 else zo (zcnt z f) g (11 + c))) = zn (zcnt z f) := CR_n g2
      rw [rnd_e q2.2.1 (by rw [n8]; exact hg7) hc rfl, bd_s, bd2_s, zo_zl (by omega) (by omega), if_pos ⟨rfl, rfl⟩]
      have e6 : zdoR z f 3 (nI g) c a4 = if zo (zcnt z f) g (11 + c) ≤ a4 then a4 else zo (zcnt z f) g (11 + c) := by unfold zdoR; rw [if_neg i30, if_neg i32, if_neg i31, hcl]
      rw [e6]
      exact ⟨M8, rfl, q2⟩

