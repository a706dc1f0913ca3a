/-! THE CLASS's side: the block at v holds the row of numbers z -/
theorem rF_wF {M : MS} {c v c' v' : Nat} {x : Int32} : rF (wF M c v x) c' v' = if c' = c ∧ v' = v then x else rF M c' v' := rfl
theorem rF_wA {M : MS} {c v u i : Nat} {x : Int32} : rF (wA M v i x) c u = rF M c u := rfl
theorem rA_wF {M : MS} {c v u : Nat} {x : Int32} : rA (wF M c v x) u = rA M u := rfl
theorem rA_wAi {M : MS} {v u i : Nat} {x : Int32} : rA (wA M v i x) u = if u = v then upd (rA M v) i x else rA M u := rfl
def cfo (M : MS) (v f w : Nat) : Int32 := if w < 6 then rF M w (v + 1 + 4 + f) else if w = 6 then rF M 7 (v + 1 + 4 + f) else if w < 11 then rF M (w + 1) (v + 1 + 4 + f) else if w < 15 then rA M (v + 1 + 4 + f + 11) (w - 11) else rF M (w - 3) (v + 1 + 4 + f)
def cw (M : MS) (v f w : Nat) (x : Int32) : MS := if w < 6 then wF M w (v + 1 + 4 + f) x else if w = 6 then wF M 7 (v + 1 + 4 + f) x else if w < 11 then wF M (w + 1) (v + 1 + 4 + f) x else if w < 15 then wA M (v + 1 + 4 + f + 11) (w - 11) x else wF M (w - 3) (v + 1 + 4 + f) x
theorem w_cases (w : Nat) : (w < 6) ∨ (w = 6) ∨ (¬ w < 6 ∧ ¬ w = 6 ∧ w < 11) ∨ (¬ w < 6 ∧ ¬ w = 6 ∧ ¬ w < 11 ∧ w < 15) ∨ (¬ w < 6 ∧ ¬ w = 6 ∧ ¬ w < 11 ∧ ¬ w < 15) := by omega
theorem cfo_1 {M : MS} {v f w : Nat} (h : w < 6) : cfo M v f w = rF M w (v + 1 + 4 + f) := by unfold cfo; rw [if_pos h]
theorem cfo_2 {M : MS} {v f w : Nat} (h : w = 6) : cfo M v f w = rF M 7 (v + 1 + 4 + f) := by unfold cfo; rw [if_neg (by omega), if_pos h]
theorem cfo_3 {M : MS} {v f w : Nat} (h : ¬ w < 6 ∧ ¬ w = 6 ∧ w < 11) : cfo M v f w = rF M (w + 1) (v + 1 + 4 + f) := by unfold cfo; rw [if_neg h.1, if_neg h.2.1, if_pos h.2.2]
theorem cfo_4 {M : MS} {v f w : Nat} (h : ¬ w < 6 ∧ ¬ w = 6 ∧ ¬ w < 11 ∧ w < 15) : cfo M v f w = rA M (v + 1 + 4 + f + 11) (w - 11) := by unfold cfo; rw [if_neg h.1, if_neg h.2.1, if_neg h.2.2.1, if_pos h.2.2.2]
theorem cfo_5 {M : MS} {v f w : Nat} (h : ¬ w < 6 ∧ ¬ w = 6 ∧ ¬ w < 11 ∧ ¬ w < 15) : cfo M v f w = rF M (w - 3) (v + 1 + 4 + f) := by unfold cfo; rw [if_neg h.1, if_neg h.2.1, if_neg h.2.2.1, if_neg h.2.2.2]
/-- a field's cell, and what is written there -/
theorem cfo_wF {M : MS} {v f c g w u : Nat} {x : Int32} (hu : u = v + 1 + 4 + f) : cfo (wF M c u x) v g w = if g = f ∧ ((w < 6 ∧ c = w) ∨ (w = 6 ∧ c = 7) ∨ (6 < w ∧ w < 11 ∧ c = w + 1) ∨ (15 ≤ w ∧ c = w - 3)) then x else cfo M v g w := by
  subst hu
  rcases w_cases w with h | h | h | h | h
  · rw [cfo_1 h, cfo_1 h, rF_wF]
    by_cases e : g = f ∧ c = w
    · rw [if_pos (by omega), if_pos (by omega)]
    · rw [if_neg (by omega), if_neg (by omega)]
  · rw [cfo_2 h, cfo_2 h, rF_wF]
    by_cases e : g = f ∧ c = 7
    · rw [if_pos (by omega), if_pos (by omega)]
    · rw [if_neg (by omega), if_neg (by omega)]
  · rw [cfo_3 h, cfo_3 h, rF_wF]
    by_cases e : g = f ∧ c = w + 1
    · rw [if_pos (by omega), if_pos (by omega)]
    · rw [if_neg (by omega), if_neg (by omega)]
  · rw [cfo_4 h, cfo_4 h, rA_wF, if_neg (by omega)]
  · rw [cfo_5 h, cfo_5 h, rF_wF]
    by_cases e : g = f ∧ c = w - 3
    · rw [if_pos (by omega), if_pos (by omega)]
    · rw [if_neg (by omega), if_neg (by omega)]
theorem cfo_wA {M : MS} {v f c g w u : Nat} {x : Int32} (hu : u = v + 1 + 4 + f + 11) (hg : g < 10) (hf : f < 10) : cfo (wA M u c x) v g w = if g = f ∧ (11 ≤ w ∧ w < 15 ∧ c = w - 11) then x else cfo M v g w := by
  subst hu
  rcases w_cases w with h | h | h | h | h
  · rw [cfo_1 h, cfo_1 h, rF_wA, if_neg (by omega)]
  · rw [cfo_2 h, cfo_2 h, rF_wA, if_neg (by omega)]
  · rw [cfo_3 h, cfo_3 h, rF_wA, if_neg (by omega)]
  · rw [cfo_4 h, cfo_4 h, rA_wAi]
    by_cases e : g = f
    · subst e
      rw [if_pos rfl]
      by_cases e2 : c = w - 11
      · rw [if_pos (by omega), e2, upd_s]
      · rw [if_neg (by omega), upd_n (by omega)]
    · rw [if_neg (by omega), if_neg (by omega)]
  · rw [cfo_5 h, cfo_5 h, rF_wA, if_neg (by omega)]
theorem cfo_cw {M : MS} {v f g w w' : Nat} {x : Int32} (hf : f < 10) (hg : g < 10) (hw : w < 17) (hw' : w' < 17) : cfo (cw M v f w x) v g w' = if g = f ∧ w' = w then x else cfo M v g w' := by
  have key : ∀ (p q : Prop) [Decidable p] [Decidable q] (a b : Int32), (p ↔ q) → (if p then a else b) = if q then a else b := fun p q _ _ a b h => by
    by_cases c : p
    · rw [if_pos c, if_pos (h.mp c)]
    · rw [if_neg c, if_neg (fun r => c (h.mpr r))]
  unfold cw
  rcases w_cases w with h | h | h | h | h
  · rw [if_pos h, cfo_wF rfl]
    exact key _ _ _ _ (by omega)
  · rw [if_neg (by omega), if_pos h, cfo_wF rfl]
    exact key _ _ _ _ (by omega)
  · rw [if_neg h.1, if_neg h.2.1, if_pos h.2.2, cfo_wF rfl]
    exact key _ _ _ _ (by omega)
  · rw [if_neg h.1, if_neg h.2.1, if_neg h.2.2.1, if_pos h.2.2.2, cfo_wA rfl hg hf]
    exact key _ _ _ _ (by omega)
  · rw [if_neg h.1, if_neg h.2.1, if_neg h.2.2.1, if_neg h.2.2.2, cfo_wF rfl]
    exact key _ _ _ _ (by omega)
theorem cw_F {M : MS} {v f w c u : Nat} {x : Int32} (hf : f < 10) (h : u < v + 5 ∨ v + 15 ≤ u) : rF (cw M v f w x) c u = rF M c u := by
  unfold cw
  split
  · rw [rF_wF, if_neg (by omega)]
  split
  · rw [rF_wF, if_neg (by omega)]
  split
  · rw [rF_wF, if_neg (by omega)]
  split
  · rw [rF_wA]
  · rw [rF_wF, if_neg (by omega)]
theorem cw_A {M : MS} {v f w u : Nat} {x : Int32} (hf : f < 10) (h : u < v + 16 ∨ v + 26 ≤ u) : rA (cw M v f w x) u = rA M u := by
  unfold cw
  split
  · rw [rA_wF]
  split
  · rw [rA_wF]
  split
  · rw [rA_wF]
  split
  · rw [rA_wAi, if_neg (by omega)]
  · rw [rA_wF]
theorem cw_R {M : MS} {v f w : Nat} {x : Int32} : (cw M v f w x).2.2 = M.2.2 := by
  unfold cw
  repeat' split
  all_goals rfl
def CZ (M : MS) (v : Nat) (z : Nat → Int32) : Prop :=
  (rF M 52 v = z 0 ∧ rF M 53 v = z 1 ∧ rF M 54 v = z 2 ∧ rF M 56 v = z 3 ∧ rF M 57 v = z 4 ∧ rF M 55 v = z 5) ∧ (rF M 33 (v + 2) = z 0 ∧ ∀ i, i < zn z → rA M (v + 2 + 1) i = z (6 + i)) ∧ (∀ f, f < zn z → ∀ w, w < 17 → cfo M v f w = zo z f w) ∧ rF M 2 (v + 15) = 0 ∧ rF M 7 (v + 15) = 0
def CFR (v : Nat) (M0 M : MS) : Prop := (∀ c u, ¬ (v ≤ u ∧ u < v + 27) → rF M c u = rF M0 c u) ∧ (∀ u, ¬ (v ≤ u ∧ u < v + 27) → rA M u = rA M0 u) ∧ M.2.2 = M0.2.2
def CR (M0 : MS) (v : Nat) (R : Nat → Int32) (M : MS) (z : Nat → Int32) : Prop := Z0 z ∧ CZ M v z ∧ CFR v M0 M ∧ rA M (v + 4) = R
theorem CFR_refl {v : Nat} {M : MS} : CFR v M M := ⟨fun _ _ _ => rfl, fun _ _ => rfl, rfl⟩
theorem CFR_trans {v : Nat} {M M1 M2 : MS} (h1 : CFR v M M1) (h2 : CFR v M1 M2) : CFR v M M2 := ⟨fun c u h => (h2.1 c u h).trans (h1.1 c u h), fun u h => (h2.2.1 u h).trans (h1.2.1 u h), h2.2.2.trans h1.2.2⟩
/-- a fighter's number is written -/
theorem CR_set {M0 M : MS} {v f w : Nat} {R z : Nat → Int32} {x : Int32} (h : CR M0 v R M z) (hf : f < zn z) (hw : w < 17) : CR M0 v R (cw M v f w x) (zl z f w x) := by
  obtain ⟨hz, ⟨⟨a0, a1, a2, a3, a4, a5⟩, ⟨b1, b2⟩, c1, d1, d2⟩, ⟨e1, e2, e3⟩, r⟩ := h
  have hb := hz.2.1
  have hf10 : f < 10 := by omega
  obtain ⟨z1, z2, z3⟩ := Z0_zl (f := f) (w := w) (x := x) hz
  refine ⟨z1, ⟨⟨?_, ?_, ?_, ?_, ?_, ?_⟩, ⟨?_, fun i hi => ?_⟩, fun g hg w' hw' => ?_, ?_, ?_⟩, ⟨fun c u h => ?_, fun u h => ?_, cw_R.trans e3⟩, ?_⟩
  · rw [cw_F hf10 (by omega), zl_lo (by decide), a0]
  · rw [cw_F hf10 (by omega), zl_lo (by decide), a1]
  · rw [cw_F hf10 (by omega), zl_lo (by decide), a2]
  · rw [cw_F hf10 (by omega), zl_lo (by decide), a3]
  · rw [cw_F hf10 (by omega), zl_lo (by decide), a4]
  · rw [cw_F hf10 (by omega), zl_lo (by decide), a5]
  · rw [cw_F hf10 (by omega), zl_lo (by decide), b1]
  · rw [z2] at hi
    rw [cw_A hf10 (by omega), zl_lo (by omega), b2 i hi]
  · rw [z2] at hg
    rw [cfo_cw hf10 (by omega) hw hw', zo_zl hw hw', c1 g hg w' hw']
  · rw [cw_F hf10 (by omega), d1]
  · rw [cw_F hf10 (by omega), d2]
  · rw [cw_F hf10 (by omega), e1 c u h]
  · rw [cw_A hf10 (by omega), e2 u h]
  · rw [cw_A hf10 (by omega), r]
theorem cfo_glob {M : MS} {v f w c : Nat} {x : Int32} : cfo (wF M c v x) v f w = cfo M v f w := by
  rcases w_cases w with h | h | h | h | h
  · rw [cfo_1 h, cfo_1 h, rF_wF, if_neg (by omega)]
  · rw [cfo_2 h, cfo_2 h, rF_wF, if_neg (by omega)]
  · rw [cfo_3 h, cfo_3 h, rF_wF, if_neg (by omega)]
  · rw [cfo_4 h, cfo_4 h, rA_wF]
  · rw [cfo_5 h, cfo_5 h, rF_wF, if_neg (by omega)]
/-- a number of the whole is written: c the class's field, g the row's place -/
def gpair (c g : Nat) : Prop := (c = 53 ∧ g = 1) ∨ (c = 54 ∧ g = 2) ∨ (c = 56 ∧ g = 3) ∨ (c = 57 ∧ g = 4) ∨ (c = 55 ∧ g = 5)
theorem CR_glob {M0 M : MS} {v c g : Nat} {R z : Nat → Int32} {x : Int32} (h : CR M0 v R M z) (hg : gpair c g) : CR M0 v R (wF M c v x) (upd z g x) := by
  obtain ⟨hz, ⟨⟨a0, a1, a2, a3, a4, a5⟩, ⟨b1, b2⟩, c1, d1, d2⟩, ⟨e1, e2, e3⟩, r⟩ := h
  have hb := hz.2.1
  unfold gpair at hg
  obtain ⟨z1, z2, z3⟩ := Z0_up (g := g) (x := x) hz (by omega) (by omega)
  have key : ∀ c' g', gpair c' g' ∨ (c' = 52 ∧ g' = 0) → rF M c' v = z g' → rF (wF M c v x) c' v = upd z g x g' := fun c' g' h1 h2 => by
    unfold gpair at h1
    rw [rF_wF]
    unfold upd
    by_cases e : c' = c
    · rw [if_pos ⟨e, rfl⟩, if_pos (by omega)]
    · rw [if_neg (fun q => e q.1), if_neg (by omega), h2]
  refine ⟨z1, ⟨⟨key 52 0 (Or.inr ⟨rfl, rfl⟩) a0, key 53 1 (by unfold gpair; omega) a1, key 54 2 (by unfold gpair; omega) a2, key 56 3 (by unfold gpair; omega) a3, key 57 4 (by unfold gpair; omega) a4, key 55 5 (by unfold gpair; omega) a5⟩, ⟨?_, fun i hi => ?_⟩, fun f hf w' hw' => ?_, ?_, ?_⟩, ⟨fun c' u h => ?_, fun u h => ?_, e3⟩, r⟩
  · rw [rF_wF, if_neg (by omega), upd_n (by omega), b1]
  · rw [z2] at hi
    rw [rA_wF, upd_n (by omega), b2 i hi]
  · rw [z2] at hf
    rw [cfo_glob, zo_lo (by omega), c1 f hf w' hw']
  · rw [rF_wF, if_neg (by omega), d1]
  · rw [rF_wF, if_neg (by omega), d2]
  · rw [rF_wF, if_neg (by omega), e1 c' u h]
  · rw [rA_wF, e2 u h]
/-- reading -/
theorem at_l {M : MS} {v f : Nat} {z : Nat → Int32} (hz : Z0 z) (h : CZ M v z) (hf : f < zn z) : F_X3_at M v (nI f) = some (v + 1 + 4 + f) := by
  have hb := hz.2.1
  rw [F_X3_at, if_neg (nI_pos (by omega)), h.1.1, if_neg (fun q => by have := (z0_le hz (by omega)).mp q; omega), if_neg (show ¬ (10 : Int32) ≤ nI f from nI_ge (b := 10) (by omega) (by decide)), gdb_t (inb_nI (by omega) (by omega)), nI_clamp (by omega)]
theorem at_no {M : MS} {v : Nat} {z : Nat → Int32} {x : Int32} (h : CZ M v z) (hx : x < 0 ∨ z 0 ≤ x) : F_X3_at M v x = some (v + 15) := by
  rw [F_X3_at]
  by_cases c : x < 0
  · rw [if_pos c]
  · rw [if_neg c, h.1.1, if_pos (hx.resolve_left c)]
theorem fa_w {M : MS} {v f w : Nat} {z : Nat → Int32} (h : CZ M v z) (hf : f < zn z) (hw : w < 17) : cfo M v f w = zo z f w := h.2.2.1 f hf w hw
theorem f_side {M : MS} {v f : Nat} {z : Nat → Int32} (h : CZ M v z) (hf : f < zn z) : rF M 0 (v + 1 + 4 + f) = zo z f 0 := fa_w h hf (w := 0) (by decide)
theorem f_init {M : MS} {v f : Nat} {z : Nat → Int32} (h : CZ M v z) (hf : f < zn z) : rF M 1 (v + 1 + 4 + f) = zo z f 1 := fa_w h hf (w := 1) (by decide)
theorem f_life {M : MS} {v f : Nat} {z : Nat → Int32} (h : CZ M v z) (hf : f < zn z) : rF M 2 (v + 1 + 4 + f) = zo z f 2 := fa_w h hf (w := 2) (by decide)
theorem f_full {M : MS} {v f : Nat} {z : Nat → Int32} (h : CZ M v z) (hf : f < zn z) : rF M 3 (v + 1 + 4 + f) = zo z f 3 := fa_w h hf (w := 3) (by decide)
theorem f_force {M : MS} {v f : Nat} {z : Nat → Int32} (h : CZ M v z) (hf : f < zn z) : rF M 4 (v + 1 + 4 + f) = zo z f 4 := fa_w h hf (w := 4) (by decide)
theorem f_place {M : MS} {v f : Nat} {z : Nat → Int32} (h : CZ M v z) (hf : f < zn z) : rF M 5 (v + 1 + 4 + f) = zo z f 5 := fa_w h hf (w := 5) (by decide)
theorem f_del {M : MS} {v f : Nat} {z : Nat → Int32} (h : CZ M v z) (hf : f < zn z) : rF M 7 (v + 1 + 4 + f) = zo z f 6 := fa_w h hf (w := 6) (by decide)
theorem f_rk {M : MS} {v f : Nat} {z : Nat → Int32} (h : CZ M v z) (hf : f < zn z) : rF M 8 (v + 1 + 4 + f) = zo z f 7 := fa_w h hf (w := 7) (by decide)
theorem f_rg {M : MS} {v f : Nat} {z : Nat → Int32} (h : CZ M v z) (hf : f < zn z) : rF M 9 (v + 1 + 4 + f) = zo z f 8 := fa_w h hf (w := 8) (by decide)
theorem f_rw {M : MS} {v f : Nat} {z : Nat → Int32} (h : CZ M v z) (hf : f < zn z) : rF M 10 (v + 1 + 4 + f) = zo z f 9 := fa_w h hf (w := 9) (by decide)
theorem f_rc {M : MS} {v f : Nat} {z : Nat → Int32} (h : CZ M v z) (hf : f < zn z) : rF M 11 (v + 1 + 4 + f) = zo z f 10 := fa_w h hf (w := 10) (by decide)
theorem f_acts {M : MS} {v f : Nat} {z : Nat → Int32} (h : CZ M v z) (hf : f < zn z) : rF M 12 (v + 1 + 4 + f) = zo z f 15 := fa_w h hf (w := 15) (by decide)
theorem f_taken {M : MS} {v f : Nat} {z : Nat → Int32} (h : CZ M v z) (hf : f < zn z) : rF M 13 (v + 1 + 4 + f) = zo z f 16 := fa_w h hf (w := 16) (by decide)
theorem f_cond {M : MS} {v f c : Nat} {z : Nat → Int32} (h : CZ M v z) (hf : f < zn z) (hc : c < 4) : rA M (v + 1 + 4 + f + 11) c = zo z f (11 + c) := by
  have := fa_w h hf (w := 11 + c) (by omega)
  rw [cfo_4 (by omega), show 11 + c - 11 = c by omega] at this
  exact this
theorem nI_gt0 {l : Nat} (h : l < 2 ^ 31) : 0 < nI l ↔ ¬ nI l = 0 := by
  have e : (0 : Int32) = nI 0 := rfl
  rw [e, nI_ltI (by decide) h, nI_eq h (by decide)]
  omega
theorem fal_l {M : MS} {v f : Nat} {z : Nat → Int32} (h : CZ M v z) (hf : f < zn z) (hw : fw z f) : F_X0_hasFallen M (v + 1 + 4 + f) = some (if zo z f 2 = 0 then 1 else 0) := by
  obtain ⟨l, hl, e⟩ := hw.2.1
  rw [F_X0_hasFallen, f_life h hf, e]
  by_cases c : nI l = 0
  · rw [if_pos c, if_neg (fun q => (nI_gt0 (by omega)).mp q c)]
  · rw [if_neg c, if_pos ((nI_gt0 (by omega)).mpr c)]
theorem rnd_e {M : MS} {v f c : Nat} {z : Nat → Int32} {x : Int32} (h : CZ M v z) (hf : f < zn z) (hc : c < 4) (hx : x = nI c) : F_X0_roundsOf M (v + 1 + 4 + f) x = some (zo z f (11 + c)) := by
  subst hx
  rw [F_X0_roundsOf, if_neg (nI_pos (by omega)), if_neg (show ¬ (4 : Int32) ≤ nI c from nI_ge (b := 4) hc (by decide)), gdb_t (inb_nI hc (by decide)), nI_clamp (by omega), f_cond h hf hc]
theorem rnd_l {M : MS} {v f c : Nat} {z : Nat → Int32} (h : CZ M v z) (hf : f < zn z) (hc : c < 4) : F_X0_roundsOf M (v + 1 + 4 + f) (OfNat.ofNat c) = some (zo z f (11 + c)) := rnd_e h hf hc rfl
/-- the row -/
theorem nat_l {M : MS} {v i : Nat} {z : Nat → Int32} (hz : Z0 z) (h : CZ M v z) (hi : i < zn z) : F_X2_numberAt M (v + 2) (nI i) = some (z (6 + i)) := by
  have hb := hz.2.1
  rw [F_X2_numberAt, if_neg (nI_pos (by omega)), h.2.1.1, if_neg (fun q => by have := (z0_le hz (by omega)).mp q; omega), if_neg (show ¬ (10 : Int32) ≤ nI i from nI_ge (b := 10) (by omega) (by decide)), gdb_t (inb_nI (by omega) (by omega)), nI_clamp (by omega), h.2.1.2 i hi]
theorem nat_no {M : MS} {v : Nat} {z : Nat → Int32} {x : Int32} (h : CZ M v z) (hx : z 0 ≤ x) : F_X2_numberAt M (v + 2) x = some (-1) := by
  rw [F_X2_numberAt]
  by_cases c : x < 0
  · rw [if_pos c]
  · rw [if_neg c, h.2.1.1, if_pos hx]
theorem cplace_l {M : MS} {v f : Nat} {z : Nat → Int32} (hz : Z0 z) (h : CZ M v z) (hf : f < zn z) : ∀ d i k, i + d = zpn z f → d < k → F_X2_placeOf_l2 (v + 2) (nI f) M k (nI i) = some (nI (zpn z f)) := by
  have hb := hz.2.1
  obtain ⟨p1, p2, p3⟩ := zpn_lt hz hf
  intro d
  induction d with
  | zero =>
    intro i k hi hk
    obtain ⟨k, rfl⟩ : ∃ q, k = q + 1 := ⟨k - 1, by omega⟩
    have e : i = zpn z f := by omega
    subst e
    rw [F_X2_placeOf_l2, h.2.1.1, if_neg (fun q => by have := (z0_le hz (by omega)).mp q; omega), nat_l hz h p1, bd_s, (hz.2.2.1 _ p1).1, p3, if_neg (fun q => q rfl)]
  | succ d ih =>
    intro i k hi hk
    obtain ⟨k, rfl⟩ : ∃ q, k = q + 1 := ⟨k - 1, by omega⟩
    have hne : ¬ z (6 + i) = nI f := fun q => by
      rw [(hz.2.2.1 i (by omega)).1] at q
      have := hz.2.2.2 i (zpn z f) (by omega) p1 (by rw [p3]; exact (nI_eq (by have := (hz.2.2.1 i (by omega)).2; omega) (by omega)).mp q)
      omega
    rw [F_X2_placeOf_l2, h.2.1.1, if_neg (fun q => by have := (z0_le hz (by omega)).mp q; omega), nat_l hz h (by omega), bd_s, if_pos hne, nm_k, nI_1]
    exact ih (i + 1) k (by omega) (by omega)
theorem cplace_eq {M : MS} {v f : Nat} {z : Nat → Int32} (hz : Z0 z) (h : CZ M v z) (hf : f < zn z) : F_X2_placeOf M (v + 2) (nI f) = some (nI (zpn z f)) := by
  have hb := hz.2.1
  have := (zpn_lt hz hf).1
  rw [F_X2_placeOf]
  exact cplace_l hz h hf (zpn z f) 0 FU (by omega) (by rw [FU_s]; omega)
theorem cnext_l {M : MS} {v : Nat} {z : Nat → Int32} (hz : ZW z) (h : CZ M v z) : ∀ d p k, p + d = zn z → d < k → F_X3_nextFrom_l2 v M k (nI p) = some (znx z d p) := by
  have hb := hz.1.2.1
  intro d
  induction d with
  | zero =>
    intro p k hp hk
    obtain ⟨k, rfl⟩ : ∃ q, k = q + 1 := ⟨k - 1, by omega⟩
    rw [F_X3_nextFrom_l2, h.2.1.1, if_pos ((z0_le hz.1 (by omega)).mpr (by omega)), znx]
  | succ d ih =>
    intro p k hp hk
    obtain ⟨k, rfl⟩ : ∃ q, k = q + 1 := ⟨k - 1, by omega⟩
    obtain ⟨hr1, hr2⟩ := hz.1.2.2.1 p (by omega)
    rw [F_X3_nextFrom_l2, h.2.1.1, if_neg (fun q => by have := (z0_le hz.1 (by omega)).mp q; omega), nat_l hz.1 h (by omega), bd_s, hr1, at_l hz.1 h hr2, bd_s, fal_l h hr2 (hz.2.1 _ hr2), bd_s, znx]
    by_cases h1 : zo z (zrow z p) 2 = 0
    · rw [if_pos h1, if_pos (by decide), nm_k, nI_1, if_neg (fun q => q.1 h1)]
      exact ih (p + 1) k (by omega) (by omega)
    · rw [if_neg h1, if_neg (by decide), f_del h hr2]
      by_cases h2 : zo z (zrow z p) 6 = 0
      · rw [if_neg (fun q => q h2), bd_s, if_pos ⟨h1, h2⟩, hr1]
      · rw [if_pos h2, nm_k, nI_1, if_neg (fun q => h2 q.2)]
        exact ih (p + 1) k (by omega) (by omega)
theorem cnext_eq {M : MS} {v p : Nat} {z : Nat → Int32} (hz : ZW z) (h : CZ M v z) (hp : p ≤ zn z) : F_X3_nextFrom M v (nI p) = some (znx z (zn z - p) p) := by
  have hb := hz.1.2.1
  rw [F_X3_nextFrom]
  exact cnext_l hz h _ p FU (by omega) (by rw [FU_s]; omega)

