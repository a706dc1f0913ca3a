theorem tn0 : Int32.toNatClampNeg 0 = 0 := by decide
theorem tn1 : Int32.toNatClampNeg 1 = 1 := by decide
theorem tn2 : Int32.toNatClampNeg 2 = 2 := by decide
theorem tn3 : Int32.toNatClampNeg 3 = 3 := by decide
theorem tn4 : Int32.toNatClampNeg 4 = 4 := by decide
theorem tn5 : Int32.toNatClampNeg 5 = 5 := by decide
theorem in0 : inb 0 186 = true := by decide
theorem in1 : inb 1 186 = true := by decide
theorem in2 : inb 2 186 = true := by decide
theorem in3 : inb 3 186 = true := by decide
theorem in4 : inb 4 186 = true := by decide
theorem in5 : inb 5 186 = true := by decide
theorem gd0 {α : Type} {k : Option α} : gdb (inb 0 186) k = k := gdb_t in0
theorem gd1 {α : Type} {k : Option α} : gdb (inb 1 186) k = k := gdb_t in1
theorem gd2 {α : Type} {k : Option α} : gdb (inb 2 186) k = k := gdb_t in2
theorem gd3 {α : Type} {k : Option α} : gdb (inb 3 186) k = k := gdb_t in3
theorem gd4 {α : Type} {k : Option α} : gdb (inb 4 186) k = k := gdb_t in4
theorem gd5 {α : Type} {k : Option α} : gdb (inb 5 186) k = k := gdb_t in5
theorem z0_le {z : Nat → Int32} {i : Nat} (hz : Z0 z) (hi : i < 1000) : z 0 ≤ nI i ↔ zn z ≤ i := by
  rw [hz.1]
  exact nI_leI (by have := hz.2.1; omega) (by omega)
theorem ne1 (n : Nat) (h : n < 2 ^ 31) : ¬ nI n = -1 := by
  intro e
  have h1 := nI_pos' h
  rw [e] at h1
  exact absurd h1 (by decide)
/-- two rows of numbers alike below 16, and where fighters' numbers lie -/
theorem Z0_of {z z' : Nat → Int32} (hz : Z0 z) (h : ∀ i, i < 16 → i ≠ 1 → i ≠ 2 → i ≠ 3 → i ≠ 4 → i ≠ 5 → z' i = z i) : Z0 z' ∧ zn z' = zn z ∧ ∀ i, i < zn z → zrow z' i = zrow z i := by
  have h0 : z' 0 = z 0 := h 0 (by omega) (by omega) (by omega) (by omega) (by omega) (by omega)
  have hn : zn z' = zn z := by unfold zn; rw [h0]
  have hb := hz.2.1
  have hr : ∀ i, i < zn z → z' (6 + i) = z (6 + i) := fun i hi => h (6 + i) (by omega) (by omega) (by omega) (by omega) (by omega) (by omega)
  have hr2 : ∀ i, i < zn z → zrow z' i = zrow z i := fun i hi => by unfold zrow; rw [hr i hi]
  refine ⟨⟨by rw [h0, hn]; exact hz.1, by rw [hn]; exact hb, fun i hi => ?_, fun i j hi hj e => ?_⟩, hn, hr2⟩
  · rw [hn] at hi
    rw [hr i hi, hr2 i hi, hn]
    exact hz.2.2.1 i hi
  · rw [hn] at hi hj
    rw [hr2 i hi, hr2 j hj] at e
    exact hz.2.2.2 i j hi hj e
theorem Z0_zl {z : Nat → Int32} {f w : Nat} {x : Int32} (hz : Z0 z) : Z0 (zl z f w x) ∧ zn (zl z f w x) = zn z ∧ ∀ i, i < zn z → zrow (zl z f w x) i = zrow z i := Z0_of hz (fun i hi _ _ _ _ _ => zl_lo hi)
theorem Z0_up {z : Nat → Int32} {g : Nat} {x : Int32} (hz : Z0 z) (h1 : 1 ≤ g) (h2 : g ≤ 5) : Z0 (upd z g x) ∧ zn (upd z g x) = zn z ∧ ∀ i, i < zn z → zrow (upd z g x) i = zrow z i := Z0_of hz (fun i hi a b c d e => upd_n (by omega))
/-- nobody delays -/
def zdel (z : Nat → Int32) : Nat → (Nat → Int32)
  | 0 => z
  | m + 1 => zl (zdel z m) m 6 0
theorem zdel_lo {z : Nat → Int32} {i : Nat} (h : i < 16) : ∀ m, zdel z m i = z i
  | 0 => rfl
  | m + 1 => by rw [zdel, zl_lo h, zdel_lo h m]
theorem zdel_o {z : Nat → Int32} {f w : Nat} (hw : w < 17) : ∀ m, zo (zdel z m) f w = if f < m ∧ w = 6 then 0 else zo z f w
  | 0 => by simp [zdel]
  | m + 1 => by
    rw [zdel, zo_zl (by decide) hw, zdel_o hw m]
    by_cases h : f = m ∧ w = 6
    · rw [if_pos h, if_pos ⟨by omega, h.2⟩]
    · rw [if_neg h]
      by_cases h2 : f < m ∧ w = 6
      · rw [if_pos h2, if_pos ⟨by omega, h2.2⟩]
      · rw [if_neg h2, if_neg (by omega)]
/-- who comes next from a place on -/
def znx (z : Nat → Int32) : Nat → Nat → Int32
  | 0, _ => -1
  | m + 1, p => if ¬ zo z (zrow z p) 2 = 0 ∧ zo z (zrow z p) 6 = 0 then z (6 + p) else znx z m (p + 1)
theorem znx_range {z : Nat → Int32} (hz : Z0 z) : ∀ d p, p + d = zn z → znx z d p = -1 ∧ (∀ i, p ≤ i → i < zn z → ¬ (¬ zo z (zrow z i) 2 = 0 ∧ zo z (zrow z i) 6 = 0)) ∨ ∃ i, p ≤ i ∧ i < zn z ∧ znx z d p = nI (zrow z i) ∧ ¬ zo z (zrow z i) 2 = 0 ∧ zo z (zrow z i) 6 = 0 := by
  intro d
  induction d with
  | zero => intro p h; exact Or.inl ⟨rfl, fun i h1 h2 => by omega⟩
  | succ d ih =>
    intro p h
    rw [znx]
    by_cases c : ¬ zo z (zrow z p) 2 = 0 ∧ zo z (zrow z p) 6 = 0
    · rw [if_pos c]
      exact Or.inr ⟨p, Nat.le_refl _, by omega, (hz.2.2.1 p (by omega)).1, c.1, c.2⟩
    · rw [if_neg c]
      rcases ih (p + 1) (by omega) with ⟨h1, h2⟩ | ⟨i, h1, h2, h3⟩
      · refine Or.inl ⟨h1, fun i g1 g2 => ?_⟩
        by_cases e : i = p
        · subst e; exact c
        · exact h2 i (by omega) g2
      · exact Or.inr ⟨i, by omega, h2, h3⟩
/-- a readied act is lost -/
def zlose (z : Nat → Int32) (f : Nat) : Nat → Int32 := zl (zl (zl (zl z f 7 (-1)) f 8 (-1)) f 9 (-1)) f 10 (-1)
theorem zlose_lo {z : Nat → Int32} {f i : Nat} (h : i < 16) : zlose z f i = z i := by simp only [zlose, zl_lo h]
theorem zlose_o {z : Nat → Int32} {f f' w : Nat} (hw : w < 17) : zo (zlose z f) f' w = if f' = f ∧ 7 ≤ w ∧ w ≤ 10 then -1 else zo z f' w := by
  unfold zlose
  rw [zo_zl (by decide) hw, zo_zl (by decide) hw, zo_zl (by decide) hw, zo_zl (by decide) hw]
  by_cases e : f' = f
  · rcases (show w = 7 ∨ w = 8 ∨ w = 9 ∨ w = 10 ∨ w < 7 ∨ 10 < w by omega) with h | h | h | h | h | h
    · simp [e, h]
    · simp [e, h]
    · simp [e, h]
    · simp [e, h]
    · rw [if_neg (by omega), if_neg (by omega), if_neg (by omega), if_neg (by omega), if_neg (by omega)]
    · rw [if_neg (by omega), if_neg (by omega), if_neg (by omega), if_neg (by omega), if_neg (by omega)]
  · simp [e]
/-- each condition has one round less -/
def zpass (z : Nat → Int32) (f : Nat) : Nat → (Nat → Int32)
  | 0 => z
  | c + 1 => zl (zpass z f c) f (11 + c) (if 0 < zo z f (11 + c) then zo z f (11 + c) - 1 else 0)
theorem zpass_lo {z : Nat → Int32} {f i : Nat} (h : i < 16) : ∀ c, zpass z f c i = z i
  | 0 => rfl
  | c + 1 => by rw [zpass, zl_lo h, zpass_lo h c]
theorem zpass_o {z : Nat → Int32} {f f' w : Nat} (hw : w < 17) : ∀ c, c ≤ 4 → zo (zpass z f c) f' w = if f' = f ∧ 11 ≤ w ∧ w < 11 + c then (if 0 < zo z f w then zo z f w - 1 else 0) else zo z f' w
  | 0, _ => by rw [zpass, if_neg (by omega)]
  | c + 1, hc => by
    rw [zpass, zo_zl (by omega) hw, zpass_o hw c (by omega)]
    by_cases h : f' = f ∧ w = 11 + c
    · rw [if_pos h, if_pos (show f' = f ∧ 11 ≤ w ∧ w < 11 + (c + 1) from ⟨h.1, by omega, by omega⟩), h.2]
    · rw [if_neg h]
      by_cases h2 : f' = f ∧ 11 ≤ w ∧ w < 11 + c
      · rw [if_pos h2, if_pos (show f' = f ∧ 11 ≤ w ∧ w < 11 + (c + 1) from ⟨h2.1, h2.2.1, by omega⟩)]
      · rw [if_neg h2, if_neg (show ¬ (f' = f ∧ 11 ≤ w ∧ w < 11 + (c + 1)) by omega)]
/-- all have fallen -/
def zall (z : Nat → Int32) : Nat → Bool
  | 0 => true
  | m + 1 => zall z m && decide (zo z m 2 = 0)
theorem zall_iff {z : Nat → Int32} : ∀ m, zall z m = true ↔ ∀ f, f < m → zo z f 2 = 0
  | 0 => by simp [zall]
  | m + 1 => by
    rw [zall, Bool.and_eq_true, zall_iff m, decide_eq_true_eq]
    constructor
    · intro ⟨h1, h2⟩ f hf
      by_cases e : f = m
      · rw [e]; exact h2
      · exact h1 f (by omega)
    · intro h
      exact ⟨fun f hf => h f (by omega), h m (by omega)⟩
/-- the place in the row -/
def zpl (z : Nat → Int32) (f : Int32) : Nat → Int32
  | 0 => -1
  | m + 1 => if z (6 + m) = f then nI m else zpl z f m
theorem zpl_at {z : Nat → Int32} (hz : Z0 z) {i : Nat} (hi : i < zn z) : zpl z (nI (zrow z i)) (zn z) = nI i := by
  have hb := hz.2.1
  have key : ∀ m, i < m → m ≤ zn z → zpl z (nI (zrow z i)) m = nI i := by
    intro m
    induction m with
    | zero => intro h; omega
    | succ m ih =>
      intro h1 h2
      rw [zpl]
      obtain ⟨g1, g2⟩ := hz.2.2.1 m (by omega)
      obtain ⟨g3, g4⟩ := hz.2.2.1 i hi
      by_cases e : i = m
      · subst e
        rw [if_pos g1]
      · rw [if_neg (fun q => e ?_)]
        · exact ih (by omega) (by omega)
        · rw [g1] at q
          exact (hz.2.2.2 m i (by omega) hi ((nI_eq (by omega) (by omega)).mp q)).symm
  exact key (zn z) hi (Nat.le_refl _)
/-- everyone stands in the row -/
theorem zrow_onto {z : Nat → Int32} (hz : Z0 z) {f : Nat} (hf : f < zn z) : ∃ i, i < zn z ∧ zrow z i = f := by
  obtain ⟨i, h1, h2⟩ := fb_onto0 (n := zn z) (f := zrow z) (fun i hi => (hz.2.2.1 i hi).2) (fun i j hi hj e => hz.2.2.2 i j hi hj e) hf
  exact ⟨i, h1, h2⟩

