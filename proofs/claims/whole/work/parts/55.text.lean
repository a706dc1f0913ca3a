/-! the text: the class's automaton -/
def BV (b : Nat → Int32) (t : Nat) : Prop := ∀ i, i < t → ∃ c, 33 ≤ c ∧ c ≤ 126 ∧ b i = nI c
def dgi (x lo hi : Int32) : Bool := decide (¬ x < 48 + lo) && decide (¬ 48 + hi < x)
theorem isD_eq {M : MS} {x lo hi : Int32} : F_X1_isDigit M x lo hi = some (if dgi x lo hi = true then 1 else 0) := by
  rw [F_X1_isDigit]
  unfold dgi
  by_cases h1 : x < 48 + lo
  · simp [h1]
  · by_cases h2 : 48 + hi < x
    · simp [h2]
    · simp [h1, h2]
def kl (c : Int32) : Nat := if c = 115 ∨ c = 109 ∨ c = 104 ∨ c = 105 then 1 else if c = 99 then 2 else if c = 119 ∨ c = 101 then 3 else 0
theorem kl_of {c : Int32} : (kl c = 1 ∧ (c = 115 ∨ c = 109 ∨ c = 104 ∨ c = 105)) ∨ (kl c = 2 ∧ c = 99) ∨ (kl c = 3 ∧ (c = 119 ∨ c = 101)) ∨ (kl c = 0 ∧ ¬ c = 115 ∧ ¬ c = 109 ∧ ¬ c = 104 ∧ ¬ c = 105 ∧ ¬ c = 99 ∧ ¬ c = 119 ∧ ¬ c = 101) := by
  unfold kl
  by_cases h1 : c = 115 ∨ c = 109 ∨ c = 104 ∨ c = 105
  · rw [if_pos h1]; exact Or.inl ⟨rfl, h1⟩
  rw [if_neg h1]
  by_cases h2 : c = 99
  · rw [if_pos h2]; exact Or.inr (Or.inl ⟨rfl, h2⟩)
  rw [if_neg h2]
  by_cases h3 : c = 119 ∨ c = 101
  · rw [if_pos h3]; exact Or.inr (Or.inr (Or.inl ⟨rfl, h3⟩))
  · rw [if_neg h3]; exact Or.inr (Or.inr (Or.inr ⟨rfl, fun q => h1 (Or.inl q), fun q => h1 (Or.inr (Or.inl q)), fun q => h1 (Or.inr (Or.inr (Or.inl q))), fun q => h1 (Or.inr (Or.inr (Or.inr q))), h2, fun q => h3 (Or.inl q), fun q => h3 (Or.inr q)⟩))
def nxl (c : Int32) : Int32 := if kl c = 1 then 1 else if kl c = 2 then 2 else if kl c = 3 then 5 else 6
theorem nxl_1 {c : Int32} (h : kl c = 1) : nxl c = 1 := by unfold nxl; rw [if_pos h]
theorem nxl_2 {c : Int32} (h : kl c = 2) : nxl c = 2 := by unfold nxl; rw [if_neg (by omega), if_pos h]
theorem nxl_3 {c : Int32} (h : kl c = 3) : nxl c = 5 := by unfold nxl; rw [if_neg (by omega), if_neg (by omega), if_pos h]
theorem nxl_0 {c : Int32} (h : kl c = 0) : nxl c = 6 := by unfold nxl; rw [if_neg (by omega), if_neg (by omega), if_neg (by omega)]
theorem nbl_eq {M : MS} {c : Int32} : F_X1_nextBehindLetter M c = some (nxl c) := by
  rcases kl_of (c := c) with ⟨h, q⟩ | ⟨h, q⟩ | ⟨h, q⟩ | ⟨h, q1, q2, q3, q4, q5, q6, q7⟩
  · rw [nxl_1 h]
    rcases q with q | q | q | q <;> subst q <;> rfl
  · rw [nxl_2 h]
    subst q; rfl
  · rw [nxl_3 h]
    rcases q with q | q <;> subst q <;> rfl
  · rw [nxl_0 h, F_X1_nextBehindLetter, if_neg q5, if_neg q7, if_neg q3, if_neg q4, if_neg q2, if_neg q1, if_neg q6]
def nx (s x : Int32) : Int32 := if s = 0 then nxl x else if s = 1 then (if dgi x 0 9 = true then 5 else 6) else if s = 2 then (if dgi x 0 9 = true then 3 else 6) else if s = 3 then (if dgi x 0 3 = true then 4 else 6) else if s = 4 then (if dgi x 1 5 = true then 5 else 6) else if s = 5 then (if x = 59 then 0 else 6) else 6
theorem nb_eq {M : MS} {s x : Int32} : F_X1_nextBehind M s x = some (nx s x) := by
  have key : ∀ (lo hi a c : Int32), (bd (F_X1_isDigit M x lo hi) fun r6 => (if r6 = 0 then (some c) else (some a))) = some (if dgi x lo hi = true then a else c) := by
    intro lo hi a c
    rw [isD_eq, bd_s]
    cases dgi x lo hi <;> rfl
  rw [F_X1_nextBehind]
  unfold nx
  by_cases h0 : s = 0
  · rw [if_pos h0, if_pos h0, nbl_eq]; rfl
  rw [if_neg h0, if_neg h0]
  by_cases h1 : s = 1
  · rw [if_pos h1, if_pos h1, key]
  rw [if_neg h1, if_neg h1]
  by_cases h2 : s = 2
  · rw [if_pos h2, if_pos h2, key]
  rw [if_neg h2, if_neg h2]
  by_cases h3 : s = 3
  · rw [if_pos h3, if_pos h3, key]
  rw [if_neg h3, if_neg h3]
  by_cases h4 : s = 4
  · rw [if_pos h4, if_pos h4, key]
  rw [if_neg h4, if_neg h4]
  by_cases h5 : s = 5
  · rw [if_pos h5, if_pos h5]
    by_cases h6 : x = 59
    · rw [if_neg (fun q => q h6), if_pos h6]
    · rw [if_pos h6, if_neg h6]
  · rw [if_neg h5, if_neg h5]
def CT (M : MS) (t : Nat) (b : Nat → Int32) : Prop := rF M 17 218 = nI t ∧ ∀ i, i < t → rA M 219 i = b i
theorem code_l {M : MS} {t i : Nat} {b : Nat → Int32} (h : CT M t b) (ht : t ≤ 60) (hi : i < t) : F_X1_codeAt M (nI i) = some (b i) := by
  rw [F_X1_codeAt, if_neg (nI_pos (by omega)), h.1, if_neg (nI_ge hi (by omega)), if_neg (show ¬ (60 : Int32) ≤ nI i from nI_ge (b := 60) (by omega) (by decide)), gdb_t (inb_nI (by omega) (by omega)), nI_clamp (by omega), h.2 i hi]
theorem code_no {M : MS} {t i : Nat} {b : Nat → Int32} (h : CT M t b) (hi : t ≤ i) (h2 : i < 1000) : F_X1_codeAt M (nI i) = some 0 := by
  rw [F_X1_codeAt, if_neg (nI_pos (by omega)), h.1, if_pos (nI_le hi (by omega))]
def aw (b : Nat → Int32) : Nat → Int32 → Nat → Int32
  | 0, _, i => nI i
  | d + 1, s, i => if nx s (b i) = 6 then nI i else aw b d (nx s (b i)) (i + 1)
def ae (b : Nat → Int32) : Nat → Int32 → Nat → Int32
  | 0, s, _ => s
  | d + 1, s, i => ae b d (nx s (b i)) (i + 1)
theorem ae_6 {b : Nat → Int32} : ∀ d i, ae b d 6 i = 6
  | 0, _ => rfl
  | d + 1, i => by
    rw [ae]
    have e : nx 6 (b i) = 6 := by unfold nx; rw [if_neg (by decide), if_neg (by decide), if_neg (by decide), if_neg (by decide), if_neg (by decide), if_neg (by decide)]
    rw [e]
    exact ae_6 d (i + 1)
theorem aw_5 {b : Nat → Int32} : ∀ d s i, ae b d s i = 5 → aw b d s i = nI (i + d)
  | 0, _, _, _ => rfl
  | d + 1, s, i, h => by
    rw [ae] at h
    rw [aw]
    by_cases e : nx s (b i) = 6
    · rw [e, ae_6] at h
      exact absurd h (by decide)
    · rw [if_neg e, aw_5 d _ _ h]
      congr 1
      omega
theorem fw_l {M : MS} {t : Nat} {b : Nat → Int32} (h : CT M t b) (ht : t ≤ 60) : ∀ d i k s, i + d = t → d < k → F_X1_firstWrong_l4 M k s (nI i) = some (aw b d s i) := by
  intro d
  induction d with
  | zero =>
    intro i k s hi hk
    obtain ⟨k, rfl⟩ : ∃ q, k = q + 1 := ⟨k - 1, by omega⟩
    rw [F_X1_firstWrong_l4, h.1, if_pos (nI_le (by omega) (by omega)), aw, show i = t by omega]
  | succ d ih =>
    intro i k s hi hk
    obtain ⟨k, rfl⟩ : ∃ q, k = q + 1 := ⟨k - 1, by omega⟩
    rw [F_X1_firstWrong_l4, h.1, if_neg (nI_ge (by omega) (by omega)), code_l h ht (by omega), bd_s, nb_eq, bd_s, aw]
    by_cases e : nx s (b i) = 6
    · rw [if_neg (fun q => q e), if_pos e]
    · rw [if_pos e, if_neg e, nm_k, nI_1]
      exact ih (i + 1) k _ (by omega) (by omega)
theorem ic_l {M : MS} {t : Nat} {b : Nat → Int32} (h : CT M t b) (ht : t ≤ 60) : ∀ d i k s, i + d = t → d < k → F_X1_isComplete_l4 M k s (nI i) = some (if ae b d s i = 5 then 1 else 0) := by
  intro d
  induction d with
  | zero =>
    intro i k s hi hk
    obtain ⟨k, rfl⟩ : ∃ q, k = q + 1 := ⟨k - 1, by omega⟩
    rw [F_X1_isComplete_l4, h.1, if_pos (nI_le (by omega) (by omega)), ae]
    by_cases e : s = 5
    · rw [if_neg (fun q => q e), if_pos e]
    · rw [if_pos e, if_neg e]
  | succ d ih =>
    intro i k s hi hk
    obtain ⟨k, rfl⟩ : ∃ q, k = q + 1 := ⟨k - 1, by omega⟩
    rw [F_X1_isComplete_l4, h.1, if_neg (nI_ge (by omega) (by omega)), code_l h ht (by omega), bd_s, nb_eq, bd_s, ae, nm_k, nI_1]
    exact ih (i + 1) k _ (by omega) (by omega)
theorem cfe_eq {M : MS} {t : Nat} {b : Nat → Int32} (h : CT M t b) (ht : t ≤ 60) : F_X4_firstError M = some (aw b t 0 0) := by
  rw [F_X4_firstError, F_X1_firstWrong, show (0 : Int32) = nI 0 from rfl, fw_l h ht t 0 FU (nI 0) (by omega) (by rw [FU_s]; omega), bd_s]
theorem cic_eq {M : MS} {t : Nat} {b : Nat → Int32} (h : CT M t b) (ht : t ≤ 60) : F_X1_isComplete M = some (if ae b t 0 0 = 5 then 1 else 0) := by
  rw [F_X1_isComplete]
  exact ic_l h ht t 0 FU 0 (by omega) (by rw [FU_s]; omega)
/-- one order: whether it stands, and where it ends (or what is wrong) -/
def oe (b : Nat → Int32) (t i : Nat) : Bool × Nat :=
  if t ≤ i then (false, i) else if kl (b i) = 3 then (true, i + 1)
  else if kl (b i) = 1 then (if i + 1 < t ∧ dgi (b (i + 1)) 0 9 = true then (true, i + 2) else (false, i + 1))
  else if kl (b i) = 2 then (if i + 1 < t ∧ dgi (b (i + 1)) 0 9 = true then (if i + 2 < t ∧ dgi (b (i + 2)) 0 3 = true then (if i + 3 < t ∧ dgi (b (i + 3)) 1 5 = true then (true, i + 4) else (false, i + 3)) else (false, i + 2)) else (false, i + 1))
  else (false, i)
theorem aw_s {b : Nat → Int32} {t i : Nat} {s : Int32} (h : i < t) : aw b (t - i) s i = if nx s (b i) = 6 then nI i else aw b (t - (i + 1)) (nx s (b i)) (i + 1) := by
  rw [show t - i = (t - (i + 1)) + 1 by omega, aw]
theorem ae_s {b : Nat → Int32} {t i : Nat} {s : Int32} (h : i < t) : ae b (t - i) s i = ae b (t - (i + 1)) (nx s (b i)) (i + 1) := by
  rw [show t - i = (t - (i + 1)) + 1 by omega, ae]
def AU (b : Nat → Int32) (t i : Nat) (s : Int32) (o : Bool × Nat) : Prop := (o.1 = true → i ≤ o.2 ∧ o.2 ≤ t ∧ aw b (t - i) s i = aw b (t - o.2) 5 o.2 ∧ ae b (t - i) s i = ae b (t - o.2) 5 o.2) ∧ (o.1 = false → o.2 ≤ t ∧ aw b (t - i) s i = nI o.2 ∧ ¬ ae b (t - i) s i = 5)
theorem AU_5 {b : Nat → Int32} {t i : Nat} (h : i ≤ t) : AU b t i 5 (true, i) := ⟨fun _ => ⟨Nat.le_refl _, h, rfl, rfl⟩, fun q => by cases q⟩
theorem AU_end {b : Nat → Int32} {t : Nat} {s : Int32} (h : ¬ s = 5) : AU b t t s (false, t) := by
  refine ⟨(fun q => by cases q), fun _ => ⟨Nat.le_refl _, ?_, ?_⟩⟩
  · rw [Nat.sub_self, aw]
  · rw [Nat.sub_self, ae]; exact h
theorem AU_bad {b : Nat → Int32} {t i : Nat} {s : Int32} (hi : i < t) (h : nx s (b i) = 6) : AU b t i s (false, i) := by
  refine ⟨(fun q => by cases q), fun _ => ⟨by omega, ?_, ?_⟩⟩
  · rw [aw_s hi, if_pos h]
  · rw [ae_s hi, h, ae_6]; decide
theorem AU_st {b : Nat → Int32} {t i : Nat} {s : Int32} {o : Bool × Nat} (hi : i < t) (h : ¬ nx s (b i) = 6) (h2 : AU b t (i + 1) (nx s (b i)) o) : AU b t i s o := by
  refine ⟨fun q => ?_, fun q => ?_⟩
  · obtain ⟨a, c, d, e⟩ := h2.1 q
    exact ⟨by omega, c, by rw [aw_s hi, if_neg h]; exact d, by rw [ae_s hi]; exact e⟩
  · obtain ⟨a, c, d⟩ := h2.2 q
    exact ⟨a, by rw [aw_s hi, if_neg h]; exact c, by rw [ae_s hi]; exact d⟩
theorem nx0 {x : Int32} : nx 0 x = nxl x := by unfold nx; rw [if_pos rfl]
theorem nx1 {x : Int32} : nx 1 x = if dgi x 0 9 = true then 5 else 6 := by unfold nx; rw [if_neg (by decide), if_pos rfl]
theorem nx2 {x : Int32} : nx 2 x = if dgi x 0 9 = true then 3 else 6 := by unfold nx; rw [if_neg (by decide), if_neg (by decide), if_pos rfl]
theorem nx3 {x : Int32} : nx 3 x = if dgi x 0 3 = true then 4 else 6 := by unfold nx; rw [if_neg (by decide), if_neg (by decide), if_neg (by decide), if_pos rfl]
theorem nx4 {x : Int32} : nx 4 x = if dgi x 1 5 = true then 5 else 6 := by unfold nx; rw [if_neg (by decide), if_neg (by decide), if_neg (by decide), if_neg (by decide), if_pos rfl]
theorem nx5 {x : Int32} : nx 5 x = if x = 59 then 0 else 6 := by unfold nx; rw [if_neg (by decide), if_neg (by decide), if_neg (by decide), if_neg (by decide), if_neg (by decide), if_pos rfl]
/-- a digit wanted in a state -/
theorem AU_dg {b : Nat → Int32} {t i : Nat} {s s' lo hi : Int32} {o : Bool × Nat} (hit : i ≤ t) (hs : ¬ s = 5) (h6 : ¬ s' = 6) (hn : ∀ x, nx s x = if dgi x lo hi = true then s' else 6) (h : i < t → AU b t (i + 1) s' o) : AU b t i s (if i < t ∧ dgi (b i) lo hi = true then o else (false, i)) := by
  by_cases h1 : i < t
  · by_cases h2 : dgi (b i) lo hi = true
    · rw [if_pos ⟨h1, h2⟩]
      refine AU_st h1 (by rw [hn, if_pos h2]; exact h6) ?_
      rw [hn, if_pos h2]
      exact h h1
    · rw [if_neg (fun q => h2 q.2)]
      exact AU_bad h1 (by rw [hn, if_neg h2])
  · rw [if_neg (fun q => h1 q.1)]
    have e : i = t := by omega
    subst e
    exact AU_end hs
theorem au_oe {b : Nat → Int32} {t i : Nat} (hi : i ≤ t) : AU b t i 0 (oe b t i) := by
  unfold oe
  by_cases h0 : t ≤ i
  · rw [if_pos h0]
    have e : i = t := by omega
    subst e
    exact AU_end (by decide)
  rw [if_neg h0]
  have hn : nx 0 (b i) = nxl (b i) := nx0
  by_cases h3 : kl (b i) = 3
  · rw [if_pos h3]
    have e : nx 0 (b i) = 5 := by rw [hn]; unfold nxl; rw [h3]; rfl
    refine AU_st (by omega) (by rw [e]; decide) ?_
    rw [e]
    exact AU_5 (by omega)
  rw [if_neg h3]
  by_cases h1 : kl (b i) = 1
  · rw [if_pos h1]
    have e : nx 0 (b i) = 1 := by rw [hn]; unfold nxl; rw [h1]; rfl
    refine AU_st (by omega) (by rw [e]; decide) ?_
    rw [e]
    exact AU_dg (by omega) (by decide) (by decide) (fun x => nx1) (fun q => AU_5 (by omega))
  rw [if_neg h1]
  by_cases h2 : kl (b i) = 2
  · rw [if_pos h2]
    have e : nx 0 (b i) = 2 := by rw [hn]; unfold nxl; rw [h2]; rfl
    refine AU_st (by omega) (by rw [e]; decide) ?_
    rw [e]
    exact AU_dg (by omega) (by decide) (by decide) (fun x => nx2) (fun q => AU_dg (by omega) (by decide) (by decide) (fun x => nx3) (fun q => AU_dg (by omega) (by decide) (by decide) (fun x => nx4) (fun q => AU_5 (by omega))))
  · rw [if_neg h2]
    exact AU_bad (by omega) (by rw [hn]; unfold nxl; rw [if_neg h1, if_neg h2, if_neg h3])
theorem oe_lt {b : Nat → Int32} {t i : Nat} (h : (oe b t i).1 = true) : i < (oe b t i).2 := by
  unfold oe at h ⊢
  split
  · rename_i q; rw [if_pos q] at h; cases h
  rename_i q; rw [if_neg q] at h
  split
  · omega
  rename_i q; rw [if_neg q] at h
  split
  · rename_i q; rw [if_pos q] at h
    split
    · omega
    · rename_i q; rw [if_neg q] at h; cases h
  rename_i q; rw [if_neg q] at h
  split
  · rename_i q; rw [if_pos q] at h
    split
    · rename_i q; rw [if_pos q] at h
      split
      · rename_i q; rw [if_pos q] at h
        split
        · omega
        · omega
      · omega
    · omega
  · rename_i q; rw [if_neg q] at h; cases h
