/-! the law's first rows -/
theorem fin_eq {a : Nat → Int32} {x : Int32} {m T : Nat} (h1 : T ≤ m) (h2 : ∀ i, i < T → ¬ a i < x) (h3 : T < m → a T < x) : fin a x m 0 = T := by
  obtain ⟨_, f2, f3, f4⟩ := fin_ok (a := a) (x := x) m 0
  obtain ⟨t, ht⟩ : ∃ t, fin a x m 0 = t := ⟨_, rfl⟩
  rw [ht] at f2 f3 f4 ⊢
  by_cases c : t < T
  · exact absurd (f4 (by omega)) (h2 t c)
  · by_cases d : T < t
    · exact absurd (h3 (by omega)) (f3 T (Nat.zero_le _) d)
    · omega
/-- how begin's row grows by one -/
theorem br_e {I : Nat → Int32} {m t : Nat} (ht : fin (fun p => I (br I m p)) (I m) m 0 = t) (i : Nat) : br I (m + 1) i = if i = t then m else if t < i ∧ i ≤ m then br I m (i - 1) else br I m i := by
  rw [br, ht]
  rfl
theorem cnt_br {I : Nat → Int32} : ∀ m x, zct (fun g => decide (x ≤ I g)) m = fin (fun p => I (br I m p)) x m 0
  | 0, _ => rfl
  | m + 1, x => by
    have ih := cnt_br (I := I) m x
    obtain ⟨_, f2, f3, f4⟩ := fin_ok (a := fun p => I (br I m p)) (x := I m) m 0
    obtain ⟨_, g2, g3, g4⟩ := fin_ok (a := fun p => I (br I m p)) (x := x) m 0
    obtain ⟨t, ht⟩ : ∃ t, fin (fun p => I (br I m p)) (I m) m 0 = t := ⟨_, rfl⟩
    obtain ⟨T, hT⟩ : ∃ T, fin (fun p => I (br I m p)) x m 0 = T := ⟨_, rfl⟩
    rw [hT] at ih g2 g3 g4
    rw [ht] at f2 f3 f4
    have e := br_e ht
    rw [zct, ih]
    by_cases c : x ≤ I m
    · rw [if_pos (by simpa using c)]
      have htT : t ≤ T := by
        by_cases q : T < t
        · have q1 : I (br I m T) < x := g4 (by omega)
          have q2 : ¬ I (br I m T) < I m := f3 T (Nat.zero_le _) q
          rw [Int32.lt_iff_toInt_lt] at q1 q2
          rw [Int32.le_iff_toInt_le] at c
          omega
        · omega
      refine (fin_eq (by omega) (fun i hi => ?_) (fun h => ?_)).symm
      · show ¬ I (br I (m + 1) i) < x
        rw [e i]
        by_cases c1 : i = t
        · rw [if_pos c1]; exact Int32.not_lt.mpr c
        · rw [if_neg c1]
          by_cases c2 : t < i ∧ i ≤ m
          · rw [if_pos c2]; exact g3 (i - 1) (Nat.zero_le _) (by omega)
          · rw [if_neg c2]; exact g3 i (Nat.zero_le _) (by omega)
      · show I (br I (m + 1) (T + 1)) < x
        rw [e (T + 1), if_neg (by omega), if_pos (by omega)]
        exact g4 (by omega)
    · rw [if_neg (by simpa using c)]
      have hTt : T ≤ t := by
        by_cases q : t < T
        · have q1 : I (br I m t) < I m := f4 (by omega)
          have q2 : ¬ I (br I m t) < x := g3 t (Nat.zero_le _) q
          rw [Int32.lt_iff_toInt_lt] at q1 q2
          rw [Int32.le_iff_toInt_le] at c
          omega
        · omega
      refine (fin_eq (by omega) (fun i hi => ?_) (fun h => ?_)).symm
      · show ¬ I (br I (m + 1) i) < x
        rw [e i, if_neg (by omega), if_neg (by omega)]
        exact g3 i (Nat.zero_le _) hi
      · show I (br I (m + 1) T) < x
        rw [e T]
        by_cases c1 : T = t
        · rw [if_pos c1]; exact Int32.not_le.mp c
        · rw [if_neg c1, if_neg (by omega)]
          exact g4 (by omega)
theorem zct_cg {p q : Nat → Bool} : ∀ m, (∀ g, g < m → p g = q g) → zct p m = zct q m
  | 0, _ => rfl
  | m + 1, h => by rw [zct, zct, h m (by omega), zct_cg m (fun g hg => h g (by omega))]
/-- who stands ahead of one in the row -/
def pb (I : Nat → Int32) (f g : Nat) : Bool := decide (I f < I g) || (decide (g < f) && decide (I g = I f))
theorem br_at {I : Nat → Int32} : ∀ m f, f < m → zct (pb I f) m < m ∧ br I m (zct (pb I f) m) = f
  | 0, f, h => by omega
  | m + 1, f, hf => by
    have ih := br_at (I := I) m
    obtain ⟨b1, b2, b3⟩ := br_ok (I := I) m
    obtain ⟨_, f2, f3, f4⟩ := fin_ok (a := fun p => I (br I m p)) (x := I m) m 0
    have hc := cnt_br (I := I) m (I m)
    obtain ⟨t, ht⟩ : ∃ t, fin (fun p => I (br I m p)) (I m) m 0 = t := ⟨_, rfl⟩
    rw [ht] at f2 f3 f4 hc
    have e := br_e ht
    rw [zct]
    by_cases q : f = m
    · subst q
      have e1 : pb I f f = false := by
        unfold pb
        have : ¬ I f < I f := fun q => Int32.lt_irrefl q
        simp [this]
      have e2 : zct (pb I f) f = t := by
        rw [← hc]
        refine zct_cg f (fun g hg => ?_)
        unfold pb
        have : (I f < I g ∨ g < f ∧ I g = I f) ↔ I f ≤ I g := by
          rw [Int32.lt_iff_toInt_lt, Int32.le_iff_toInt_le]
          constructor
          · rintro (h | ⟨_, h⟩)
            · omega
            · rw [h]; exact Int.le_refl _
          · intro h
            by_cases c : (I f).toInt < (I g).toInt
            · exact Or.inl c
            · exact Or.inr ⟨hg, Int32.toInt_inj.mp (by omega)⟩
        rw [Bool.eq_iff_iff, Bool.or_eq_true, Bool.and_eq_true, decide_eq_true_eq, decide_eq_true_eq, decide_eq_true_eq, decide_eq_true_eq]
        exact this
      rw [e1, if_neg (by decide), e2, e t, if_pos rfl]
      exact ⟨by omega, rfl⟩
    · obtain ⟨i1, i2⟩ := ih f (by omega)
      obtain ⟨Q, hQ⟩ : ∃ Q, zct (pb I f) m = Q := ⟨_, rfl⟩
      rw [hQ] at i1 i2 ⊢
      by_cases c : I f < I m
      · have e1 : pb I f m = true := by unfold pb; simp [c]
        have : t ≤ Q := by
          by_cases g : Q < t
          · have q2 : ¬ I (br I m Q) < I m := f3 Q (Nat.zero_le _) g
            rw [i2] at q2
            exact absurd c q2
          · omega
        rw [if_pos e1, e (Q + 1), if_neg (by omega), if_pos (by omega)]
        exact ⟨by omega, i2⟩
      · have e1 : pb I f m = false := by
          unfold pb
          have : ¬ m < f := by omega
          simp [c, this]
        have : Q < t := by
          by_cases g : Q < t
          · exact g
          · have q4 : I (br I m t) < I m := f4 (by omega)
            have q5 : I (br I m Q) ≤ I (br I m t) := by
              by_cases g2 : Q = t
              · rw [g2]; exact Int32.le_refl _
              · exact b3 t Q (by omega) i1
            rw [i2] at q5
            rw [Int32.lt_iff_toInt_lt] at q4 c
            rw [Int32.le_iff_toInt_le] at q5
            omega
        rw [if_neg (by rw [e1]; decide), e Q, if_neg (by omega), if_neg (by omega)]
        exact ⟨by omega, i2⟩
/-- forget, told -/
def fgt (M : MS) (f : Nat) : MS := wA (wA (wA (wA M 220 (8 * f + 4) (-1)) 220 (8 * f + 5) (-1)) 220 (8 * f + 6) (-1)) 220 (8 * f + 7) (-1)
theorem forget_eq {M : MS} {f : Nat} (hf : f < 6) : F_L_forget M (nI f) = some (fgt M f) := by
  rw [F_L_forget, FU_s, F_L_forget_l2, if_neg (by decide), ix84, gdb_t (inb_nI (by omega) (by decide)), nI_clamp (by omega), nm_k, nm_k, show (4 : Int32) + 1 = 5 by decide]
  rw [F_L_forget_l2, if_neg (by decide), ix85, gdb_t (inb_nI (by omega) (by decide)), nI_clamp (by omega), nm_k, nm_k, show (5 : Int32) + 1 = 6 by decide]
  rw [F_L_forget_l2, if_neg (by decide), ix86, gdb_t (inb_nI (by omega) (by decide)), nI_clamp (by omega), nm_k, nm_k, show (6 : Int32) + 1 = 7 by decide]
  rw [F_L_forget_l2, if_neg (by decide), ix87, gdb_t (inb_nI (by omega) (by decide)), nI_clamp (by omega), nm_k, nm_k, show (7 : Int32) + 1 = 8 by decide]
  rw [F_L_forget_l2, if_pos (by decide)]
  rfl
/-- the count -/
theorem l150_ok {M : MS} {z : Nat → Int32} {f : Nat} {K : Int32 → MS → Option Int32} (hS : SJ M z) (h6 : zn z ≤ 6) (hf : f < zn z) : ∀ d g k, g + d = zn z → d < k → F_L_law_l150 (nI (zn z)) (nI f) K k (nI (zct (pb (zI z) f) g)) (nI g) M = K (nI (f + 1)) (wA M 222 (zct (pb (zI z) f) (zn z)) (nI f)) := by
  have hfi : ∀ g, g < zn z → F_X4_fighter M (nI g) 1 = some (0, zI z g, M) := fun g hg => by
    rw [nI_lit 1, q_fighter hS hg (by decide), tl_lo (by decide)]
    rfl
  intro d
  induction d with
  | zero =>
    intro g k hg hk
    obtain ⟨k, rfl⟩ : ∃ q, k = q + 1 := ⟨k - 1, by omega⟩
    have e : g = zn z := by omega
    subst e
    have := (br_at (I := zI z) (zn z) f hf).1
    rw [F_L_law_l150, if_pos (nI_le (Nat.le_refl _) (by omega)), gdb_t (inb_nI (by omega) (by decide)), nI_clamp (by omega), nm_k, nm_k, nI_1]
  | succ d ih =>
    intro g k hg hk
    obtain ⟨k, rfl⟩ : ∃ q, k = q + 1 := ⟨k - 1, by omega⟩
    have h1 := ih (g + 1) k (by omega) (by omega)
    rw [zct] at h1
    rw [F_L_law_l150, if_neg (nI_ge (by omega) (by omega)), hfi g (by omega), bd0_s, hfi f hf, bd0_s]
    by_cases c1 : zI z f < zI z g
    · have e1 : pb (zI z) f g = true := by unfold pb; simp [c1]
      rw [if_pos e1] at h1
      rw [if_pos c1, nm_k, nm_k, nI_1, nI_1]
      exact h1
    rw [if_neg c1]
    by_cases c2 : f ≤ g
    · have e1 : pb (zI z) f g = false := by unfold pb; simp [c1, Nat.not_lt.mpr c2]
      rw [if_neg (by rw [e1]; decide)] at h1
      rw [if_pos (nI_le c2 (by omega)), nm_k, nm_k, nI_1, Int32.add_zero]
      exact h1
    rw [if_neg (nI_ge (by omega) (by omega)), hfi g (by omega), bd0_s, hfi f hf, bd0_s]
    by_cases c3 : zI z g = zI z f
    · have e1 : pb (zI z) f g = true := by unfold pb; simp [c3, Nat.not_le.mp c2]
      rw [if_pos e1] at h1
      rw [if_neg (fun q => q c3), nm_k, nm_k, nI_1, nI_1]
      exact h1
    · have e1 : pb (zI z) f g = false := by unfold pb; simp [c1, c3]
      rw [if_neg (by rw [e1]; decide)] at h1
      rw [if_pos c3, nm_k, nm_k, nI_1, Int32.add_zero]
      exact h1
/-- what the rows hold when i have been laid -/
def LPR (M : MS) (z : Nat → Int32) (i : Nat) : Prop :=
  (∀ f, f < i → ∀ j, j < 8 → rA M 220 (8 * f + j) = zo z f (aw j)) ∧ (∀ f, i ≤ f → rA M 220 (8 * f + 3) = 0) ∧ (∀ k, rA M 221 k = 0) ∧
  (∀ f, f < i → rA M 222 (zct (pb (zI z) f) (zn z)) = nI f) ∧ rA M 223 0 = -1 ∧ (∀ j, 1 ≤ j → j ≤ 4 → rA M 223 j = 0) ∧ rA M 223 5 = nI (zn z)
theorem LPR_end {M : MS} {z : Nat → Int32} (h : LPR M z (zn z)) (hz : ZW z) (hQ : CQ z) : LRt M z (-1) := by
  obtain ⟨a, _, c, r, t0, t1, t5⟩ := h
  obtain ⟨⟨q1, q2, q3, q4, q5⟩, qf, qr⟩ := hQ
  refine ⟨a, fun f hf k hk => ?_, fun i hi => ?_, t0, fun j h1 h5 => ?_⟩
  · rw [c, (qf f hf).2.2.2 (11 + k) (by omega) (by omega)]
  · obtain ⟨b1, b2, _⟩ := br_ok (I := zI z) (zn z)
    obtain ⟨e1, e2⟩ := br_at (I := zI z) (zn z) (br (zI z) (zn z) i) (b1 i hi)
    have e3 := b2 _ _ e1 hi e2
    have := r _ (b1 i hi)
    rw [e3] at this
    rw [this, qr i hi]
  · rcases (show j = 1 ∨ j = 2 ∨ j = 3 ∨ j = 4 ∨ j = 5 by omega) with rfl | rfl | rfl | rfl | rfl
    · rw [t1 1 (by decide) (by decide)]; exact q1.symm
    · rw [t1 2 (by decide) (by decide)]; exact q3.symm
    · rw [t1 3 (by decide) (by decide)]; exact q4.symm
    · rw [t1 4 (by decide) (by decide)]; exact q5.symm
    · rw [t5]; exact hz.1.1.symm
/-- one more is laid -/
def lay (M : MS) (z : Nat → Int32) (f : Nat) : MS := wA (fgt (wA (wA (wA M 220 (8 * f) (zo z f 2)) 220 (8 * f + 1) (zo z f 5)) 220 (8 * f + 2) (zo z f 1)) f) 222 (zct (pb (zI z) f) (zn z)) (nI f)
theorem lay_220 {M : MS} {z : Nat → Int32} {f g j : Nat} (hj : j < 8) : rA (lay M z f) 220 (8 * g + j) = if g = f then (if j = 0 then zo z f 2 else if j = 1 then zo z f 5 else if j = 2 then zo z f 1 else if j = 3 then rA M 220 (8 * f + 3) else -1) else rA M 220 (8 * g + j) := by
  unfold lay fgt
  rw [rA_wAn (by decide), rA_wA, rA_wA, rA_wA, rA_wA, rA_wA, rA_wA, rA_wA]
  simp only [upd]
  by_cases c : g = f
  · subst c
    rcases (show j = 0 ∨ j = 1 ∨ j = 2 ∨ j = 3 ∨ j = 4 ∨ j = 5 ∨ j = 6 ∨ j = 7 by omega) with rfl | rfl | rfl | rfl | rfl | rfl | rfl | rfl <;> simp
  · rw [if_neg c, if_neg (by omega), if_neg (by omega), if_neg (by omega), if_neg (by omega), if_neg (by omega), if_neg (by omega), if_neg (by omega)]
theorem LF_lay {M : MS} {z : Nat → Int32} {f : Nat} : LF M (lay M z f) := by
  unfold lay fgt
  exact LF_trans (LF_trans (LF_trans (LF_trans (LF_trans (LF_trans (LF_trans (LF_A (by decide)) (LF_A (by decide))) (LF_A (by decide))) (LF_A (by decide))) (LF_A (by decide))) (LF_A (by decide))) (LF_A (by decide))) (LF_A (by decide))
theorem LPR_lay {M : MS} {z : Nat → Int32} {f : Nat} (h : LPR M z f) (hf : f < zn z) (hQ : CQ z) : LPR (lay M z f) z (f + 1) := by
  obtain ⟨a, a3, c, r, t0, t1, t5⟩ := h
  obtain ⟨_, qf, qr⟩ := hQ
  have o : ∀ v, v ≠ 220 → v ≠ 222 → rA (lay M z f) v = rA M v := fun v h1 h2 => by
    unfold lay fgt
    rw [rA_wAn h2, rA_wAn h1, rA_wAn h1, rA_wAn h1, rA_wAn h1, rA_wAn h1, rA_wAn h1, rA_wAn h1]
  have e222 : rA (lay M z f) 222 = upd (rA M 222) (zct (pb (zI z) f) (zn z)) (nI f) := by
    unfold lay fgt
    rw [rA_wA, rA_wAn (by decide), rA_wAn (by decide), rA_wAn (by decide), rA_wAn (by decide), rA_wAn (by decide), rA_wAn (by decide), rA_wAn (by decide)]
  refine ⟨fun g hg j hj => ?_, fun g hg => ?_, fun k => ?_, fun g hg => ?_, ?_, fun j h1 h4 => ?_, ?_⟩
  · rw [lay_220 hj]
    by_cases e : g = f
    · subst e
      obtain ⟨b1, b2, b3, b4⟩ := qf g hf
      rw [if_pos rfl]
      rcases (show j = 0 ∨ j = 1 ∨ j = 2 ∨ j = 3 ∨ j = 4 ∨ j = 5 ∨ j = 6 ∨ j = 7 by omega) with rfl | rfl | rfl | rfl | rfl | rfl | rfl | rfl
      · rfl
      · rfl
      · rfl
      · exact (a3 g (Nat.le_refl _)).trans b2.symm
      · exact (b3 7 (by decide) (by decide)).symm
      · exact (b3 8 (by decide) (by decide)).symm
      · exact (b3 9 (by decide) (by decide)).symm
      · exact (b3 10 (by decide) (by decide)).symm
    · rw [if_neg e]
      exact a g (by omega) j hj
  · rw [lay_220 (by decide), if_neg (by omega)]
    exact a3 g (by omega)
  · rw [o 221 (by decide) (by decide), c]
  · rw [e222]
    by_cases e : g = f
    · rw [e, upd_s]
    · have e1 := (br_at (I := zI z) (zn z) g (by omega)).2
      have e2 := (br_at (I := zI z) (zn z) f hf).2
      rw [upd_n (fun q => e (by rw [q] at e1; exact e1.symm.trans e2))]
      exact r g (by omega)
  · rw [o 223 (by decide) (by decide), t0]
  · rw [o 223 (by decide) (by decide), t1 j h1 h4]
  · rw [o 223 (by decide) (by decide), t5]
/-- nothing of a fresh skirmish changes as it begins, but the round -/
theorem zl_eq {z : Nat → Int32} {f w : Nat} {x : Int32} (h : zo z f w = x) : zl z f w x = z := by rw [← h]; exact zl_same
theorem zb1_fresh {z : Nat → Int32} (hz : Z0 z) (hQ : CQ z) : zb1' z = upd z 1 1 := by
  obtain ⟨_, qf, qr⟩ := hQ
  have e1 : zbr z (zn z) = z := by
    funext j
    unfold zbr
    by_cases c : 6 ≤ j ∧ j < 6 + zn z
    · rw [if_pos c, ← qr (j - 6) (by omega), show 6 + (j - 6) = j by omega]
    · rw [if_neg c]
  have e2 : ∀ m, m ≤ zn z → zloses z m = z := by
    intro m
    induction m with
    | zero => intro _; rfl
    | succ m ih =>
      intro hm
      obtain ⟨_, _, b3, _⟩ := qf m (by omega)
      rw [zloses, ih (by omega)]
      unfold zlose
      rw [zl_eq (b3 7 (by decide) (by decide)), zl_eq (b3 8 (by decide) (by decide)), zl_eq (b3 9 (by decide) (by decide)), zl_eq (b3 10 (by decide) (by decide))]
  have e3 : ∀ m, m ≤ zn z → zdel z m = z := by
    intro m
    induction m with
    | zero => intro _; rfl
    | succ m ih =>
      intro hm
      rw [zdel, ih (by omega), zl_eq (qf m (by omega)).2.1]
  unfold zb1' zb0
  rw [e1, e2 _ (Nat.le_refl _), e3 _ (Nat.le_refl _)]
set_option maxHeartbeats 8000000 in
theorem l85_ok {xs : Nat → Int32} {L n : Nat} {z : Nat → Int32} (hL : L ≤ 260) (hn2 : 2 ≤ n) (h6 : n ≤ 6) (hn : zn z = n) (hQ : CQ z) : ∀ d i k (M : MS), i + d = n → d < k → SJ M z → LPR M z i → F_L_law_l85 xs L (nI n) k (nI i) M = some 1 := by
  subst hn
  intro d
  induction d with
  | zero =>
    intro i k M hi hk hS hP
    obtain ⟨k, rfl⟩ : ∃ q, k = q + 1 := ⟨k - 1, by omega⟩
    have e : i = zn z := by omega
    subst e
    obtain ⟨hz, ht⟩ := SJ_z hS
    have hl : LRt M z (z 2) := by rw [hQ.1.2.1]; exact LPR_end hP hz hQ
    obtain ⟨M1, a1, a2, a3⟩ := tells_ok hS hl h6
    rw [hQ.1.2.1] at a2
    have l1 : LRt (wA M1 223 1 1) (upd z 1 1) (-1) := LRt_t (g := 1) a2 hz.1 (by decide) (by decide)
    have w1 := ZW_up (g := 1) (x := 1) hz (by decide) (by decide)
    have n1 : zn (upd z 1 1) = zn z := zn_up hz.1 (by decide) (by decide)
    have hall : ¬ zall (upd z 1 1) (zn (upd z 1 1)) = true := by
      intro q
      have q2 := (zall_iff _).mp q 0 (by rw [n1]; omega)
      rw [zo_lo (by decide)] at q2
      exact (hQ.2.1 0 (by omega)).1 q2
    obtain ⟨M2, b1, b2, b3⟩ := goOn_ok (x := -1) (p := 0) l1 w1 (by rw [n1]; exact h6) (Nat.zero_le _) hall (by decide)
    have hb : zbegin z = zgo 100 (upd z 1 1) 0 := by unfold zbegin; rw [zb1_fresh hz.1 hQ]
    have hS2 := SJ_LF (SJ_LF (SJ_LF hS a3) (LF_A (v := 223) (i := 1) (x := 1) (by decide))) b3
    obtain ⟨M3, c1, c2, c3⟩ := q_begin hS2
    rw [← hb] at b2
    have l3 := LRt_MP b2 c3
    obtain ⟨w2, t2, n2⟩ := zbegin_ok hz
    obtain ⟨M4, d1, d2, d3⟩ := tells_ok c2 l3 (by rw [n2]; exact h6)
    have hmu := zmu_60 w1
    have hTA : TA (zbegin z) := by rw [hb]; exact zgo_ta 100 _ 0 w1 (Nat.zero_le _) (by omega)
    have hm := main_l (xs := xs) hL hn2 h6 45 0 46 M4 (zbegin z) (by omega) (by omega) ⟨SJ_LF c2 d3, d2, n2, hTA⟩
    rw [F_L_law_l85, if_pos (nI_le (Nat.le_refl _) (by omega)), a1, bd2_s, if_pos (by decide), g71, tn1, nm_k, b1, bd_s, c1, bd2_s, g70, tn0, l3.2.2.2.1, if_neg (fun q => q rfl), d1, bd2_s, if_pos (by decide)]
    exact hm
  | succ d ih =>
    intro i k M hi hk hS hP
    obtain ⟨k, rfl⟩ : ∃ q, k = q + 1 := ⟨k - 1, by omega⟩
    have hin : i < zn z := by omega
    have h1 := ih (i + 1) k (lay M z i) (by omega) (by omega) (SJ_LF hS LF_lay) (LPR_lay hP hin hQ)
    have s1 := SJ_LF hS (LF_A (M := M) (v := 220) (i := 8 * i) (x := zo z i 2) (by decide))
    have s2 := SJ_LF s1 (LF_A (v := 220) (i := 8 * i + 1) (x := zo z i 5) (by decide))
    have s3 := SJ_LF s2 (LF_A (v := 220) (i := 8 * i + 2) (x := zo z i 1) (by decide))
    have s4 : SJ (fgt (wA (wA (wA M 220 (8 * i) (zo z i 2)) 220 (8 * i + 1) (zo z i 5)) 220 (8 * i + 2) (zo z i 1)) i) z := by
      unfold fgt
      exact SJ_LF s3 (LF_trans (LF_trans (LF_trans (LF_A (by decide)) (LF_A (by decide))) (LF_A (by decide))) (LF_A (by decide)))
    have k1 : F_X4_fighter M (nI i) 2 = some (0, zo z i 2, M) := by rw [nI_lit 2, q_fighter hS hin (by decide), tl_lo (by decide)]
    have k2 : F_X4_fighter (wA M 220 (8 * i) (zo z i 2)) (nI i) 5 = some (0, zo z i 5, wA M 220 (8 * i) (zo z i 2)) := by rw [nI_lit 5, q_fighter s1 hin (by decide), tl_lo (by decide)]
    have k3 : F_X4_fighter (wA (wA M 220 (8 * i) (zo z i 2)) 220 (8 * i + 1) (zo z i 5)) (nI i) 1 = some (0, zo z i 1, wA (wA M 220 (8 * i) (zo z i 2)) 220 (8 * i + 1) (zo z i 5)) := by rw [nI_lit 1, q_fighter s2 hin (by decide), tl_lo (by decide)]
    have k4 := l150_ok (K := fun zz0 zz1 => F_L_law_l85 xs L (nI (zn z)) k zz0 zz1) s4 h6 hin (zn z) 0 8 (by omega) (by omega)
    rw [F_L_law_l85, if_neg (nI_ge (by omega) (by omega)), k1, bd0_s, ix8, gdb_t (inb_nI (by omega) (by decide)), nI_clamp (n := 8 * i) (by omega), nm_k, k2, bd0_s, ← ix8, ix81, gdb_t (inb_nI (by omega) (by decide)), nI_clamp (n := 8 * i + 1) (by omega), nm_k, k3, bd0_s, ix82, gdb_t (inb_nI (by omega) (by decide)), nI_clamp (n := 8 * i + 2) (by omega), nm_k, forget_eq (by omega), bd_s]
    exact k4.trans h1
