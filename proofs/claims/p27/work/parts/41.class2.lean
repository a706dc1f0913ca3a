/-! turns in the class -/
theorem zl_same {z : Nat → Int32} {f w : Nat} : zl z f w (zo z f w) = z := by
  funext i
  unfold zl upd zo
  by_cases h : i = 16 + 17 * f + w
  · rw [if_pos h, h]
  · rw [if_neg h]
theorem up_same {z : Nat → Int32} {g : Nat} {x : Int32} (h : z g = x) : upd z g x = z := by
  funext i
  unfold upd
  by_cases e : i = g
  · rw [if_pos e, e, h]
  · rw [if_neg e]
theorem CR_n {M0 M : MS} {v f w : Nat} {R z : Nat → Int32} {x : Int32} (h : CR M0 v R M z) : zn (zl z f w x) = zn z := zn_zl h.1
theorem forget_l {M0 M : MS} {v f : Nat} {R z : Nat → Int32} (h : CR M0 v R M z) (hf : f < zn z) : ∃ M', F_X0_forgetReadied M (v + 1 + 4 + f) = some M' ∧ CR M0 v R M' (zlose z f) := by
  have h1 := CR_set (w := 7) (x := -1) h hf (by decide)
  have h2 := CR_set (f := f) (w := 8) (x := -1) h1 (by rw [CR_n h]; exact hf) (by decide)
  have h3 := CR_set (f := f) (w := 9) (x := -1) h2 (by rw [CR_n h1, CR_n h]; exact hf) (by decide)
  have h4 := CR_set (f := f) (w := 10) (x := -1) h3 (by rw [CR_n h2, CR_n h1, CR_n h]; exact hf) (by decide)
  exact ⟨_, rfl, h4⟩
theorem bleed_l {M0 M : MS} {v f : Nat} {R z : Nat → Int32} (h : CR M0 v R M z) (hf : f < zn z) (hw : ∃ l, l ≤ 99 ∧ zo z f 2 = nI l) : ∃ M', F_X0_bleed M (v + 1 + 4 + f) = some M' ∧ CR M0 v R M' (if 0 < zo z f 14 then zl z f 2 (if 2 ≤ zo z f 2 then zo z f 2 - 2 else 0) else z) := by
  obtain ⟨l, hl, e⟩ := hw
  rw [F_X0_bleed, rnd_l h.2.1 hf (by decide), bd_s]
  by_cases c : 0 < zo z f (11 + 3)
  · rw [if_neg (Int32.not_le.mpr c), if_pos c, nm_k, nm_k, f_life h.2.1 hf]
    have h1 := CR_set (w := 2) (x := if 2 ≤ zo z f 2 then zo z f 2 - 2 else 0) h hf (by decide)
    have e2 : (if zo z f 2 - 2 < 0 then (0 : Int32) else zo z f 2 - 2) = if 2 ≤ zo z f 2 then zo z f 2 - 2 else 0 := by
      rw [e, nI_lit 2]
      by_cases q : 2 ≤ l
      · rw [pk_sub q, if_neg (nI_pos (by omega)), if_pos (nI_le q (by omega))]
      · rw [if_pos (pk_sneg (by decide) (by omega)), if_neg (nI_ge (by omega) (by decide))]
    rw [e2]
    exact ⟨_, rfl, h1⟩
  · rw [if_pos (Int32.not_lt.mp c), if_neg c]
    exact ⟨M, rfl, h⟩
theorem cbegin_l {M0 M : MS} {v f : Nat} {R z : Nat → Int32} (h : CR M0 v R M z) (hz : ZW z) (hf : f < zn z) (ht : z 2 = nI f) : ∃ M', F_X3_beginTurn M v = some ((if zo (zbeg z f) f 2 = 0 then 0 else if 0 < zo (zbeg z f) f 11 then 0 else 1), M') ∧ CR M0 v R M' (zbeg z f) := by
  have hwb := ZW_beg hz hf
  have hnb := (Z0_beg (f := f) hz.1).2.1
  rw [F_X3_beginTurn, h.2.1.1.2.2.1, ht, at_l hz.1 h.2.1 hf, bd_s, nm_k, h.2.1.1.2.2.2.2.2]
  have h1 := CR_glob (x := z 5 + 1) h (show gpair 55 5 by unfold gpair; omega)
  have e1 : upd z 5 (z 5 + 1) = upd (upd z 2 (nI f)) 5 (z 5 + 1) := by rw [up_same ht]
  rw [e1] at h1
  have n1 : zn (upd (upd z 2 (nI f)) 5 (z 5 + 1)) = zn z := by unfold zn; rw [upd_n (by decide), upd_n (by decide)]
  obtain ⟨M2, g1, g2⟩ := forget_l h1 (f := f) (by rw [n1]; exact hf)
  rw [g1, bd_s]
  have n2 : zn (zlose (upd (upd z 2 (nI f)) 5 (z 5 + 1)) f) = zn z := by unfold zn; rw [zlose_lo (by decide), upd_n (by decide), upd_n (by decide)]
  have e2 : zo (zlose (upd (upd z 2 (nI f)) 5 (z 5 + 1)) f) f 2 = zo z f 2 := zb1n (by decide) (by decide)
  have e14 : zo (zlose (upd (upd z 2 (nI f)) 5 (z 5 + 1)) f) f 14 = zo z f 14 := zb1n (by decide) (by decide)
  obtain ⟨M3, k1, k2⟩ := bleed_l g2 (f := f) (by rw [n2]; exact hf) (by rw [e2]; exact (hz.2.1 f hf).2.1)
  rw [k1, bd_s]
  have e3 : (if 0 < zo (zlose (upd (upd z 2 (nI f)) 5 (z 5 + 1)) f) f 14 then zl (zlose (upd (upd z 2 (nI f)) 5 (z 5 + 1)) f) f 2 (if 2 ≤ zo (zlose (upd (upd z 2 (nI f)) 5 (z 5 + 1)) f) f 2 then zo (zlose (upd (upd z 2 (nI f)) 5 (z 5 + 1)) f) f 2 - 2 else 0) else zlose (upd (upd z 2 (nI f)) 5 (z 5 + 1)) f) = zbeg z f := by
    rw [e14, e2]
    rfl
  rw [e3] at k2
  have hfb : f < zn (zbeg z f) := by rw [hnb]; exact hf
  rw [fal_l k2.2.1 hfb (hwb.2.1 f hfb), bd_s]
  by_cases c : zo (zbeg z f) f 2 = 0
  · rw [if_pos c, if_pos (by decide), if_pos c]
    exact ⟨M3, rfl, k2⟩
  · rw [if_neg c, if_neg (by decide), if_neg c, rnd_l k2.2.1 hfb (by decide), bd_s]
    obtain ⟨l, hl, e⟩ := (hwb.2.1 f hfb).2.2.2.2.2.2.2 0 (by decide)
    have e11 : zo (zbeg z f) f 11 = nI l := e
    rw [e]
    by_cases q : nI l = 0
    · rw [if_neg (fun r => r q), if_neg (fun r => (nI_gt0 (by omega)).mp r q)]
      exact ⟨M3, rfl, k2⟩
    · rw [if_pos q, if_pos ((nI_gt0 (by omega)).mpr q)]
      exact ⟨M3, rfl, k2⟩
theorem cpass_l {M0 M : MS} {v f : Nat} {R z : Nat → Int32} (hz : ZW z) (hf : f < zn z) : ∀ d c k (M : MS), c + d = 4 → d < k → CR M0 v R M (zpass z f c) → ∃ M', F_X0_passRound_l2 (v + 1 + 4 + f) k (nI c) M = some M' ∧ CR M0 v R M' (zpass z f 4) := by
  intro d
  induction d with
  | zero =>
    intro c k M hc hk h
    obtain ⟨k, rfl⟩ : ∃ q, k = q + 1 := ⟨k - 1, by omega⟩
    have e : c = 4 := by omega
    subst e
    rw [F_X0_passRound_l2, if_pos (by decide)]
    exact ⟨M, rfl, h⟩
  | succ d ih =>
    intro c k M hc hk h
    obtain ⟨k, rfl⟩ : ∃ q, k = q + 1 := ⟨k - 1, by omega⟩
    have hn : zn (zpass z f c) = zn z := (Z0_pass hz.1).2.1
    have h11 : zo (zpass z f c) f (11 + c) = zo z f (11 + c) := by rw [zpass_o (by omega) c (by omega), if_neg (by omega)]
    obtain ⟨l, hl, e⟩ := (hz.2.1 f hf).2.2.2.2.2.2.2 c (by omega)
    rw [F_X0_passRound_l2, if_neg (show ¬ (4 : Int32) ≤ nI c from nI_ge (b := 4) (by omega) (by decide)), gdb_t (inb_nI (by omega) (by decide)), nI_clamp (by omega), f_cond h.2.1 (by rw [hn]; exact hf) (by omega), h11]
    by_cases q : 0 < zo z f (11 + c)
    · rw [if_neg (Int32.not_le.mpr q), gdb_t (inb_nI (by omega) (by decide)), gdb_t (inb_nI (by omega) (by decide)), nm_k, nm_k, nI_1]
      have h1 := CR_set (f := f) (w := 11 + c) (x := zo z f (11 + c) - 1) h (by rw [hn]; exact hf) (by omega)
      have e1 : zl (zpass z f c) f (11 + c) (zo z f (11 + c) - 1) = zpass z f (c + 1) := by rw [zpass, if_pos q]
      have e2 : cw M v f (11 + c) (zo z f (11 + c) - 1) = wA M (v + 1 + 4 + f + 11) c (zo z f (11 + c) - 1) := by
        unfold cw
        rw [if_neg (by omega), if_neg (by omega), if_neg (by omega), if_pos (by omega), show 11 + c - 11 = c by omega]
      rw [e1, e2] at h1
      exact ih (c + 1) k _ (by omega) (by omega) h1
    · rw [if_pos (Int32.not_lt.mp q), nm_k, nI_1]
      have e0 : zo z f (11 + c) = 0 := by
        rw [e] at q ⊢
        exact Classical.byContradiction (fun r => q ((nI_gt0 (by omega)).mpr r))
      have e1 : zpass z f (c + 1) = zpass z f c := by
        rw [zpass, if_neg q, ← e0, ← h11]
        exact zl_same
      exact ih (c + 1) k _ (by omega) (by omega) (by rw [e1]; exact h)
theorem cpass_eq {M0 M : MS} {v f : Nat} {R z : Nat → Int32} (h : CR M0 v R M z) (hz : ZW z) (hf : f < zn z) : ∃ M', F_X0_passRound M (v + 1 + 4 + f) = some M' ∧ CR M0 v R M' (zpass z f 4) := by
  rw [F_X0_passRound]
  exact cpass_l (M := M) hz hf 4 0 FU M (by omega) (by rw [FU_s]; omega) h
theorem cdel_l {M0 : MS} {v : Nat} {R z : Nat → Int32} (hz : Z0 z) : ∀ d i k (M : MS), i + d = zn z → d < k → CR M0 v R M (zdel z i) → ∃ M', F_X3_endDelays_l2 v k (nI i) M = some M' ∧ CR M0 v R M' (zdel z (zn z)) := by
  have hb := hz.2.1
  intro d
  induction d with
  | zero =>
    intro i k M hi hk h
    obtain ⟨k, rfl⟩ : ∃ q, k = q + 1 := ⟨k - 1, by omega⟩
    have e : i = zn z := by omega
    subst e
    rw [F_X3_endDelays_l2, h.2.1.1.1, zdel_lo (by decide), if_pos ((z0_le hz (by omega)).mpr (by omega))]
    exact ⟨M, rfl, h⟩
  | succ d ih =>
    intro i k M hi hk h
    obtain ⟨k, rfl⟩ : ∃ q, k = q + 1 := ⟨k - 1, by omega⟩
    have hn : zn (zdel z i) = zn z := (Z0_del hz).2.1
    rw [F_X3_endDelays_l2, h.2.1.1.1, zdel_lo (by decide), if_neg (fun q => by have := (z0_le hz (by omega)).mp q; omega), at_l h.1 h.2.1 (by omega), bd_s, nm_k, nm_k, nI_1]
    exact ih (i + 1) k _ (by omega) (by omega) (CR_set (w := 6) (x := 0) h (by omega) (by decide))
theorem cdel_eq {M0 M : MS} {v : Nat} {R z : Nat → Int32} (h : CR M0 v R M z) : ∃ M', F_X3_endDelays M v = some M' ∧ CR M0 v R M' (zdel z (zn z)) := by
  have hb := h.1.2.1
  rw [F_X3_endDelays]
  exact cdel_l h.1 (zn z) 0 FU M (by omega) (by rw [FU_s]; omega) h
/-- how many of a side stand -/
def zst (z : Nat → Int32) (s : Int32) : Nat → Nat
  | 0 => 0
  | m + 1 => if zo z m 0 = s ∧ ¬ zo z m 2 = 0 then zst z s m + 1 else zst z s m
theorem zst_le {z : Nat → Int32} {s : Int32} : ∀ m, zst z s m ≤ m
  | 0 => Nat.le_refl _
  | m + 1 => by
    have := zst_le (z := z) (s := s) m
    rw [zst]
    split <;> omega
theorem cst_l {M : MS} {v : Nat} {z : Nat → Int32} {s : Int32} (hz : ZW z) (h : CZ M v z) : ∀ d i k, i + d = zn z → d < k → F_X3_standingOf_l4 v s M k (nI (zst z s i)) (nI i) = some (nI (zst z s (zn z))) := by
  have hb := hz.1.2.1
  intro d
  induction d with
  | zero =>
    intro i k hi hk
    obtain ⟨k, rfl⟩ : ∃ q, k = q + 1 := ⟨k - 1, by omega⟩
    have e : i = zn z := by omega
    subst e
    rw [F_X3_standingOf_l4, h.1.1, if_pos ((z0_le hz.1 (by omega)).mpr (by omega))]
  | succ d ih =>
    intro i k hi hk
    obtain ⟨k, rfl⟩ : ∃ q, k = q + 1 := ⟨k - 1, by omega⟩
    have ih' := ih (i + 1) k (by omega) (by omega)
    rw [zst] at ih'
    rw [F_X3_standingOf_l4, h.1.1, if_neg (fun q => by have := (z0_le hz.1 (by omega)).mp q; omega), at_l hz.1 h (by omega), bd_s, f_side h (by omega)]
    by_cases c1 : zo z i 0 = s
    · rw [if_neg (fun q => q c1), bd_s, fal_l h (by omega) (hz.2.1 i (by omega)), bd_s]
      by_cases c2 : zo z i 2 = 0
      · rw [if_pos c2, if_pos (by decide), nm_k, nI_1]
        rw [if_neg (fun q => q.2 c2)] at ih'
        exact ih'
      · rw [if_neg c2, if_neg (by decide), nm_k, nm_k, nI_1, nI_1]
        rw [if_pos ⟨c1, c2⟩] at ih'
        exact ih'
    · rw [if_pos c1, nm_k, nI_1]
      rw [if_neg (fun q => c1 q.1)] at ih'
      exact ih'
theorem cst_eq {M : MS} {v : Nat} {z : Nat → Int32} {s : Int32} (hz : ZW z) (h : CZ M v z) : F_X3_standingOf M v s = some (nI (zst z s (zn z))) := by
  have hb := hz.1.2.1
  rw [F_X3_standingOf]
  exact cst_l hz h (zn z) 0 FU (by omega) (by rw [FU_s]; omega)
theorem zst_all {z : Nat → Int32} : ∀ m, (∀ f, f < m → zo z f 0 = 0 ∨ zo z f 0 = 1) → (zst z 0 m + zst z 1 m = 0 ↔ zall z m = true)
  | 0, _ => by simp [zst, zall]
  | m + 1, h => by
    have ih := zst_all m (fun f hf => h f (by omega))
    rw [zst, zst, zall, Bool.and_eq_true, decide_eq_true_eq]
    by_cases c2 : zo z m 2 = 0
    · rw [if_neg (fun q => q.2 c2), if_neg (fun q => q.2 c2), ih]
      exact ⟨fun q => ⟨q, c2⟩, fun q => q.1⟩
    · constructor
      · intro q
        exfalso
        rcases h m (by omega) with e | e
        · rw [if_pos ⟨e, c2⟩] at q; omega
        · rw [if_pos (show zo z m 0 = 1 ∧ ¬ zo z m 2 = 0 from ⟨e, c2⟩)] at q; omega
      · intro q; exact absurd q.2 c2
/-- who comes next -/
theorem cturn_l {M0 M : MS} {v f : Nat} {R z : Nat → Int32} (h : CR M0 v R M z) (hz : ZW z) (hf : f < zn z) (ht : z 2 = nI f) : ∃ r M', F_X3_nextTurn M v = some (r, M') ∧ ((zall z (zn z) = true ∧ r = -1 ∧ CR M0 v R M' z) ∨ (¬ zall z (zn z) = true ∧ r = (znext z (zpn z f + 1)).2 ∧ CR M0 v R M' (znext z (zpn z f + 1)).1)) := by
  have hb := hz.1.2.1
  have hp := (zpn_lt hz.1 hf).1
  rw [F_X3_nextTurn, h.2.1.1.2.2.1, ht, cplace_eq hz.1 h.2.1 hf, bd_s, nI_1, cnext_eq hz h.2.1 (by omega), bd_s]
  by_cases c : znx z (zn z - (zpn z f + 1)) (zpn z f + 1) = -1
  · rw [c, if_neg (fun q => q rfl), cst_eq hz h.2.1, bd_s, cst_eq hz h.2.1, bd_s, nI_add]
    have hl0 := zst_le (z := z) (s := 0) (zn z)
    have hl1 := zst_le (z := z) (s := 1) (zn z)
    have hall := zst_all (z := z) (zn z) (fun f hf => (hz.2.1 f hf).1)
    by_cases ha : zall z (zn z) = true
    · have e0 : zst z 0 (zn z) + zst z 1 (zn z) = 0 := hall.mpr ha
      rw [e0, if_neg (fun q => q rfl)]
      exact ⟨_, _, rfl, Or.inl ⟨ha, rfl, h⟩⟩
    · have e0 : ¬ nI (zst z 0 (zn z) + zst z 1 (zn z)) = 0 := by
        refine nI_ne0 ?_ (by omega)
        rcases Nat.eq_zero_or_pos (zst z 0 (zn z) + zst z 1 (zn z)) with q | q
        · exact absurd (hall.mp q) ha
        · exact q
      rw [if_pos e0, nm_k, h.2.1.1.2.1]
      have h1 := CR_glob (x := z 1 + 1) h (show gpair 53 1 by unfold gpair; omega)
      have n1 : zn (upd z 1 (z 1 + 1)) = zn z := zn_up hz.1 (by decide) (by decide)
      obtain ⟨M2, g1, g2⟩ := cdel_eq h1
      rw [n1] at g2
      have hw1 : ZW (upd z 1 (z 1 + 1)) := ZW_up hz (by decide) (by decide)
      have hw2 : ZW (zdel (upd z 1 (z 1 + 1)) (zn z)) := ZW_del hw1 _ (by rw [n1]; exact Nat.le_refl _)
      have n2 : zn (zdel (upd z 1 (z 1 + 1)) (zn z)) = zn z := by rw [(Z0_del hw1.1).2.1, n1]
      have e3 : (0 : Int32) = nI 0 := rfl
      rw [g1, bd_s, e3, cnext_eq hw2 g2.2.1 (by omega), bd_s, n2, Nat.sub_zero]
      have e1 : znext z (zpn z f + 1) = (zdel (upd z 1 (z 1 + 1)) (zn z), znx (zdel (upd z 1 (z 1 + 1)) (zn z)) (zn z) 0) := by unfold znext; rw [if_pos c]
      exact ⟨_, _, rfl, Or.inr ⟨ha, by rw [e1], by rw [e1]; exact g2⟩⟩
  · rw [if_pos c]
    have e1 : znext z (zpn z f + 1) = (z, znx z (zn z - (zpn z f + 1)) (zpn z f + 1)) := by unfold znext; rw [if_neg c]
    have ha : ¬ zall z (zn z) = true := fun q => by
      rcases znx_range hz.1 (zn z - (zpn z f + 1)) (zpn z f + 1) (by omega) with ⟨g1, _⟩ | ⟨i, g1, g2, g3, g4, g5⟩
      · exact c g1
      · exact g4 ((zall_iff _).mp q _ (hz.1.2.2.1 i g2).2)
    exact ⟨_, _, rfl, Or.inr ⟨ha, by rw [e1], by rw [e1]; exact h⟩⟩
theorem up_up {z : Nat → Int32} {g : Nat} {a b : Int32} : upd (upd z g a) g b = upd z g b := by
  funext i
  unfold upd
  by_cases e : i = g
  · rw [if_pos e, if_pos e]
  · rw [if_neg e, if_neg e, if_neg e]
theorem zbeg_up {z : Nat → Int32} {f : Nat} : zbeg (upd z 2 (nI f)) f = zbeg z f := by
  unfold zbeg
  rw [zo_lo (by decide), zo_lo (by decide), up_up, upd_n (by decide)]
theorem cend_l {M0 : MS} {v : Nat} {R : Nat → Int32} : ∀ m (z : Nat → Int32) (f i k : Nat) (M : MS), CR M0 v R M z → ZW z → f < zn z → z 2 = nI f → zmu (zpass z f 4) (zn z) < m → m < k → i + m < 1000 → ∃ M', F_X3_endTurn_l2 v k (nI i) M = some M' ∧ CR M0 v R M' (zgo m (zpass z f 4) (zpn (zpass z f 4) f + 1)) := by
  intro m
  induction m with
  | zero => intro z f i k M _ _ _ _ h; omega
  | succ m ih =>
    intro z f i k M h hz hf ht hmu hk hi
    have hb := hz.1.2.1
    obtain ⟨k, rfl⟩ : ∃ q, k = q + 1 := ⟨k - 1, by omega⟩
    rw [F_X3_endTurn_l2, if_neg (show ¬ (1000 : Int32) ≤ nI i from nI_ge (b := 1000) (by omega) (by decide)), h.2.1.1.2.2.1, ht, if_neg (ne1 f (by omega)), at_l hz.1 h.2.1 hf, bd_s]
    obtain ⟨M1, g1, g2⟩ := cpass_eq h hz hf
    have hz1 : ZW (zpass z f 4) := ZW_pass hz hf 4 (by decide)
    have n1 : zn (zpass z f 4) = zn z := (Z0_pass hz.1).2.1
    have ht1 : zpass z f 4 2 = nI f := by rw [zpass_lo (by decide), ht]
    have hp := (zpn_lt hz1.1 (f := f) (by rw [n1]; exact hf)).1
    obtain ⟨r, M2, k1, k2⟩ := cturn_l g2 hz1 (f := f) (by rw [n1]; exact hf) ht1
    rw [g1, bd_s, k1, bd2_s, nm_k, rF_self, zgo]
    rcases k2 with ⟨ha, hr, h2⟩ | ⟨ha, hr, h2⟩
    · rw [if_pos ha, hr, if_pos rfl, nm_k, nI_1]
      have h3 := CR_glob (x := -1) h2 (show gpair 54 2 by unfold gpair; omega)
      obtain ⟨k, rfl⟩ : ∃ q, k = q + 1 := ⟨k - 1, by omega⟩
      rw [F_X3_endTurn_l2, if_neg (show ¬ (1000 : Int32) ≤ nI (i + 1) from nI_ge (b := 1000) (by omega) (by decide)), rF_self, if_pos rfl]
      exact ⟨_, rfl, h3⟩
    · rw [if_neg ha]
      obtain ⟨f', hf', hn, hzz, hnn, h1, h6, ho, hrr⟩ := znext_ok hz1.1 (p := zpn (zpass z f 4) f + 1) (by omega) ha
      rw [n1] at hf' hnn
      have hcl : (znext (zpass z f 4) (zpn (zpass z f 4) f + 1)).2.toNatClampNeg = f' := by rw [hn, nI_clamp (by omega)]
      rw [hr, hcl, hn, if_neg (ne1 f' (by omega))]
      have h3 := CR_glob (x := nI f') h2 (show gpair 54 2 by unfold gpair; omega)
      have hw2 : ZW (znext (zpass z f 4) (zpn (zpass z f 4) f + 1)).1 := ZW_next hz1
      have hw3 := ZW_up (g := 2) (x := nI f') hw2 (by decide) (by decide)
      have n3 := zn_up (g := 2) (x := nI f') hw2.1 (by decide) (by decide)
      obtain ⟨M3, q1, q2⟩ := cbegin_l h3 hw3 (f := f') (by rw [n3, hnn]; exact hf') upd_s
      rw [zbeg_up] at q1 q2
      have hw4 : ZW (zbeg (znext (zpass z f 4) (zpn (zpass z f 4) f + 1)).1 f') := ZW_beg hw2 (by rw [hnn]; exact hf')
      have n4 : zn (zbeg (znext (zpass z f 4) (zpn (zpass z f 4) f + 1)).1 f') = zn z := (Z0_beg hw2.1).2.1.trans hnn
      rw [q1, bd2_s]
      by_cases hc : zo (zbeg (znext (zpass z f 4) (zpn (zpass z f 4) f + 1)).1 f') f' 2 = 0 ∨ 0 < zo (zbeg (znext (zpass z f 4) (zpn (zpass z f 4) f + 1)).1 f') f' 11
      · have e0 : (if zo (zbeg (znext (zpass z f 4) (zpn (zpass z f 4) f + 1)).1 f') f' 2 = 0 then (0 : Int32) else if 0 < zo (zbeg (znext (zpass z f 4) (zpn (zpass z f 4) f + 1)).1 f') f' 11 then 0 else 1) = 0 := by
          by_cases q : zo (zbeg (znext (zpass z f 4) (zpn (zpass z f 4) f + 1)).1 f') f' 2 = 0
          · rw [if_pos q]
          · rw [if_neg q, if_pos (hc.resolve_left q)]
        rw [e0, if_pos rfl, nm_k, nI_1, if_pos hc]
        have hstep := zgo_step hz1.1 (p := zpn (zpass z f 4) f + 1) (by omega) ha (by rw [n1]; exact hf') hn h1 hzz ho hc
        rw [n1] at hstep
        exact ih _ f' (i + 1) k M3 q2 hw4 (by rw [n4]; exact hf') (by rw [zbeg_lo (by decide)]; rfl) (by rw [n4]; omega) (by omega) (by omega)
      · have e0 : (if zo (zbeg (znext (zpass z f 4) (zpn (zpass z f 4) f + 1)).1 f') f' 2 = 0 then (0 : Int32) else if 0 < zo (zbeg (znext (zpass z f 4) (zpn (zpass z f 4) f + 1)).1 f') f' 11 then 0 else 1) = 1 := by
          rw [if_neg (fun q => hc (Or.inl q)), if_neg (fun q => hc (Or.inr q))]
        rw [e0, if_neg (by decide), if_neg hc]
        exact ⟨M3, rfl, q2⟩
/-- the class's endTurn -/
theorem cend_eq {M0 M : MS} {v f : Nat} {R z : Nat → Int32} (h : CR M0 v R M z) (hz : ZW z) (hf : f < zn z) (ht : z 2 = nI f) : ∃ M', F_X3_endTurn M v = some M' ∧ CR M0 v R M' (zend z f) := by
  have hb := hz.1.2.1
  have hmu := zmu_60 (ZW_pass hz hf 4 (by decide))
  rw [(Z0_pass hz.1).2.1] at hmu
  rw [F_X3_endTurn]
  exact cend_l 100 z f 0 FU M h hz hf ht (by omega) (by rw [FU_s]; omega) (by omega)
theorem cend_no {M : MS} {v : Nat} (ht : rF M 54 v = -1) : F_X3_endTurn M v = some M := by
  rw [F_X3_endTurn, FU_s, F_X3_endTurn_l2, if_neg (by decide), ht, if_pos rfl]

